/-! ===== the law's start ===== -/
theorem nw_L_8 : NewOk RL 8 14 [.null, .null, .null, .null, .null, .null, .null, .null, .int 0, .null, .null, .null, .null, .null] := ⟨RX11, TX11, tyX11, rfl, inT_X11, tyX11_ok, wd_1_35, wd_1_36, wd_1_1, fun j hj => by
  match j, hj with
  | 0, _ => rfl
  | 1, _ => rfl
  | 2, _ => rfl
  | 3, _ => rfl
  | 4, _ => rfl
  | 5, _ => rfl
  | 6, _ => rfl
  | 7, _ => rfl
  | 8, _ => rfl
  | 9, _ => rfl
  | 10, _ => rfl
  | 11, _ => rfl
  | 12, _ => rfl
  | 13, _ => rfl
  | j + 14, hj => exact absurd hj (by simp only [List.length_cons, List.length_nil]; omega)⟩
theorem nw_L_95 : NewOk RL 95 15 [.int 0, .null, .null, .int 0, .null, .null, .null, .int 0, .null, .int 0, .null, .null, .int 0, .null, .null, .int 0, .int 0, .int 0, .int 0, .int 0, .int 0, .null, .int 0, .null, .null, .null, .null, .null, .null, .null, .null, .null, .int 0, .null, .null, .null, .int 0, .null, .int 0, .int 0, .null, .int 0, .int 0, .int 0, .null, .int 0, .int 0] := ⟨RX12, TX12, tyX12, rfl, inT_X12, tyX12_ok, wd_6_121, wd_6_122, wd_1_16, fun j hj => by
  match j, hj with
  | 0, _ => rfl
  | 1, _ => rfl
  | 2, _ => rfl
  | 3, _ => rfl
  | 4, _ => rfl
  | 5, _ => rfl
  | 6, _ => rfl
  | 7, _ => rfl
  | 8, _ => rfl
  | 9, _ => rfl
  | 10, _ => rfl
  | 11, _ => rfl
  | 12, _ => rfl
  | 13, _ => rfl
  | 14, _ => rfl
  | 15, _ => rfl
  | 16, _ => rfl
  | 17, _ => rfl
  | 18, _ => rfl
  | 19, _ => rfl
  | 20, _ => rfl
  | 21, _ => rfl
  | 22, _ => rfl
  | 23, _ => rfl
  | 24, _ => rfl
  | 25, _ => rfl
  | 26, _ => rfl
  | 27, _ => rfl
  | 28, _ => rfl
  | 29, _ => rfl
  | 30, _ => rfl
  | 31, _ => rfl
  | 32, _ => rfl
  | 33, _ => rfl
  | 34, _ => rfl
  | 35, _ => rfl
  | 36, _ => rfl
  | 37, _ => rfl
  | 38, _ => rfl
  | 39, _ => rfl
  | 40, _ => rfl
  | 41, _ => rfl
  | 42, _ => rfl
  | 43, _ => rfl
  | 44, _ => rfl
  | 45, _ => rfl
  | 46, _ => rfl
  | j + 47, hj => exact absurd hj (by simp only [List.length_cons, List.length_nil]; omega)⟩
theorem ci_L_94 : CalI RL 94 yX11_init cX11_init 1 0 := ⟨⟨wd_1_1, wd_1_38, wd_1_39⟩, Or.inl wd_1_37, rfl, by decide +kernel, by decide +kernel, by decide +kernel⟩
theorem ci_L_97 : CalI RL 97 yX12_init cX12_init 1 0 := ⟨⟨wd_1_16, wd_6_124, wd_6_125⟩, Or.inl wd_6_123, rfl, by decide +kernel, by decide +kernel, by decide +kernel⟩
theorem dL_law__0 : decode cL_law_ 0 = .ok (.new 8, 3) := by decide +kernel
theorem dL_law__3 : decode cL_law_ 3 = .ok (.dup, 1) := by decide +kernel
theorem dL_law__4 : decode cL_law_ 4 = .ok (.invokespecial 94, 3) := by decide +kernel
theorem dL_law__7 : decode cL_law_ 7 = .ok (.astore_n 1, 1) := by decide +kernel
theorem dL_law__8 : decode cL_law_ 8 = .ok (.new 95, 3) := by decide +kernel
theorem dL_law__11 : decode cL_law_ 11 = .ok (.dup, 1) := by decide +kernel
theorem dL_law__12 : decode cL_law_ 12 = .ok (.invokespecial 97, 3) := by decide +kernel
theorem dL_law__15 : decode cL_law_ 15 = .ok (.astore_n 2, 1) := by decide +kernel
theorem dL_law__16 : decode cL_law_ 16 = .ok (.iconst 1, 1) := by decide +kernel
theorem dL_law__17 : decode cL_law_ 17 = .ok (.newarray .long, 2) := by decide +kernel
theorem dL_law__19 : decode cL_law_ 19 = .ok (.astore_n 3, 1) := by decide +kernel
theorem dL_law__20 : decode cL_law_ 20 = .ok (.iconst 0, 1) := by decide +kernel
theorem dL_law__21 : decode cL_law_ 21 = .ok (.istore 4, 2) := by decide +kernel
/-- what the law makes -/
def f_start (Z : Nat → Nat) : Mo (Option Nat × Option Nat × Option Nat) := mb (nO 14 [.null, .null, .null, .null, .null, .null, .null, .null, .int 0, .null, .null, .null, .null, .null]) (fun x => mb (mo 14 x (f_X11_init Z x)) (fun _ => mb (nO 15 [.int 0, .null, .null, .int 0, .null, .null, .null, .int 0, .null, .int 0, .null, .null, .int 0, .null, .null, .int 0, .int 0, .int 0, .int 0, .int 0, .int 0, .null, .int 0, .null, .null, .null, .null, .null, .null, .null, .null, .null, .int 0, .null, .null, .null, .int 0, .null, .int 0, .int 0, .null, .int 0, .int 0, .int 0, .null, .int 0, .int 0]) (fun m => mb (mo 15 m (f_X12_init m)) (fun _ => mb (nA 2 1) (fun o => mp (x, m, o))))))
theorem mb_assoc {α β γ : Type} (x : Mo α) (f : α → Mo β) (g : β → Mo γ) : mb (mb x f) g = mb x (fun a => mb (f a) g) := by
  funext h
  unfold mb
  cases hx : x h with
  | none => rfl
  | some r =>
    obtain ⟨a, h1, c1, n1⟩ := r
    dsimp only
    cases hf : f a h1 with
    | none => rfl
    | some r2 =>
      obtain ⟨b, h2, c2, n2⟩ := r2
      dsimp only
      cases hg : g b h2 with
      | none => rfl
      | some r3 =>
        obtain ⟨d, h3, c3, n3⟩ := r3
        simp only [Nat.add_assoc]
theorem mb_mp {α β : Type} (a : α) (f : α → Mo β) : mb (mp a) f = f a := by
  funext h
  unfold mb mp
  dsimp only
  cases hf : f a h with
  | none => rfl
  | some r =>
    obtain ⟨b, h2, c2, n2⟩ := r
    simp only [Nat.zero_add]
set_option maxRecDepth 100000 in
set_option maxHeartbeats 4000000 in
theorem s_start {X : Cg} (cx : Cx X cL_law_ RL 7) (hfr : 8 ≤ (xR X).frames) (hlo : 190 ≤ (xR X).locals) {Q : State → Prop} {b : Nat} (K : Option Nat × Option Nat × Option Nat → Mo Unit) (hK : ∀ v : Option Nat × Option Nat × Option Nat, Sim X 7 (fun (_ : Unit) (_ : Hs) => Q) 20 [(3, va_rf v.2.2), (2, va_rf v.2.1), (1, va_rf v.1), (0, va_rf (some b))] [] (K v)) : Sim X 7 (fun (_ : Unit) (_ : Hs) => Q) 0 [(0, va_rf (some b))] [] (mb (f_start (xZ X)) K) := by
  unfold f_start
  simp only [mb_assoc, mb_mp]
  refine sm_new cx nw_L_8 dL_law__0 (fun v1 => ?_)
  refine sm_dup cx dL_law__3 (rf_cat _) ?_
  refine sm_callI (ci := 14) (toV := vV) cx [] ci_L_94 (fun a h => ct_X11_init (xZ X) a h) (Nat.le_trans (by decide) hfr) (Nat.le_trans (by decide) hlo) rfl (cat_le _ (Nat.le_of_ble_eq_true rfl)) dL_law__4 (fun _ => ?_)
  refine sm_astore_n cx [(1, va_rf v1), (0, va_rf (some b))] dL_law__7 rfl (by decide) rfl (nc1 (rf_cat _)) rfl ?_
  refine sm_new cx nw_L_95 dL_law__8 (fun v2 => ?_)
  refine sm_dup cx dL_law__11 (rf_cat _) ?_
  refine sm_callI (ci := 15) (toV := vV) cx [] ci_L_97 (fun a h => ct_X12_init (xZ X) a h) (Nat.le_trans (by decide) hfr) (Nat.le_trans (by decide) hlo) rfl (cat_le _ (Nat.le_of_ble_eq_true rfl)) dL_law__12 (fun _ => ?_)
  refine sm_astore_n cx [(2, va_rf v2), (1, va_rf v1), (0, va_rf (some b))] dL_law__15 rfl (by decide) rfl (nc1 (rf_cat _)) rfl ?_
  refine sm_iconst (v := 1) cx dL_law__16 (by decide) ?_
  refine sm_newa2 cx dL_law__17 (fun v3 => ?_)
  refine sm_astore_n cx [(3, va_rf v3), (2, va_rf v2), (1, va_rf v1), (0, va_rf (some b))] dL_law__19 rfl (by decide) rfl (nc1 (rf_cat _)) rfl ?_
  exact hK (v1, v2, v3)
/-- the pure side: from the empty heap the law's start succeeds, and there is what holds before each turn and makes each turn go well -/
def ZOk (Z : Nat → Nat) (sz : Nat) : Prop := Z 0 < sz ∧ (∀ i j : Nat, i < 6 → j < 6 → Z (10 + i) = Z (10 + j) → i = j) ∧ ∀ i j : Nat, i < 6 → j < 6 → Z (50 + i) = Z (50 + j) → i = j
def PureOK : Prop := ∀ (R : Room) (Z : Nat → Nat) (sz L : Nat) (xs : Nat → Int32), ZOk Z sz → R.cells = 601024 → R.slots = 7293034 → L ≤ 3072 → ∃ (ax am ao : Nat) (J : Nat → Hs → Nat → Nat → Prop), (∃ h1 c n, f_start Z (fun _ => none, sz) = some ((some ax, some am, some ao), h1, c, n) ∧ c ≤ R.cells ∧ n ≤ R.slots ∧ J 0 h1 c n) ∧ ∀ k, 6 * k + 6 ≤ L → ∀ h c n, J k h c n → LStep R Z ax am ao (xs (6 * k) &&& 31) (xs (6 * k + 1)) (xs (6 * k + 2)) (xs (6 * k + 3)) (xs (6 * k + 4)) (xs (6 * k + 5)) (J (k + 1)) h c n
set_option maxRecDepth 100000 in
set_option maxHeartbeats 4000000 in
theorem law_run (P : PureOK) {X : Cg} (cx : Cx X cL_law_ RL 7) (htr : (xL X).stackTraces = false) (hfr : 74 ≤ (xR X).frames) (hlo : 1500 ≤ (xR X).locals) (hrc : (xR X).cells = 601024) (hrs : (xR X).slots = 7293034) {Q : State → Prop} {b L : Nat} {xs : Nat → Int32} (hX : va_X b L xs (xS X) (xS X).heap) (hbl : b < (xS X).heap.size) (hbA : ¬ xA X b) (hL : L ≤ 3072) (sz : Nat) (hzo : ZOk (xZ X) sz) (hend : ∀ lv (Ψ : Hs → Nat → Nat → Prop), SimB X 7 Q 2002 lv [] Ψ) : SimB X 7 Q 0 [(0, va_rf (some b))] [] (fun h c n => h = (fun _ => none, sz) ∧ c = 0 ∧ n = 0) := by
  obtain ⟨ax, am, ao, J, ⟨h1, c1, n1, e1, e2, e3, e4⟩, hJ⟩ := P (xR X) (xZ X) sz L xs hzo hrc hrs hL
  refine sb_run (pc' := 20) (lv' := fun v => [(3, va_rf v.2.2), (2, va_rf v.2.1), (1, va_rf v.1), (0, va_rf (some b))]) (st' := fun _ => []) (g := f_start (xZ X)) (Ψ := fun v h c n => v = (some ax, some am, some ao) ∧ J 0 h c n) (fun K hK => s_start cx (Nat.le_trans (by decide) hfr) (Nat.le_trans (by decide) hlo) K hK) ?_ (fun v => sb_and (fun hv => ?_))
  · rintro h c n ⟨rfl, rfl, rfl⟩
    exact ⟨_, h1, c1, n1, e1, ⟨rfl, by rw [Nat.zero_add, Nat.zero_add]; exact e4⟩, by rw [Nat.zero_add]; exact e2, by rw [Nat.zero_add]; exact e3⟩
  · subst hv
    refine sb_ofb (fun a9 b9 => ?_)
    refine sm_iconst (v := 0) cx dL_law__20 (by decide) ?_
    refine sm_istore cx [(4, .int 0), (3, va_rf (some ao)), (2, va_rf (some am)), (1, va_rf (some ax)), (0, va_rf (some b))] dL_law__21 (by decide) rfl (nc1 (rf_cat _)) rfl ?_
    refine sb_gob ?_ a9 b9
    exact sb_lv [4, 3, 2, 1, 0] rfl (law_loop cx htr hfr hlo hX hbl hbA ax am ao hL hJ (fun lv k => hend lv (J k)) 600 0 (by omega) (by omega))
