/-! ===== the model: groups ===== -/
/-- how many bits stand -/
def pcn (x : Int32) : Nat → Nat
  | 0 => 0
  | n + 1 => pcn x n + (if bt x n then 1 else 0)
theorem pcn_le (x : Int32) : ∀ n, pcn x n ≤ n := by
  intro n
  induction n with
  | zero => exact Nat.le_refl _
  | succ n ih => rw [pcn]; split <;> omega
theorem pcn_mono {x y : Int32} (h : ∀ i, i < 32 → bt x i = true → bt y i = true) : ∀ n, n ≤ 32 → pcn x n ≤ pcn y n := by
  intro n
  induction n with
  | zero => intro _; exact Nat.le_refl _
  | succ n ih =>
    intro hn
    have := ih (by omega)
    rw [pcn, pcn]
    by_cases hx : bt x n = true
    · rw [if_pos hx, if_pos (h n (by omega) hx)]; omega
    · rw [if_neg hx]; omega
theorem pcn_lt {x y : Int32} (h : ∀ i, i < 32 → bt x i = true → bt y i = true) {j : Nat} (hx : bt x j = false) (hy : bt y j = true) : ∀ n, n ≤ 32 → j < n → pcn x n < pcn y n := by
  intro n
  induction n with
  | zero => intro _ hj; exact absurd hj (Nat.not_lt_zero _)
  | succ n ih =>
    intro hn hj
    rw [pcn, pcn]
    by_cases e : j = n
    · subst e
      have := pcn_mono h j (by omega)
      rw [if_neg (by rw [hx]; decide), if_pos hy]; omega
    · have := ih (by omega) (by omega)
      by_cases hx : bt x n = true
      · rw [if_pos hx, if_pos (h n (by omega) hx)]; omega
      · rw [if_neg hx]; omega
theorem pcn_grow {x y : Int32} (h : ∀ i, i < 32 → bt x i = true → bt y i = true) (hne : y ≠ x) : pcn x 32 < pcn y 32 := by
  have : ∃ j, j < 32 ∧ bt x j = false ∧ bt y j = true := by
    refine Classical.byContradiction fun hn => hne (b_ext fun i hi => ?_)
    cases hx : bt x i with
    | true => exact h i hi hx
    | false =>
      cases hy : bt y i with
      | false => rfl
      | true => exact absurd ⟨i, hi, hx, hy⟩ hn
  obtain ⟨j, hj, h1, h2⟩ := this
  exact pcn_lt h h1 h2 32 (by omega) hj
/-- the groups that come down from one -/
def Cl (wi : Nat → Int32) (ng g : Nat) (b : Int32) : Prop := bt b g = true ∧ (∀ k o, k < ng → bt b k = true → bt (wi k) o = true → bt b o = true) ∧ (∀ S : Nat → Prop, S g → (∀ k o, k < ng → S k → bt (wi k) o = true → S o) → ∀ o, bt b o = true → S o)
theorem cl_mem {wi ig : Nat → Int32} {ng g m : Nat} {b : Int32} (h : Cl wi ng g b) (hng : ng ≤ 20) (hwi : ∀ k, ng ≤ k → k < 20 → wi k = 0) : (b &&& ig m = 0) ↔ ¬ MemP wi ig g m := by
  obtain ⟨h1, h2, h3⟩ := h
  rw [bt_az]
  constructor
  · intro hz hm
    have key := hm (fun x => ∃ o, bt (ig m) o = true ∧ ∀ T : Nat → Prop, T x → (∀ k o, k < ng → T k → bt (wi k) o = true → T o) → T o) (fun x hx => ⟨x, hx, fun T hT _ => hT⟩) (fun x o hx ho ⟨o2, q1, q2⟩ => ⟨o2, q1, fun T hT hc => q2 T (by
      by_cases hxn : x < ng
      · exact hc x o hxn hT ho
      · rw [hwi x (by omega) hx, b_0] at ho
        cases ho) hc⟩)
    obtain ⟨o, q1, q2⟩ := key
    have q3 := q2 (fun y => bt b y = true) h1 (fun k o hk hb ho => h2 k o hk hb ho)
    by_cases ho : o < 32
    · exact hz o ho ⟨q3, q1⟩
    · rw [b_big (by omega)] at q1
      cases q1
  · intro hm i hi ⟨q1, q2⟩
    have key := h3 (fun x => MemP wi ig x m → MemP wi ig g m) id (fun k o hk hS ho hmo => hS (fun S s1 s2 => s2 k o (by omega) ho (hmo S s1 s2))) i q1
    exact hm (key (fun S s1 _ => s1 i q2))
theorem memB_t {wi ig : Nat → Int32} {g m : Nat} (h : MemP wi ig g m) : memB wi ig g m = true := @decide_eq_true _ (Classical.propDecidable _) h
theorem memB_f {wi ig : Nat → Int32} {g m : Nat} (h : ¬ MemP wi ig g m) : memB wi ig g m = false := @decide_eq_false _ (Classical.propDecidable _) h
section MC
variable {E : Es} {D : Nat → Nat → Int32} {I : Tg → Nat → Int32} {am : Nat}
theorem m_allIn_16 {α : Type} {Q : Int32 → Gh → Prop} (hM : ModS E am) {ng : Nat} (hn : D 0 9 = nI ng) (hb : ng ≤ 20) {k6 : Int32 → Int32 → Mo Int32} {had : Int32} (hk : ∀ bits, (∀ o, o < 32 → (bt bits o = true ↔ bt had o = true ∨ ∃ k, k < ng ∧ bt had k = true ∧ bt (D 8 k) o = true)) → Wp (k6 bits had) (E, D, I) Q) : ∀ (d k n : Nat) (bits : Int32), d + k = ng → d < n → (∀ o, o < 32 → (bt bits o = true ↔ bt had o = true ∨ ∃ k', k' < k ∧ bt had k' = true ∧ bt (D 8 k') o = true)) → Wp (f_X12_allIn_16 k6 (some am) had n bits (nI k)) (E, D, I) Q := by
  intro d
  induction d with
  | zero =>
    intro k n bits hd hf hi
    cases n with
    | zero => exact absurd hf (Nat.not_lt_zero _)
    | succ n =>
      rw [f_X12_allIn_16]
      refine wm_I hM rfl ?_
      rw [hn]
      refine wp_pos ((nI_leI (by omega) (by omega)).mpr (by omega)) ?_
      rw [show k = ng by omega] at hi
      exact hk bits hi
  | succ d ih =>
    intro k n bits hd hf hi
    cases n with
    | zero => exact absurd hf (Nat.not_lt_zero _)
    | succ n =>
      rw [f_X12_allIn_16]
      refine wm_I hM rfl ?_
      rw [hn]
      refine wp_neg (fun e => by have := (nI_leI (by omega) (by omega)).mp e; omega) ?_
      rw [bt_sar _ (by omega)]
      cases hc : bt had k with
      | true =>
        refine wp_pos rfl ?_
        refine wm_R hM (by decide) (by decide) rfl ?_
        refine wm_a hM k rfl (by show k < 20; omega) rfl (by decide) (by decide) (by omega) ?_
        unfold f_X12_allIn_45
        rw [nI_1]
        refine ih (k + 1) n _ (by omega) (by omega) (fun o ho => ?_)
        rw [b_or, Bool.or_eq_true, hi o ho]
        constructor
        · rintro ((h | ⟨k', q1, q2⟩) | h)
          · exact .inl h
          · exact .inr ⟨k', by omega, q2⟩
          · exact .inr ⟨k, by omega, hc, h⟩
        · rintro (h | ⟨k', q1, q2, q3⟩)
          · exact .inl (.inl h)
          · by_cases e : k' = k
            · subst e; exact .inr q3
            · exact .inl (.inr ⟨k', by omega, q2, q3⟩)
      | false =>
        refine wp_neg (by decide) ?_
        unfold f_X12_allIn_45
        rw [nI_1]
        refine ih (k + 1) n _ (by omega) (by omega) (fun o ho => ?_)
        rw [hi o ho]
        constructor
        · rintro (h | ⟨k', q1, q2⟩)
          · exact .inl h
          · exact .inr ⟨k', by omega, q2⟩
        · rintro (h | ⟨k', q1, q2, q3⟩)
          · exact .inl h
          · by_cases e : k' = k
            · subst e; rw [hc] at q2; cases q2
            · exact .inr ⟨k', by omega, q2, q3⟩
theorem m_allIn_6 {Q : Int32 → Gh → Prop} (hM : ModS E am) {ng g : Nat} (hn : D 0 9 = nI ng) (hb : ng ≤ 20) (hk : ∀ b, Cl (D 8) ng g b → Q b (E, D, I)) : ∀ (d n : Nat) (bits had : Int32), 33 - pcn had 32 ≤ d → d + 1 < n → (bt bits g = true) → (∀ o, o < 32 → bt had o = true → bt bits o = true) → (∀ k o, k < ng → bt had k = true → bt (D 8 k) o = true → bt bits o = true) → (∀ S : Nat → Prop, S g → (∀ k o, k < ng → S k → bt (D 8 k) o = true → S o) → ∀ o, bt bits o = true → S o) → Wp (f_X12_allIn_6 (some am) n bits had) (E, D, I) Q := by
  intro d
  induction d with
  | zero =>
    intro n bits had h1
    have := pcn_le had 32
    omega
  | succ d ih =>
    intro n bits had h1 hf i1 i2 i3 i4
    cases n with
    | zero => exact absurd hf (Nat.not_lt_zero _)
    | succ n =>
      rw [f_X12_allIn_6]
      by_cases e : bits = had
      · refine wp_pos e (wp_mp (hk bits ⟨i1, ?_, i4⟩))
        intro k o hk hb
        exact i3 k o hk (by rw [← e]; exact hb)
      · refine wp_neg e ?_
        refine m_allIn_16 (α := Unit) hM hn hb (fun bits' hb' => ?_) ng 0 fuL bits (by omega) (fu_ok (by omega)) (fun o ho => ⟨.inl, fun h => h.elim id (fun ⟨k, q, _⟩ => absurd q (Nat.not_lt_zero _))⟩)
        have hg32 : g < 32 := by
          refine Nat.lt_of_not_le fun h => ?_
          rw [b_big h] at i1
          cases i1
        refine ih n bits' bits ?_ (by omega) ((hb' g hg32).mpr (.inl i1)) (fun o ho h => (hb' o ho).mpr (.inl h)) (fun k o hk hkb ho => ?_) (fun S s1 s2 o ho => ?_)
        · have := pcn_grow i2 e
          omega
        · by_cases h32 : o < 32
          · exact (hb' o h32).mpr (.inr ⟨k, hk, hkb, ho⟩)
          · rw [b_big (by omega)] at ho
            cases ho
        · by_cases h32 : o < 32
          · rcases (hb' o h32).mp ho with q | ⟨k, q1, q2, q3⟩
            · exact i4 S s1 s2 o q
            · exact s2 k o q1 (i4 S s1 s2 k q2) q3
          · rw [b_big (by omega)] at ho
            cases ho
theorem m_allIn {Q : Int32 → Gh → Prop} (hM : ModS E am) {ng g : Nat} (hn : D 0 9 = nI ng) (hb : ng ≤ 20) (hg : g < 20) (hk : ∀ b, Cl (D 8) ng g b → Q b (E, D, I)) : Wp (f_X12_allIn (some am) (nI g)) (E, D, I) Q := by
  unfold f_X12_allIn
  refine m_allIn_6 hM hn hb hk 33 fuL _ 0 (by omega) (fu_ok (by omega)) (by rw [bt_sh (by omega) (by omega)]; simp) (fun o _ h => by rw [b_0] at h; cases h) (fun k o _ h => by rw [b_0] at h; cases h) (fun S s1 s2 o ho => ?_)
  by_cases h32 : o < 32
  · rw [bt_sh (by omega) h32] at ho
    rw [of_decide_eq_true ho]
    exact s1
  · rw [b_big (by omega)] at ho
    cases ho
theorem m_member {Q : Int32 → Gh → Prop} (hM : ModS E am) {x y : Int32} {ng nm : Nat} (hn : D 0 9 = nI ng) (hb : ng ≤ 20) (hm : D 0 7 = nI nm) (hbm : nm ≤ 60) (hwi : ∀ k, ng ≤ k → k < 20 → D 8 k = 0) (k1 : (x < 0 ∨ ¬ x < nI ng) → ∀ r, Q r (E, ds D 0 0 1, I)) (k2 : ¬ x < 0 → x < nI ng → (y < 0 ∨ ¬ y < nI nm) → ∀ r, Q r (E, ds D 0 0 1, I)) (k3 : ∀ g m, g < ng → x = nI g → m < nm → y = nI m → Q (b2i (memB (D 8) (D 6) g m)) (E, ds D 0 0 0, I)) : Wp (f_X12_member (some am) x y) (E, D, I) Q := by
  unfold f_X12_member
  refine wm_P hM rfl ?_
  refine wm_I hM rfl ?_
  rw [ds_ne (by omega), hn]
  refine wm_call hM (m_none hM ds_eq (fun h1 h2 => ?_) (fun h => ?_))
  · refine wp_pos rfl ?_
    refine wm_I hM rfl ?_
    rw [ds_ne (by omega), hm]
    refine wm_call hM (m_none hM ds_eq (fun h3 h4 => ?_) (fun h => ?_))
    · obtain ⟨g, hg, rfl⟩ := nI_of h1
      have hg2 : g < ng := (nI_ltI hg (by omega)).mp h2
      obtain ⟨m, hm3, rfl⟩ := nI_of h3
      have hm2 : m < nm := (nI_ltI hm3 (by omega)).mp h4
      refine wp_pos rfl ?_
      refine wm_call hM (m_allIn (D := ds D 0 0 0) hM (ng := ng) (by rw [ds_ne (by omega), hn]) hb (by omega) (fun b hcl => ?_))
      rw [ds_row (by omega)] at hcl
      refine wm_R hM (by decide) (by decide) rfl ?_
      refine wm_a hM m rfl (by show m < 60; omega) rfl (by decide) (by decide) (by omega) ?_
      rw [ds_ne (by omega)]
      have k3 := k3 g m hg2 rfl hm2 rfl
      have hc := cl_mem (ig := D 6) (m := m) hcl hb hwi
      refine wp_ite (fun h => ?_) (fun h => ?_)
      · rw [memB_f (hc.mp h)] at k3
        exact wp_rz (.inl rfl) k3
      · have : MemP (D 8) (D 6) g m := Classical.byContradiction fun q => h (hc.mpr q)
        rw [memB_t this] at k3
        exact wp_rz (.inr rfl) k3
    · refine wp_neg (by decide) ?_
      rw [ds_ds]
      exact wp_rz (.inl rfl) (k2 h1 h2 h 0)
  · refine wp_neg (by decide) ?_
    rw [ds_ds]
    exact wp_rz (.inl rfl) (k1 h 0)
theorem m_groupsAnew {Q : Unit → Gh → Prop} (hM : ModS E am) {ng : Nat} (hn : D 0 9 = nI ng) (hb : ng ≤ 20) (hk : ∀ D', (∀ j, j ≠ 33 → D' j = D j) → (∀ g, g < ng → Cl (D 8) ng g (D' 33 g)) → Q () (E, D', I)) : Wp (f_X12_groupsAnew (some am)) (E, D, I) Q := by
  have key : ∀ (d k n : Nat) (D' : Nat → Nat → Int32), d + k = ng → d < n → (∀ j, j ≠ 33 → D' j = D j) → (∀ g, g < k → Cl (D 8) ng g (D' 33 g)) → Wp (f_X12_groupsAnew_2 (some am) n (nI k)) (E, D', I) Q := by
    intro d
    induction d with
    | zero =>
      intro k n D' hd hf h1 h2
      cases n with
      | zero => exact absurd hf (Nat.not_lt_zero _)
      | succ n =>
        rw [f_X12_groupsAnew_2]
        refine wm_I hM rfl ?_
        rw [h1 0 (by omega), hn]
        refine wp_pos ((nI_leI (by omega) (by omega)).mpr (by omega)) ?_
        rw [show k = ng by omega] at h2
        exact wp_mp (hk D' h1 h2)
    | succ d ih =>
      intro k n D' hd hf h1 h2
      cases n with
      | zero => exact absurd hf (Nat.not_lt_zero _)
      | succ n =>
        rw [f_X12_groupsAnew_2]
        refine wm_I hM rfl ?_
        rw [h1 0 (by omega), hn]
        refine wp_neg (fun e => by have := (nI_leI (by omega) (by omega)).mp e; omega) ?_
        refine wm_R hM (by decide) (by decide) rfl ?_
        refine wm_call hM (m_allIn (D := D') hM (ng := ng) (by rw [h1 0 (by omega), hn]) hb (by omega) (fun b hcl => ?_))
        rw [h1 8 (by omega)] at hcl
        refine wm_s hM k rfl (by show k < 20; omega) rfl (by decide) (by decide) (by omega) ?_
        rw [nI_1]
        refine ih (k + 1) n _ (by omega) (by omega) (fun j hj => by rw [ds_row hj, h1 j hj]) (fun g hg => ?_)
        by_cases e : g = k
        · subst e
          rw [ds_eq]
          exact hcl
        · rw [ds_ne (by omega)]
          exact h2 g (by omega)
  unfold f_X12_groupsAnew
  exact key ng 0 fuL D (by omega) (fu_ok (by omega)) (fun _ _ => rfl) (fun g hg => absurd hg (Nat.not_lt_zero _))
end MC
