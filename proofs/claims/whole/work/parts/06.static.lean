/-! ===== static fields, texts, casts, arrays of references ===== -/
/-- which of the six words (b = 10) or of their byte arrays (b = 50) -/
def wIx (Z : Nat → Nat) (b : Nat) (r : Option Nat) : Option Nat := (List.range 6).find? (fun i => decide (r = some (Z (b + i))))
theorem wIx_some {Z : Nat → Nat} {b : Nat} {r : Option Nat} {i : Nat} (h : wIx Z b r = some i) : i < 6 ∧ r = some (Z (b + i)) := by
  have h1 := List.find?_some h
  have h2 := List.mem_of_find?_eq_some h
  exact ⟨List.mem_range.mp h2, of_decide_eq_true h1⟩
/-- String.value, String.coder of a word; its bytes' length; a byte -/
def gSv (Z : Nat → Nat) (r : Option Nat) : Mo (Option Nat) := fun h => match wIx Z 10 r with
  | some i => some (some (Z (50 + i)), h, 0, 0)
  | none => none
def gSc (Z : Nat → Nat) (r : Option Nat) : Mo Int32 := fun h => match wIx Z 10 r with
  | some _ => some (0, h, 0, 0)
  | none => none
def aSn (Z : Nat → Nat) (r : Option Nat) : Mo Int32 := fun h => match wIx Z 50 r with
  | some i => some (Int32.ofNat (wLen.getD i 0), h, 0, 0)
  | none => none
def aSb (Z : Nat → Nat) (r : Option Nat) (j : Int32) : Mo Int32 := fun h => match wIx Z 50 r with
  | some i => if j < 0 ∨ wLen.getD i 0 ≤ j.toNatClampNeg then none else some ((wByt.getD i []).getD j.toNatClampNeg 0, h, 0, 0)
  | none => none
/-- a receiver that is a word -/
def moS {α : Type} (Z : Nat → Nat) (r : Option Nat) (x : Mo α) : Mo α := fun h => match wIx Z 10 r with
  | some _ => x h
  | none => none
/-- the guesses -/
def aG (r : Option Nat) (Z : Nat → Nat) (j : Int32) : Mo Int64 := fun h => if r = some (Z 1) then (if j < 0 ∨ 6 ≤ j.toNatClampNeg then none else some (gu j.toNatClampNeg, h, 0, 0)) else none
def aGn (r : Option Nat) (Z : Nat → Nat) : Mo Int32 := fun h => if r = some (Z 1) then some (6, h, 0, 0) else none
/-- the length of an array of references: the empty list's own is one, too -/
def aNq (Z : Nat → Nat) (r : Option Nat) : Mo Int32 := fun h => if r = some (Z 0) then some (0, h, 0, 0) else aN 4 r h
section LS
variable {α : Type} {X : Cg} {nL : Nat} {Fi : α → Hs → State → Prop} {pc : Nat} {lv : List (Nat × Value)} {st stk : List Value} {k : Mo α} {cc : ByteArray} {own : String}
theorem sm_gsE (cx : Cx X cc own nL) {i : Nat} (hw : Cond.fieldLink own i "java/util/ArrayList" "DEFAULTCAPACITY_EMPTY_ELEMENTDATA" "[Ljava/lang/Object;" ∈ TB) (hd : decode cc pc = .ok (.getstatic i, 3)) (kk : Sim X nL Fi (pc + 3) lv (va_rf (some (xZ X 0)) :: st) k) : Sim X nL Fi pc lv st k := by
  obtain ⟨p, l, e, R, s, m, args, below, meth, c, D, cy, A, Z⟩ := X
  obtain ⟨hx, hb, hml, hown, hts, hK, hA, hlk, hz⟩ := cx
  intro h z h' c0 n0 c1 n1 hk e1 e2 H locs ls hH hS hl
  exact va_gets hx hb hz.2.1.1 hS hown (hts _ hw) (fun _ h9 => h9) hd (kk h z h' c0 n0 c1 n1 hk e1 e2 H locs ls hH hS hl)
theorem sm_gsG (cx : Cx X cc own nL) {i : Nat} (hw : Cond.fieldLink own i "PolicyTree$Standing" "GUESSES" "[J" ∈ TB) (hd : decode cc pc = .ok (.getstatic i, 3)) (kk : Sim X nL Fi (pc + 3) lv (va_rf (some (xZ X 1)) :: st) k) : Sim X nL Fi pc lv st k := by
  obtain ⟨p, l, e, R, s, m, args, below, meth, c, D, cy, A, Z⟩ := X
  obtain ⟨hx, hb, hml, hown, hts, hK, hA, hlk, hz⟩ := cx
  intro h z h' c0 n0 c1 n1 hk e1 e2 H locs ls hH hS hl
  exact va_gets hx hb hz.2.2.1.1 hS hown (hts _ hw) (fun _ h9 => h9) hd (kk h z h' c0 n0 c1 n1 hk e1 e2 H locs ls hH hS hl)
theorem sm_gsC (cx : Cx X cc own nL) {i : Nat} (hw : Cond.fieldLink own i "java/lang/String" "COMPACT_STRINGS" "Z" ∈ TB) (hd : decode cc pc = .ok (.getstatic i, 3)) (kk : Sim X nL Fi (pc + 3) lv (.int 1 :: st) k) : Sim X nL Fi pc lv st k := by
  obtain ⟨p, l, e, R, s, m, args, below, meth, c, D, cy, A, Z⟩ := X
  obtain ⟨hx, hb, hml, hown, hts, hK, hA, hlk, hz⟩ := cx
  intro h z h' c0 n0 c1 n1 hk e1 e2 H locs ls hH hS hl
  exact va_gets hx hb hz.2.2.2.2.1.1 hS hown (hts _ hw) (fun _ h9 => h9) hd (kk h z h' c0 n0 c1 n1 hk e1 e2 H locs ls hH hS hl)
theorem sm_gsF (cx : Cx X cc own nL) {i : Nat} (hw : Cond.fieldLink own i "jdk/internal/util/Preconditions" "SIOOBE_FORMATTER" "Ljava/util/function/BiFunction;" ∈ TB) (hd : decode cc pc = .ok (.getstatic i, 3)) (kk : Sim X nL Fi (pc + 3) lv (va_rf (zF (xZ X)) :: st) k) : Sim X nL Fi pc lv st k := by
  obtain ⟨p, l, e, R, s, m, args, below, meth, c, D, cy, A, Z⟩ := X
  obtain ⟨hx, hb, hml, hown, hts, hK, hA, hlk, hz⟩ := cx
  intro h z h' c0 n0 c1 n1 hk e1 e2 H locs ls hH hS hl
  exact va_gets hx hb hz.2.2.2.2.2.2.1 hS hown (hts _ hw) (fun _ h9 => h9) hd (kk h z h' c0 n0 c1 n1 hk e1 e2 H locs ls hH hS hl)
theorem sm_ldcS (cx : Cx X cc own nL) {i : Nat} (x : String × Nat × String × Nat) (hm : x ∈ wRef) (ho : x.1 = own) (hi : x.2.1 = i) (hd : decode cc pc = .ok (.ldc i, 2)) (kk : Sim X nL Fi (pc + 2) lv (va_rf (some (xZ X (10 + x.2.2.2))) :: st) k) : Sim X nL Fi pc lv st k := by
  subst ho
  subst hi
  obtain ⟨p, l, e, R, s, m, args, below, meth, c, D, cy, A, Z⟩ := X
  obtain ⟨hx, hb, hml, hown, hts, hK, hA, hlk, hz⟩ := cx
  intro h z h' c0 n0 c1 n1 hk e1 e2 H locs ls hH hS hl
  exact va_ldcS hx hb hown (hz.2.2.2.2.2.1 x hm) hd (kk h z h' c0 n0 c1 n1 hk e1 e2 H locs ls hH hS hl)
theorem sm_gSv (cx : Cx X cc own nL) {i : Nat} {r : Option Nat} {K : Option Nat → Mo α} (hw : Cond.fieldLink own i "java/lang/String" "value" "[B" ∈ TB) (hd : decode cc pc = .ok (.getfield i, 3)) (kk : ∀ b, Sim X nL Fi (pc + 3) lv (va_rf b :: st) (K b)) : Sim X nL Fi pc lv (va_rf r :: st) (mb (gSv (xZ X) r) K) := by
  obtain ⟨p, l, e, R, s, m, args, below, meth, c, D, cy, A, Z⟩ := X
  obtain ⟨hx, hb, hml, hown, hts, hK, hA, hlk, hz⟩ := cx
  intro h z h' c0 n0 c1 n1 hk e1 e2 H locs ls hH hS hl
  obtain ⟨b, h1, ca, na, cb, nb, k1, k2, rfl, rfl⟩ := mb_some hk
  unfold gSv at k1
  split at k1
  · rename_i j hj
    cases k1
    obtain ⟨hj6, rfl⟩ := wIx_some hj
    refine vk_getf hx hb (hz.2.2.2.2.1.2.1 j hj6).2.2.1 hS hown (hts _ hw) (fun _ h9 => h9) hd ?_
    exact kk _ h z h' c0 n0 cb nb k2 (by omega) (by omega) H locs ls hH hS hl
  · cases k1
theorem sm_gSc (cx : Cx X cc own nL) {i : Nat} {r : Option Nat} {K : Int32 → Mo α} (hw : Cond.fieldLink own i "java/lang/String" "coder" "B" ∈ TB) (hd : decode cc pc = .ok (.getfield i, 3)) (kk : ∀ b, Sim X nL Fi (pc + 3) lv (.int b :: st) (K b)) : Sim X nL Fi pc lv (va_rf r :: st) (mb (gSc (xZ X) r) K) := by
  obtain ⟨p, l, e, R, s, m, args, below, meth, c, D, cy, A, Z⟩ := X
  obtain ⟨hx, hb, hml, hown, hts, hK, hA, hlk, hz⟩ := cx
  intro h z h' c0 n0 c1 n1 hk e1 e2 H locs ls hH hS hl
  obtain ⟨b, h1, ca, na, cb, nb, k1, k2, rfl, rfl⟩ := mb_some hk
  unfold gSc at k1
  split at k1
  · rename_i j hj
    cases k1
    obtain ⟨hj6, rfl⟩ := wIx_some hj
    refine vk_getf hx hb (hz.2.2.2.2.1.2.1 j hj6).2.1 hS hown (hts _ hw) (fun _ h9 => h9) hd ?_
    exact kk _ h z h' c0 n0 cb nb k2 (by omega) (by omega) H locs ls hH hS hl
  · cases k1
theorem sm_aSn (cx : Cx X cc own nL) {r : Option Nat} {K : Int32 → Mo α} (hd : decode cc pc = .ok (.arraylength, 1)) (kk : ∀ b, Sim X nL Fi (pc + 1) lv (.int b :: st) (K b)) : Sim X nL Fi pc lv (va_rf r :: st) (mb (aSn (xZ X) r) K) := by
  obtain ⟨p, l, e, R, s, m, args, below, meth, c, D, cy, A, Z⟩ := X
  obtain ⟨hx, hb, hml, hown, hts, hK, hA, hlk, hz⟩ := cx
  intro h z h' c0 n0 c1 n1 hk e1 e2 H locs ls hH hS hl
  obtain ⟨b, h1, ca, na, cb, nb, k1, k2, rfl, rfl⟩ := mb_some hk
  unfold aSn at k1
  split at k1
  · rename_i j hj
    cases k1
    obtain ⟨hj6, rfl⟩ := wIx_some hj
    refine va_tlen hx hb (hz.2.2.2.2.1.2.1 j hj6).2.2.2 hS rfl hd ?_
    exact kk _ h z h' c0 n0 cb nb k2 (by omega) (by omega) H locs ls hH hS hl
  · cases k1
theorem sm_aSb (cx : Cx X cc own nL) {r : Option Nat} {i : Int32} {K : Int32 → Mo α} (hd : decode cc pc = .ok (.baload, 1)) (kk : ∀ b, Sim X nL Fi (pc + 1) lv (.int b :: st) (K b)) : Sim X nL Fi pc lv (.int i :: va_rf r :: st) (mb (aSb (xZ X) r i) K) := by
  obtain ⟨p, l, e, R, s, m, args, below, meth, c, D, cy, A, Z⟩ := X
  obtain ⟨hx, hb, hml, hown, hts, hK, hA, hlk, hz⟩ := cx
  intro h z h' c0 n0 c1 n1 hk e1 e2 H locs ls hH hS hl
  obtain ⟨b, h1, ca, na, cb, nb, k1, k2, rfl, rfl⟩ := mb_some hk
  unfold aSb at k1
  split at k1
  · rename_i j hj
    split at k1
    · cases k1
    · rename_i hin
      cases k1
      obtain ⟨hj6, rfl⟩ := wIx_some hj
      refine va_tb hx hb (hz.2.2.2.2.1.2.1 j hj6).2.2.2 hS hin rfl hd ?_
      exact kk _ h z h' c0 n0 cb nb k2 (by omega) (by omega) H locs ls hH hS hl
  · cases k1
theorem sm_aG (cx : Cx X cc own nL) {r : Option Nat} {i : Int32} {K : Int64 → Mo α} (hd : decode cc pc = .ok (.laload, 1)) (kk : ∀ b, Sim X nL Fi (pc + 1) lv (.long b :: st) (K b)) : Sim X nL Fi pc lv (.int i :: va_rf r :: st) (mb (aG r (xZ X) i) K) := by
  obtain ⟨p, l, e, R, s, m, args, below, meth, c, D, cy, A, Z⟩ := X
  obtain ⟨hx, hb, hml, hown, hts, hK, hA, hlk, hz⟩ := cx
  intro h z h' c0 n0 c1 n1 hk e1 e2 H locs ls hH hS hl
  obtain ⟨b, h1, ca, na, cb, nb, k1, k2, rfl, rfl⟩ := mb_some hk
  unfold aG at k1
  split at k1
  · rename_i hr
    subst hr
    split at k1
    · cases k1
    · rename_i hin
      cases k1
      refine va_tl hx hb hz.2.2.1.2 hS hin rfl hd ?_
      exact kk _ h z h' c0 n0 cb nb k2 (by omega) (by omega) H locs ls hH hS hl
  · cases k1
theorem sm_aGn (cx : Cx X cc own nL) {r : Option Nat} {K : Int32 → Mo α} (hd : decode cc pc = .ok (.arraylength, 1)) (kk : ∀ b, Sim X nL Fi (pc + 1) lv (.int b :: st) (K b)) : Sim X nL Fi pc lv (va_rf r :: st) (mb (aGn r (xZ X)) K) := by
  obtain ⟨p, l, e, R, s, m, args, below, meth, c, D, cy, A, Z⟩ := X
  obtain ⟨hx, hb, hml, hown, hts, hK, hA, hlk, hz⟩ := cx
  intro h z h' c0 n0 c1 n1 hk e1 e2 H locs ls hH hS hl
  obtain ⟨b, h1, ca, na, cb, nb, k1, k2, rfl, rfl⟩ := mb_some hk
  unfold aGn at k1
  split at k1
  · rename_i hr
    subst hr
    cases k1
    refine va_tlen hx hb hz.2.2.1.2 hS (v := 6) (by decide) hd ?_
    exact kk _ h z h' c0 n0 cb nb k2 (by omega) (by omega) H locs ls hH hS hl
  · cases k1
theorem sm_aNq (cx : Cx X cc own nL) {r : Option Nat} {K : Int32 → Mo α} (hd : decode cc pc = .ok (.arraylength, 1)) (kk : ∀ b, Sim X nL Fi (pc + 1) lv (.int b :: st) (K b)) : Sim X nL Fi pc lv (va_rf r :: st) (mb (aNq (xZ X) r) K) := by
  by_cases hr : r = some (xZ X 0)
  · obtain ⟨p, l, e, R, s, m, args, below, meth, c, D, cy, A, Z⟩ := X
    obtain ⟨hx, hb, hml, hown, hts, hK, hA, hlk, hz⟩ := cx
    intro h z h' c0 n0 c1 n1 hk e1 e2 H locs ls hH hS hl
    obtain ⟨b, h1, ca, na, cb, nb, k1, k2, rfl, rfl⟩ := mb_some hk
    unfold aNq at k1
    rw [if_pos hr] at k1
    subst hr
    cases k1
    refine va_tlen hx hb hz.2.1.2 hS (v := 0) (by decide) hd ?_
    exact kk _ h z h' c0 n0 cb nb k2 (by omega) (by omega) H locs ls hH hS hl
  · have e : aNq (xZ X) r = aN 4 r := by
      funext h
      unfold aNq
      rw [if_neg hr]
    rw [e]
    exact sm_alen cx 4 (by decide) hd kk
theorem ck_some {ci : Nat} {r : Option Nat} {h h1 : Hs} {v : Unit} {c n : Nat} (e : ck ci r h = some (v, h1, c, n)) : h1 = h ∧ c = 0 ∧ n = 0 ∧ ∀ a, r = some a → ∃ fs, h.1 a = some (.inl (ci, fs)) := by
  unfold ck at e
  split at e
  · cases e
    exact ⟨rfl, rfl, rfl, fun a ha => by cases ha⟩
  · split at e
    · cases e
    · rename_i z e0
      cases e
      obtain ⟨a', fs⟩ := z
      obtain ⟨q1, q2⟩ := ob_some e0
      exact ⟨rfl, rfl, rfl, fun a ha => by cases q1; cases ha; exact ⟨fs, q2⟩⟩
theorem sm_ck (cx : Cx X cc own nL) {i ci : Nat} {C : String} {T : u_T} {N : Nat} {r : Option Nat} {K : Mo α} (hc : vwCl[ci]? = some (C, T, N)) (hw : Cond.classLink own i C ∈ TB) (hd : decode cc pc = .ok (.checkcast i, 3)) (kk : Sim X nL Fi (pc + 3) lv (va_rf r :: st) K) : Sim X nL Fi pc lv (va_rf r :: st) (mb (ck ci r) (fun _ => K)) := by
  obtain ⟨p, l, e, R, s, m, args, below, meth, c, D, cy, A, Z⟩ := X
  obtain ⟨hx, hb, hml, hown, hts, hK, hA, hlk, hz⟩ := cx
  intro h z h' c0 n0 c1 n1 hk e1 e2 H locs ls hH hS hl
  obtain ⟨b, h1, ca, na, cb, nb, k1, k2, rfl, rfl⟩ := mb_some hk
  obtain ⟨rfl, rfl, rfl, ha⟩ := ck_some k1
  have go := kk h1 z h' c0 n0 cb nb k2 (by omega) (by omega) H locs ls hH hS hl
  cases r with
  | none => exact lv_castN hx hb hd go
  | some a =>
    obtain ⟨fs, hf⟩ := ha a rfl
    exact va_castE hx hb hown (hts _ hw) (va_recv hK (one_P (hH.2 a _ hf).1) (q := (C, T, N)) (ci := ci) (q0 := 0) hc rfl) hd go
theorem cast_all : ∀ (ci : Nat) (r : vw_C), vwCl[ci]? = some r → Cond.castable r.1 "java/lang/Object" ∈ nwL := by
  intro ci r h
  have hlt : ci < 16 := (List.getElem?_eq_some_iff.mp h).1
  have key : ∀ i : Nat, i < 16 → ∀ r : vw_C, vwCl[i]? = some r → Cond.castable r.1 "java/lang/Object" ∈ nwL := by
    intro i hi r hr
    match i, hi, hr with
    | 0, _, hr => cases hr; exact List.mem_of_getElem? (i := 6) rfl
    | 1, _, hr => cases hr; exact List.mem_of_getElem? (i := 7) rfl
    | 2, _, hr => cases hr; exact List.mem_of_getElem? (i := 8) rfl
    | 3, _, hr => cases hr; exact List.mem_of_getElem? (i := 9) rfl
    | 4, _, hr => cases hr; exact List.mem_of_getElem? (i := 10) rfl
    | 5, _, hr => cases hr; exact List.mem_of_getElem? (i := 11) rfl
    | 6, _, hr => cases hr; exact List.mem_of_getElem? (i := 12) rfl
    | 7, _, hr => cases hr; exact List.mem_of_getElem? (i := 13) rfl
    | 8, _, hr => cases hr; exact List.mem_of_getElem? (i := 14) rfl
    | 9, _, hr => cases hr; exact List.mem_of_getElem? (i := 15) rfl
    | 10, _, hr => cases hr; exact List.mem_of_getElem? (i := 16) rfl
    | 11, _, hr => cases hr; exact List.mem_of_getElem? (i := 17) rfl
    | 12, _, hr => cases hr; exact List.mem_of_getElem? (i := 18) rfl
    | 13, _, hr => cases hr; exact List.mem_of_getElem? (i := 19) rfl
    | 14, _, hr => cases hr; exact List.mem_of_getElem? (i := 20) rfl
    | 15, _, hr => cases hr; exact List.mem_of_getElem? (i := 21) rfl
  exact key ci hlt r h
theorem sm_aast (cx : Cx X cc own nL) {r x : Option Nat} {i : Int32} {K : Mo α} (hd : decode cc pc = .ok (.aastore, 1)) (kk : Sim X nL Fi (pc + 1) lv st K) : Sim X nL Fi pc lv (va_rf x :: .int i :: va_rf r :: st) (mb (sR r i x) (fun _ => K)) := by
  obtain ⟨p, l, e, R, s, m, args, below, meth, c, D, cy, A, Z⟩ := X
  obtain ⟨hx, hb, hml, hown, hts, hK, hA, hlk, hz⟩ := cx
  intro h z h' c0 n0 c1 n1 hk e1 e2 H locs ls hH hS hl
  obtain ⟨b, h1, ca, na, cb, nb, k1, k2, rfl, rfl⟩ := mb_some hk
  obtain ⟨a, N, f, rfl, ha, hin, hv, rfl, rfl, rfl⟩ := sR_some k1
  obtain ⟨hP, hw⟩ := hH.2 a _ ha
  have hAa : A a := hw rfl
  have hlt : i.toNatClampNeg < N := Nat.not_le.mp fun q => hin (Or.inr q)
  have h0 : ¬ i < 0 := fun q => hin (Or.inl q)
  cases x with
  | none =>
    refine va_WaastN (C := "java/lang/Object") hx hb hP ((hK.2 4 _ rfl).1 N (fun j => va_rf (f j))) (fun h => by cases h) (by show ¬ (i < 0 ∨ (arrV _ _ _).slots.size ≤ _); rw [arrV_size]; exact hin) rfl rfl hd fun H1 e3 e4 e5 => ?_
    refine kk _ z h' c0 n0 cb nb k2 (by omega) (by omega) H1 _ ls (hH.put hAa ?_ e4 e5) (hS.put e4 e5 hAa) hl
    show H1[a]? = some (vp_cell _ _)
    rw [e3, vp_cell_q, vp_cell_q, arrV_store]
    congr 2
    funext q
    by_cases hq : q = i.toNatClampNeg
    · subst hq; simp [updV, va_up, va_rf]
    · simp [updV, va_up, hq]
  | some v =>
    obtain ⟨⟨ci, vs⟩, hvo⟩ := hv v rfl
    obtain ⟨r', hr', cellV, g1, g2, g3, -⟩ := (hH.2 v _ hvo).1
    have hcls := (hK.1 ci r' hr').2
    obtain ⟨kA, comp, q1, q2, q3, -⟩ := (hK.2 4 _ rfl).2
    obtain ⟨kE, hkE, -⟩ := Vm.findClass_spec q3
    obtain ⟨c0', t1, f1, f2, f3⟩ := Cond.castable_spec (va_Nw.use (A := args) rfl (hz.1 _ (cast_all ci r' hr')))
    cases hcls.1.symm.trans f1
    cases q3.symm.trans f2
    obtain ⟨kC, hkC, -⟩ := hcls.2
    refine W.aast hx hb hP (fun q h => by cases h) (fun h => by cases h) q1 q2 rfl hkE ⟨h0, by show _ < (arrV _ _ _).slots.size; rw [arrV_size]; exact hlt⟩ g1 (fun q h => by rw [g3] at h; cases h) (by rw [g2]; exact hkC) (by rw [g2]; exact f3) rfl rfl hd fun H1 e3 e4 e5 => ?_
    refine kk _ z h' c0 n0 cb nb k2 (by omega) (by omega) H1 _ ls (hH.put hAa ?_ e4 e5) (hS.put e4 e5 hAa) hl
    show H1[a]? = some (vp_cell _ _)
    rw [e3, vp_cell_q, vp_cell_q, arrV_store]
    congr 2
    funext q
    by_cases hq : q = i.toNatClampNeg
    · subst hq; simp [updV, va_up, va_rf]
    · simp [updV, va_up, hq]
theorem sm_anew (cx : Cx X cc own nL) {j : Nat} {i : Int32} {K : Option Nat → Mo α} (hw : Cond.classLink own j "java/lang/Object" ∈ TB) (hd : decode cc pc = .ok (.anewarray j, 3)) (kk : ∀ b, Sim X nL Fi (pc + 3) lv (va_rf b :: st) (K b)) : Sim X nL Fi pc lv (.int i :: st) (mb (nA 4 i) K) := by
  obtain ⟨p, l, e, R, s, m, args, below, meth, c, D, cy, A, Z⟩ := X
  obtain ⟨hx, hb, hml, hown, hts, hK, hA, hlk, hz⟩ := cx
  intro h z h' c0 n0 c1 n1 hk e1 e2 H locs ls hH hS hl
  obtain ⟨b, h1, ca, na, cb, nb, k1, k2, rfl, rfl⟩ := mb_some hk
  unfold nA at k1
  split at k1
  · cases k1
  · rename_i hc
    cases k1
    have hzz := hH.1
    have hn : ¬ i < 0 := fun q => hc (Or.inl q)
    have hlim : i.toNatClampNeg ≤ 1000000 := Nat.not_lt.mp fun q => hc (Or.inr q)
    refine W.anew hx hb hown (hts _ hw) (va_AO.use hz.2.2.2.1.2.2) rfl hd rfl hn (by omega) (by omega) (by omega) fun cA kA comp f1 f2 f3 f4 => ?_
    generalize hH1 : H.push ({ cls := cA, slots := Array.replicate i.toNatClampNeg .null, vm := .none } : Cell) = H1
    have z1 : H1.size = H.size + 1 := by rw [← hH1, Array.size_push]
    have e3 : H1[H.size]? = some (arrV cA i.toNatClampNeg (fun _ => .null)) := by rw [← hH1, Array.getElem?_push_size, ← arrV_new]
    have o1 : ∀ q : Nat, q < H.size → H1[q]? = H[q]? := fun q hq => by rw [← hH1, Array.getElem?_push, if_neg (Nat.ne_of_lt hq)]
    obtain ⟨kA', comp', r1, r2, r3, r4⟩ := (hK.2 4 _ rfl).2
    have hcA : cA = cy 4 := Option.some.inj (f1.symm.trans r4)
    subst hcA
    refine W.eq (g2 := F0 m (pc + 3) ls (va_rf (some h.2) :: st)) (by rw [← hzz]; rfl) ?_
    refine kk _ _ z h' (c0 + 1) (n0 + i.toNatClampNeg) cb nb k2 (by omega) (by omega) H1 locs ls (hH.push (hA _ hS.1) ?_ z1 o1) ?_ hl
    · show H1[H.size]? = some (vp_cell _ _)
      exact e3
    · exact ⟨Nat.le_trans hS.1 (by omega), fun x h1 h2 => (o1 x (Nat.lt_of_lt_of_le h1 hS.1)).trans (hS.2.1 x h1 h2), hS.2.2⟩
/-- Math.max, Math.min -/
def jMx (x y : Int32) : Int32 := if x < y then y else x
theorem sm_mmax (cx : Cx X cc own nL) {i : Nat} {x y : Int32} (h1 : Cond.methodLink own i Lib.Math.max.name ∈ TB) (h2 : Cond.static Lib.Math.max.name ∈ TB) (h3 : Cond.initialized "java/lang/Math" ∈ TB) (h4 : Cond.code Lib.Math.max.name Lib.Math.max.code 2 (some .int) ∈ TB) (hfr : 1 ≤ (xR X).frames) (hlo : (st.map fun v => v.category).sum + 13 ≤ (xR X).locals) (hd : decode cc pc = .ok (.invokestatic i, 3)) (kk : Sim X nL Fi (pc + 3) lv (.int (jMx x y) :: st) k) : Sim X nL Fi pc lv (.int y :: .int x :: st) k := by
  obtain ⟨p, l, e, R, s, m, args, below, meth, c, D, cy, A, Z⟩ := X
  obtain ⟨hx, hb, hml, hown, hts, hK, hA, hlk, hz⟩ := cx
  intro h z h' c0 n0 c1 n1 hk e1 e2 H locs ls hH hS hl
  have w1 : c0 ≤ R.cells := by omega
  have w2 : n0 ≤ R.slots := by omega
  exact va_mmax hx hb (hml.trans hl.1.symm) hown (hts _ h1) (hts _ h2) (hts _ h3) (hts _ h4) hfr hlo w1 w2 hd (kk h z h' c0 n0 c1 n1 hk e1 e2 H locs ls hH hS hl)
def jMn (x y : Int32) : Int32 := if y < x then y else x
theorem sm_mmin (cx : Cx X cc own nL) {i : Nat} {x y : Int32} (h1 : Cond.methodLink own i Lib.Math.min.name ∈ TB) (h2 : Cond.static Lib.Math.min.name ∈ TB) (h3 : Cond.initialized "java/lang/Math" ∈ TB) (h4 : Cond.code Lib.Math.min.name Lib.Math.min.code 2 (some .int) ∈ TB) (hfr : 1 ≤ (xR X).frames) (hlo : (st.map fun v => v.category).sum + 13 ≤ (xR X).locals) (hd : decode cc pc = .ok (.invokestatic i, 3)) (kk : Sim X nL Fi (pc + 3) lv (.int (jMn x y) :: st) k) : Sim X nL Fi pc lv (.int y :: .int x :: st) k := by
  obtain ⟨p, l, e, R, s, m, args, below, meth, c, D, cy, A, Z⟩ := X
  obtain ⟨hx, hb, hml, hown, hts, hK, hA, hlk, hz⟩ := cx
  intro h z h' c0 n0 c1 n1 hk e1 e2 H locs ls hH hS hl
  have w1 : c0 ≤ R.cells := by omega
  have w2 : n0 ≤ R.slots := by omega
  exact va_mmin hx hb (hml.trans hl.1.symm) hown (hts _ h1) (hts _ h2) (hts _ h3) (hts _ h4) hfr hlo w1 w2 hd (kk h z h' c0 n0 c1 n1 hk e1 e2 H locs ls hH hS hl)
end LS
