/-! ===== arrays, new cells, casts ===== -/
theorem kp_byte (x : Int32) : kp 0 x = vp_nar .byte x := rfl
theorem kp_int (x : Int32) : kp 1 x = x := rfl
theorem kp_bool (x : Int32) : kp 3 x = x &&& 1 := rfl
theorem nr_rf {C : String} (r : Option Nat) : narrow (.object C) (va_rf r) = va_rf r := by cases r <;> rfl
theorem ft_rf {C : String} (r : Option Nat) : fits (.object C) (va_rf r) = true := by cases r <;> rfl
theorem nr_ra {t : FieldType} (r : Option Nat) : narrow (.array t) (va_rf r) = va_rf r := by cases r <;> rfl
theorem ft_ra {t : FieldType} (r : Option Nat) : fits (.array t) (va_rf r) = true := by cases r <;> rfl
/-- a truth value is written into a field -/
def pZ (ci k : Nat) (r : Option Nat) (x : Int32) : Mo Unit := if x = 0 ∨ x = 1 then pV ci k r (.int x) else mf
def ck (ci : Nat) (r : Option Nat) : Mo Unit := fun h => match r with
  | none => some ((), h, 0, 0)
  | some _ => match ob ci r h with
    | none => none
    | some _ => some ((), h, 0, 0)
section LC
variable {α : Type} {X : Cg} {nL : Nat} {Fi : α → Hs → State → Prop} {pc : Nat} {lv : List (Nat × Value)} {st : List Value} {k : Mo α} {cc : ByteArray} {own : String}
theorem sm_putZ (cx : Cx X cc own nL) {i ci j : Nat} {x : Int32} {dc : Bool} {r : Option Nat} {K : Mo α} (hF : FldOk own i ci j .boolean false dc) (hd : decode cc pc = .ok (.putfield i, 3)) (kk : Sim X nL Fi (pc + 3) lv st K) : Sim X nL Fi pc lv (.int x :: va_rf r :: st) (mb (pZ ci j r x) (fun _ => K)) := by
  by_cases hx : x = 0 ∨ x = 1
  · rw [show pZ ci j r x = pV ci j r (.int x) from if_pos hx]
    rcases hx with rfl | rfl
    · exact sm_putV cx hF rfl rfl hd kk
    · exact sm_putV cx hF rfl rfl hd kk
  · rw [show pZ ci j r x = mf from if_neg hx]
    obtain ⟨p, l, e, R, s, m, args, below, meth, c, D, cy, A, Z⟩ := X
    intro h z h' c0 n0 c1 n1 hk
    cases hk
theorem sm_putFZ (cx : Cx X cc own nL) (hin : X.2.2.2.2.2.2.2.2.1.name = "<init>") {i ci j : Nat} {x : Int32} {r : Option Nat} {K : Mo α} (hF : FldOk own i ci j .boolean true true) (hd : decode cc pc = .ok (.putfield i, 3)) (kk : Sim X nL Fi (pc + 3) lv st K) : Sim X nL Fi pc lv (.int x :: va_rf r :: st) (mb (pZ ci j r x) (fun _ => K)) := by
  by_cases hx : x = 0 ∨ x = 1
  · rw [show pZ ci j r x = pV ci j r (.int x) from if_pos hx]
    rcases hx with rfl | rfl
    · exact sm_putF cx hin hF rfl rfl hd kk
    · exact sm_putF cx hin hF rfl rfl hd kk
  · rw [show pZ ci j r x = mf from if_neg hx]
    obtain ⟨p, l, e, R, s, m, args, below, meth, c, D, cy, A, Z⟩ := X
    intro h z h' c0 n0 c1 n1 hk
    cases hk
theorem hs_u (cy : Nat → ClassId) {u t : Nat} (h : u % 10 = t) (x : vp_A) : ce_e cy (.inr (u, x)) = .inl (cy t, x) := by rw [← h]; rfl
theorem sm_iald (cx : Cx X cc own nL) {r : Option Nat} {i : Int32} {K : Int32 → Mo α} (hd : decode cc pc = .ok (.iaload, 1)) (kk : ∀ b, Sim X nL Fi (pc + 1) lv (.int b :: st) (K b)) : Sim X nL Fi pc lv (.int i :: va_rf r :: st) (mb (aI 1 r i) K) := by
  obtain ⟨p, l, e, R, s, m, args, below, meth, c, D, cy, A, Z⟩ := X
  obtain ⟨hx, hb, hml, hown, hts, hK, hA, hlk, hz⟩ := cx
  intro h z h' c0 n0 c1 n1 hk e1 e2 H locs ls hH hS hl
  obtain ⟨b, h1, ca, na, cb, nb, k1, k2, rfl, rfl⟩ := mb_some hk
  obtain ⟨a, u, N, f, rfl, ha, hu, hin, rfl, rfl, rfl, rfl⟩ := aI_some k1
  have hP := (hH.2 a _ ha).1
  rw [hs_u cy hu] at hP
  refine va_iald hx hb hK (one_P hP) 0 1 rfl rfl hin hd ?_
  exact kk _ h1 z h' c0 n0 cb nb k2 (by omega) (by omega) H locs ls hH hS hl
theorem sm_bald (cx : Cx X cc own nL) {r : Option Nat} {i : Int32} {K : Int32 → Mo α} (hd : decode cc pc = .ok (.baload, 1)) (kk : ∀ b, Sim X nL Fi (pc + 1) lv (.int b :: st) (K b)) : Sim X nL Fi pc lv (.int i :: va_rf r :: st) (mb (aI 0 r i) K) := by
  obtain ⟨p, l, e, R, s, m, args, below, meth, c, D, cy, A, Z⟩ := X
  obtain ⟨hx, hb, hml, hown, hts, hK, hA, hlk, hz⟩ := cx
  intro h z h' c0 n0 c1 n1 hk e1 e2 H locs ls hH hS hl
  obtain ⟨b, h1, ca, na, cb, nb, k1, k2, rfl, rfl⟩ := mb_some hk
  obtain ⟨a, u, N, f, rfl, ha, hu, hin, rfl, rfl, rfl, rfl⟩ := aI_some k1
  have hP := (hH.2 a _ ha).1
  rw [hs_u cy hu] at hP
  refine va_bald hx hb hK (one_P hP) 0 0 rfl rfl hin hd ?_
  exact kk _ h1 z h' c0 n0 cb nb k2 (by omega) (by omega) H locs ls hH hS hl
theorem sm_zald (cx : Cx X cc own nL) {r : Option Nat} {i : Int32} {K : Int32 → Mo α} (hd : decode cc pc = .ok (.baload, 1)) (kk : ∀ b, Sim X nL Fi (pc + 1) lv (.int b :: st) (K b)) : Sim X nL Fi pc lv (.int i :: va_rf r :: st) (mb (aI 3 r i) K) := by
  obtain ⟨p, l, e, R, s, m, args, below, meth, c, D, cy, A, Z⟩ := X
  obtain ⟨hx, hb, hml, hown, hts, hK, hA, hlk, hz⟩ := cx
  intro h z h' c0 n0 c1 n1 hk e1 e2 H locs ls hH hS hl
  obtain ⟨b, h1, ca, na, cb, nb, k1, k2, rfl, rfl⟩ := mb_some hk
  obtain ⟨a, u, N, f, rfl, ha, hu, hin, rfl, rfl, rfl, rfl⟩ := aI_some k1
  have hP := (hH.2 a _ ha).1
  rw [hs_u cy hu] at hP
  refine va_zald hx hb hK (one_P hP) 0 3 rfl rfl hin hd ?_
  exact kk _ h1 z h' c0 n0 cb nb k2 (by omega) (by omega) H locs ls hH hS hl
theorem sm_lald (cx : Cx X cc own nL) {r : Option Nat} {i : Int32} {K : Int64 → Mo α} (hd : decode cc pc = .ok (.laload, 1)) (kk : ∀ b, Sim X nL Fi (pc + 1) lv (.long b :: st) (K b)) : Sim X nL Fi pc lv (.int i :: va_rf r :: st) (mb (aL r i) K) := by
  obtain ⟨p, l, e, R, s, m, args, below, meth, c, D, cy, A, Z⟩ := X
  obtain ⟨hx, hb, hml, hown, hts, hK, hA, hlk, hz⟩ := cx
  intro h z h' c0 n0 c1 n1 hk e1 e2 H locs ls hH hS hl
  obtain ⟨b, h1, ca, na, cb, nb, k1, k2, rfl, rfl⟩ := mb_some hk
  obtain ⟨a, u, N, f, rfl, ha, hu, hin, rfl, rfl, rfl, rfl⟩ := aL_some k1
  have hP := (hH.2 a _ ha).1
  rw [hs_u cy hu] at hP
  refine va_lald hx hb hK (one_P hP) 0 2 rfl rfl hin hd ?_
  exact kk _ h1 z h' c0 n0 cb nb k2 (by omega) (by omega) H locs ls hH hS hl
theorem sm_aald (cx : Cx X cc own nL) {r : Option Nat} {i : Int32} {K : Option Nat → Mo α} (hd : decode cc pc = .ok (.aaload, 1)) (kk : ∀ b, Sim X nL Fi (pc + 1) lv (va_rf b :: st) (K b)) : Sim X nL Fi pc lv (.int i :: va_rf r :: st) (mb (aR r i) K) := by
  obtain ⟨p, l, e, R, s, m, args, below, meth, c, D, cy, A, Z⟩ := X
  obtain ⟨hx, hb, hml, hown, hts, hK, hA, hlk, hz⟩ := cx
  intro h z h' c0 n0 c1 n1 hk e1 e2 H locs ls hH hS hl
  obtain ⟨b, h1, ca, na, cb, nb, k1, k2, rfl, rfl⟩ := mb_some hk
  obtain ⟨a, u, N, f, rfl, ha, hu, hin, rfl, rfl, rfl, rfl⟩ := aR_some k1
  have hP := (hH.2 a _ ha).1
  rw [hs_u cy hu] at hP
  refine va_aldq (C := "java/lang/Object") hx hb hK (one_P hP) 0 4 rfl rfl hin hd ?_
  exact kk _ h1 z h' c0 n0 cb nb k2 (by omega) (by omega) H locs ls hH hS hl
theorem tys_at (cy : Nat → ClassId) {t : Nat} (h : t < 5) : ∃ ty, (tysA cy)[t]? = some (cy t, ty) := by
  match t, h with
  | 0, _ => exact ⟨_, rfl⟩
  | 1, _ => exact ⟨_, rfl⟩
  | 2, _ => exact ⟨_, rfl⟩
  | 3, _ => exact ⟨_, rfl⟩
  | 4, _ => exact ⟨_, rfl⟩
theorem sm_alen (cx : Cx X cc own nL) (t : Nat) (ht : t < 5) {r : Option Nat} {K : Int32 → Mo α} (hd : decode cc pc = .ok (.arraylength, 1)) (kk : ∀ b, Sim X nL Fi (pc + 1) lv (.int b :: st) (K b)) : Sim X nL Fi pc lv (va_rf r :: st) (mb (aN t r) K) := by
  obtain ⟨p, l, e, R, s, m, args, below, meth, c, D, cy, A, Z⟩ := X
  obtain ⟨hx, hb, hml, hown, hts, hK, hA, hlk, hz⟩ := cx
  intro h z h' c0 n0 c1 n1 hk e1 e2 H locs ls hH hS hl
  obtain ⟨b, h1, ca, na, cb, nb, k1, k2, rfl, rfl⟩ := mb_some hk
  obtain ⟨a, u, x, rfl, ha, hu, rfl, rfl, rfl, rfl⟩ := aN_some k1
  have hP := (hH.2 a _ ha).1
  rw [hs_u cy hu] at hP
  obtain ⟨ty, hty⟩ := tys_at cy ht
  refine va_alen hx hb hK (one_P hP) 0 t rfl hty rfl hd ?_
  exact kk _ h1 z h' c0 n0 cb nb k2 (by omega) (by omega) H locs ls hH hS hl
theorem arr_put {cA : ClassId} {N : Nat} {f : Nat → Int32} {i : Nat} {x : Int32} : (arrV cA N (fun j => .int (f j))).setSlot i (.int x) = arrV cA N (fun j => .int (upd f i x j)) := by
  rw [arrV_store]
  congr 1
  funext q
  by_cases hq : q = i
  · subst hq; simp [updV, upd]
  · simp [updV, upd, hq]
theorem sm_iast (cx : Cx X cc own nL) {r : Option Nat} {i x : Int32} {K : Mo α} (hd : decode cc pc = .ok (.iastore, 1)) (kk : Sim X nL Fi (pc + 1) lv st K) : Sim X nL Fi pc lv (.int x :: .int i :: va_rf r :: st) (mb (sI 1 r i x) (fun _ => K)) := by
  obtain ⟨p, l, e, R, s, m, args, below, meth, c, D, cy, A, Z⟩ := X
  obtain ⟨hx, hb, hml, hown, hts, hK, hA, hlk, hz⟩ := cx
  intro h z h' c0 n0 c1 n1 hk e1 e2 H locs ls hH hS hl
  obtain ⟨b, h1, ca, na, cb, nb, k1, k2, rfl, rfl⟩ := mb_some hk
  obtain ⟨a, N, f, rfl, ha, hu, hin, rfl, rfl, rfl⟩ := sI_some k1
  obtain ⟨hP, hw⟩ := hH.2 a _ ha
  have hAa : A a := hw rfl
  refine W.iast hx hb hP ((hK.2 1 _ rfl).1 N (fun j => .int (f j))) (fun q => by cases q) (by show ¬ (i < 0 ∨ (arrV _ _ _).slots.size ≤ _); rw [arrV_size]; exact hin) rfl rfl hd fun H1 e3 e4 e5 => ?_
  refine kk _ z h' c0 n0 cb nb k2 (by omega) (by omega) H1 _ ls (hH.put hAa ?_ e4 e5) (hS.put e4 e5 hAa) hl
  show H1[a]? = some (vp_cell _ _)
  rw [e3, vp_cell_i, vp_cell_i, arr_put, kp_int]
theorem sm_bast (cx : Cx X cc own nL) {r : Option Nat} {i x : Int32} {K : Mo α} (hd : decode cc pc = .ok (.bastore, 1)) (kk : Sim X nL Fi (pc + 1) lv st K) : Sim X nL Fi pc lv (.int x :: .int i :: va_rf r :: st) (mb (sI 0 r i x) (fun _ => K)) := by
  obtain ⟨p, l, e, R, s, m, args, below, meth, c, D, cy, A, Z⟩ := X
  obtain ⟨hx, hb, hml, hown, hts, hK, hA, hlk, hz⟩ := cx
  intro h z h' c0 n0 c1 n1 hk e1 e2 H locs ls hH hS hl
  obtain ⟨b, h1, ca, na, cb, nb, k1, k2, rfl, rfl⟩ := mb_some hk
  obtain ⟨a, N, f, rfl, ha, hu, hin, rfl, rfl, rfl⟩ := sI_some k1
  obtain ⟨hP, hw⟩ := hH.2 a _ ha
  have hAa : A a := hw rfl
  refine W.bast hx hb hP ((hK.2 0 _ rfl).1 N (fun j => .int (f j))) (fun q => by cases q) (by show ¬ (i < 0 ∨ (arrV _ _ _).slots.size ≤ _); rw [arrV_size]; exact hin) rfl rfl hd fun H1 e3 e4 e5 => ?_
  refine kk _ z h' c0 n0 cb nb k2 (by omega) (by omega) H1 _ ls (hH.put hAa ?_ e4 e5) (hS.put e4 e5 hAa) hl
  show H1[a]? = some (vp_cell _ _)
  rw [e3, vp_cell_i, vp_cell_i, kp_byte, ← arr_put]
  rfl
theorem sm_zast (cx : Cx X cc own nL) {r : Option Nat} {i x : Int32} {K : Mo α} (hd : decode cc pc = .ok (.bastore, 1)) (kk : Sim X nL Fi (pc + 1) lv st K) : Sim X nL Fi pc lv (.int x :: .int i :: va_rf r :: st) (mb (sI 3 r i x) (fun _ => K)) := by
  obtain ⟨p, l, e, R, s, m, args, below, meth, c, D, cy, A, Z⟩ := X
  obtain ⟨hx, hb, hml, hown, hts, hK, hA, hlk, hz⟩ := cx
  intro h z h' c0 n0 c1 n1 hk e1 e2 H locs ls hH hS hl
  obtain ⟨b, h1, ca, na, cb, nb, k1, k2, rfl, rfl⟩ := mb_some hk
  obtain ⟨a, N, f, rfl, ha, hu, hin, rfl, rfl, rfl⟩ := sI_some k1
  obtain ⟨hP, hw⟩ := hH.2 a _ ha
  have hAa : A a := hw rfl
  refine W.zast hx hb hP ((hK.2 3 _ rfl).1 N (fun j => .int (f j))) (fun q => by cases q) (by show ¬ (i < 0 ∨ (arrV _ _ _).slots.size ≤ _); rw [arrV_size]; exact hin) rfl rfl hd fun H1 e3 e4 e5 => ?_
  refine kk _ z h' c0 n0 cb nb k2 (by omega) (by omega) H1 _ ls (hH.put hAa ?_ e4 e5) (hS.put e4 e5 hAa) hl
  show H1[a]? = some (vp_cell _ _)
  rw [e3, vp_cell_i, vp_cell_i, kp_bool, ← arr_put]
  rfl
theorem sm_last (cx : Cx X cc own nL) {r : Option Nat} {i : Int32} {x : Int64} {K : Mo α} (hd : decode cc pc = .ok (.lastore, 1)) (kk : Sim X nL Fi (pc + 1) lv st K) : Sim X nL Fi pc lv (.long x :: .int i :: va_rf r :: st) (mb (sL r i x) (fun _ => K)) := by
  obtain ⟨p, l, e, R, s, m, args, below, meth, c, D, cy, A, Z⟩ := X
  obtain ⟨hx, hb, hml, hown, hts, hK, hA, hlk, hz⟩ := cx
  intro h z h' c0 n0 c1 n1 hk e1 e2 H locs ls hH hS hl
  obtain ⟨b, h1, ca, na, cb, nb, k1, k2, rfl, rfl⟩ := mb_some hk
  obtain ⟨a, N, f, rfl, ha, hin, rfl, rfl, rfl⟩ := sL_some k1
  obtain ⟨hP, hw⟩ := hH.2 a _ ha
  have hAa : A a := hw rfl
  refine W.last hx hb hP ((hK.2 2 _ rfl).1 N (fun j => .long (f j))) (fun q => by cases q) (by show ¬ (i < 0 ∨ (arrV _ _ _).slots.size ≤ _); rw [arrV_size]; exact hin) rfl rfl hd fun H1 e3 e4 e5 => ?_
  refine kk _ z h' c0 n0 cb nb k2 (by omega) (by omega) H1 _ ls (hH.put hAa ?_ e4 e5) (hS.put e4 e5 hAa) hl
  show H1[a]? = some (vp_cell _ _)
  rw [e3, vp_cell_l, vp_cell_l, arrV_store]
  congr 2
  funext q
  by_cases hq : q = i.toNatClampNeg
  · subst hq; simp [updV, vp_updL]
  · simp [updV, vp_updL, hq]
/-- what is fixed of a 'new' -/
def NewOk (own : String) (i ci : Nat) (fs : List Value) : Prop := ∃ (C : String) (T : u_T) (ty : Nat → FieldType), vwCl[ci]? = some (C, T, fs.length) ∧ (∀ w ∈ u_ws C T fs.length, w ∈ TB) ∧ (∀ k, k < fs.length → parseFieldDescriptor (T k).2.2.1 = some (ty k)) ∧ Cond.classLink own i C ∈ TB ∧ Cond.instantiable C fs.length ∈ TB ∧ Cond.initialized C ∈ TB ∧ (∀ j, j < fs.length → defaultValue (ty j) = vp_V fs j)
theorem sm_new (cx : Cx X cc own nL) {i ci : Nat} {fs : List Value} {K : Option Nat → Mo α} (hN : NewOk own i ci fs) (hd : decode cc pc = .ok (.new i, 3)) (kk : ∀ b, Sim X nL Fi (pc + 3) lv (va_rf b :: st) (K b)) : Sim X nL Fi pc lv st (mb (nO ci fs) K) := by
  obtain ⟨p, l, e, R, s, m, args, below, meth, c, D, cy, A, Z⟩ := X
  obtain ⟨hx, hb, hml, hown, hts, hK, hA, hlk, hz⟩ := cx
  intro h z h' c0 n0 c1 n1 hk e1 e2 H locs ls hH hS hl
  obtain ⟨b, h1, ca, na, cb, nb, k1, k2, rfl, rfl⟩ := mb_some hk
  cases k1
  obtain ⟨C, T, ty, f1, f2, f3, f4, f5, f6, f7⟩ := hN
  have hKn := hK.1 ci _ f1
  have hz := hH.1
  refine W.newcK hx hb hown (hts _ f4) (hts _ f5) (hts _ f6) rfl hd (by omega) (by omega) hKn.2.1 rfl fun H1 kC hkC e3 e4 e5 => ?_
  refine W.eq (g2 := F0 m (pc + 3) ls (va_rf (some h.2) :: st)) (by rw [← hz]; rfl) ?_
  refine kk _ _ z h' (c0 + 1) (n0 + fs.length) cb nb k2 (by omega) (by omega) H1 locs ls (hH.push (hA _ hS.1) ?_ e4 e5) ?_ hl
  · exact ⟨_, f1, (u_born ty hts f2 hKn hkC e3 f3).to f7⟩
  · exact ⟨Nat.le_trans hS.1 (by omega), fun x h1 h2 => (e5 x (Nat.lt_of_lt_of_le h1 hS.1)).trans (hS.2.1 x h1 h2), hS.2.2⟩
/-- a new array of kind t -/
def atyp (t : Nat) : ArrayType := if t = 0 then .byte else if t = 1 then .int else if t = 2 then .long else .boolean
theorem sm_newa (cx : Cx X cc own nL) (t : Nat) {at0 : ArrayType} {ty : FieldType} {i : Int32} {K : Option Nat → Mo α} (hty : newarray.typeOf at0 = ty) (htys : ∀ cy : Nat → ClassId, (tysA cy)[t]? = some (cy t, ty)) (ht : t % 10 = t) (hcell : ∀ (cA : ClassId) (N : Nat), vp_cell cA (N, z0 t) = arrV cA N (fun _ => defaultValue ty)) (hnm : ∀ (s : State) (cA : ClassId), va_RA s cA ty → s.vm.findClass ("[" ++ ty.toString) = some cA) (hby : componentBytes ty ≤ 8) (hw : Cond.arrayClass (newarray.typeOf at0) ∈ TB) (hd : decode cc pc = .ok (.newarray at0, 2)) (kk : ∀ b, Sim X nL Fi (pc + 2) lv (va_rf b :: st) (K b)) : Sim X nL Fi pc lv (.int i :: st) (mb (nA t i) K) := by
  obtain ⟨p, l, e, R, s, m, args, below, meth, c, D, cy, A, Z⟩ := X
  obtain ⟨hx, hb, hml, hown, hts, hK, hA, hlk, hz⟩ := cx
  intro h z h' c0 n0 c1 n1 hk e1 e2 H locs ls hH hS hl
  obtain ⟨b, h1, ca, na, cb, nb, k1, k2, rfl, rfl⟩ := mb_some hk
  unfold nA at k1
  split at k1
  · cases k1
  · rename_i hc
    cases k1
    have hz := hH.1
    have hn : ¬ i < 0 := fun q => hc (Or.inl q)
    have hlim : i.toNatClampNeg ≤ 1000000 := Nat.not_lt.mp fun q => hc (Or.inr q)
    subst hty
    refine va_newaK hx hb (hts _ hw) rfl hd rfl hn rfl (Nat.le_trans (Nat.mul_le_mul hlim hby) (by decide)) (by omega) (by omega) rfl fun H1 cA e3 e4 e5 hAr hNm => ?_
    have hcA : cA = cy t := Option.some.inj (hNm.symm.trans (hnm s (cy t) (hK.2 t _ (htys cy)).2))
    subst hcA
    refine W.eq (g2 := F0 m (pc + 2) ls (va_rf (some h.2) :: st)) (by rw [← hz]; rfl) ?_
    refine kk _ _ z h' (c0 + 1) (n0 + i.toNatClampNeg) cb nb k2 (by omega) (by omega) H1 locs ls (hH.push (hA _ hS.1) ?_ e4 e5) ?_ hl
    · rw [hs_u cy ht]
      show H1[H.size]? = some (vp_cell _ _)
      rw [hcell]
      exact e3
    · exact ⟨Nat.le_trans hS.1 (by omega), fun x h1 h2 => (e5 x (Nat.lt_of_lt_of_le h1 hS.1)).trans (hS.2.1 x h1 h2), hS.2.2⟩
end LC
