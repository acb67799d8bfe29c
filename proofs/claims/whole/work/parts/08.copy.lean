/-! ===== System.arraycopy, getClass, a class object ===== -/
theorem nn_i {z : Int32} (hz : ¬ z < 0) : z.toInt = (z.toNatClampNeg : Int) := by
  have hz0 : (0 : Int) ≤ z.toInt := by
    have := Int32.not_lt.mp hz
    simpa using Int32.le_iff_toInt_le.mp this
  show z.toInt = ((z.toInt.toNat : Nat) : Int)
  omega
/-- all that is copied is null or an object of a class of vwCl -/
def cpOk (h : Hs) (f : Nat → Option Nat) (sp n : Nat) : Bool := (List.range n).all (fun i => match f (sp + i) with
  | none => true
  | some y => match h.1 y with
    | some (.inl _) => true
    | _ => false)
def cpR (src : Option Nat) (sp : Int32) (dst : Option Nat) (dp n : Int32) : Mo Unit := fun h => match ar 4 src h, ar 4 dst h with
  | some (_, _, (n0, .inr (.inr (.inr (.inr f))))), some (a, u, (n1, .inr (.inr (.inr (.inr g))))) => if sp < 0 ∨ dp < 0 ∨ n < 0 ∨ n0 < sp.toNatClampNeg + n.toNatClampNeg ∨ n1 < dp.toNatClampNeg + n.toNatClampNeg ∨ u ≠ 4 ∨ cpOk h f sp.toNatClampNeg n.toNatClampNeg = false then none else some ((), (va_up h.1 a (some (.inr (4, (n1, .inr (.inr (.inr (.inr (va_cpy f g sp.toNatClampNeg dp.toNatClampNeg n.toNatClampNeg)))))))), h.2), 0, 0)
  | _, _ => none
def cpI (src : Option Nat) (sp : Int32) (dst : Option Nat) (dp n : Int32) : Mo Unit := fun h => match ar 1 src h, ar 1 dst h with
  | some (_, _, (n0, .inl f)), some (a, u, (n1, .inl g)) => if sp < 0 ∨ dp < 0 ∨ n < 0 ∨ n0 < sp.toNatClampNeg + n.toNatClampNeg ∨ n1 < dp.toNatClampNeg + n.toNatClampNeg ∨ u ≠ 1 then none else some ((), (va_up h.1 a (some (.inr (1, (n1, .inl (va_cpy f g sp.toNatClampNeg dp.toNatClampNeg n.toNatClampNeg))))), h.2), 0, 0)
  | _, _ => none
theorem cpR_some {src dst : Option Nat} {sp dp n : Int32} {h h1 : Hs} {v : Unit} {c m : Nat} (e : cpR src sp dst dp n h = some (v, h1, c, m)) : ∃ a0 u0 n0 f a n1 g, src = some a0 ∧ dst = some a ∧ h.1 a0 = some (.inr (u0, (n0, .inr (.inr (.inr (.inr f)))))) ∧ u0 % 10 = 4 ∧ h.1 a = some (.inr (4, (n1, .inr (.inr (.inr (.inr g)))))) ∧ ¬ sp < 0 ∧ ¬ dp < 0 ∧ ¬ n < 0 ∧ sp.toNatClampNeg + n.toNatClampNeg ≤ n0 ∧ dp.toNatClampNeg + n.toNatClampNeg ≤ n1 ∧ (∀ i, i < n.toNatClampNeg → ∀ y, f (sp.toNatClampNeg + i) = some y → ∃ o, h.1 y = some (.inl o)) ∧ h1 = (va_up h.1 a (some (.inr (4, (n1, .inr (.inr (.inr (.inr (va_cpy f g sp.toNatClampNeg dp.toNatClampNeg n.toNatClampNeg)))))))), h.2) ∧ c = 0 ∧ m = 0 := by
  unfold cpR at e
  split at e
  · rename_i a0 u0 n0 f a u n1 g e0 e1
    obtain ⟨p1, p2, p3⟩ := ar_some e0
    obtain ⟨q1, q2, q3⟩ := ar_some e1
    split at e
    · cases e
    · rename_i hc
      simp only [not_or] at hc
      obtain ⟨c1, c2, c3, c4, c5, c6, c7⟩ := hc
      have hu : u = 4 := Decidable.byContradiction c6
      subst hu
      cases e
      refine ⟨a0, u0, n0, f, a, n1, g, p1, q1, p2, p3, q2, c1, c2, c3, Nat.not_lt.mp c4, Nat.not_lt.mp c5, ?_, rfl, rfl, rfl⟩
      intro i hi y hy
      have hall : cpOk h f sp.toNatClampNeg n.toNatClampNeg = true := by
        cases hh : cpOk h f sp.toNatClampNeg n.toNatClampNeg with
        | true => rfl
        | false => exact absurd hh c7
      have := List.all_eq_true.mp hall i (List.mem_range.mpr hi)
      rw [hy] at this
      split at this
      · rename_i heq; cases heq
      · rename_i y' heq
        cases heq
        split at this
        · rename_i o ho; exact ⟨o, ho⟩
        · cases this
  · cases e
theorem cpI_some {src dst : Option Nat} {sp dp n : Int32} {h h1 : Hs} {v : Unit} {c m : Nat} (e : cpI src sp dst dp n h = some (v, h1, c, m)) : ∃ a0 u0 n0 f a n1 g, src = some a0 ∧ dst = some a ∧ h.1 a0 = some (.inr (u0, (n0, .inl f))) ∧ u0 % 10 = 1 ∧ h.1 a = some (.inr (1, (n1, .inl g))) ∧ ¬ sp < 0 ∧ ¬ dp < 0 ∧ ¬ n < 0 ∧ sp.toNatClampNeg + n.toNatClampNeg ≤ n0 ∧ dp.toNatClampNeg + n.toNatClampNeg ≤ n1 ∧ h1 = (va_up h.1 a (some (.inr (1, (n1, .inl (va_cpy f g sp.toNatClampNeg dp.toNatClampNeg n.toNatClampNeg))))), h.2) ∧ c = 0 ∧ m = 0 := by
  unfold cpI at e
  split at e
  · rename_i a0 u0 n0 f a u n1 g e0 e1
    obtain ⟨p1, p2, p3⟩ := ar_some e0
    obtain ⟨q1, q2, q3⟩ := ar_some e1
    split at e
    · cases e
    · rename_i hc
      simp only [not_or] at hc
      obtain ⟨c1, c2, c3, c4, c5, c6⟩ := hc
      have hu : u = 1 := Decidable.byContradiction c6
      subst hu
      cases e
      exact ⟨a0, u0, n0, f, a, n1, g, p1, q1, p2, p3, q2, c1, c2, c3, Nat.not_lt.mp c4, Nat.not_lt.mp c5, rfl, rfl, rfl⟩
  · cases e
theorem nfw : nativeFrameWords "java/lang/System" "arraycopy" 5 ≤ 20 := by decide
section LP
variable {α : Type} {X : Cg} {nL : Nat} {Fi : α → Hs → State → Prop} {pc : Nat} {lv : List (Nat × Value)} {st stk : List Value} {k : Mo α} {cc : ByteArray} {own : String}
theorem sm_cpR (cx : Cx X cc own nL) {i : Nat} {src dst : Option Nat} {sp dp n : Int32} {K : Mo α} (h1 : Cond.methodLink own i arraycopyName ∈ TB) (h2 : Cond.native arraycopyName ∈ TB) (h3 : Cond.static arraycopyName ∈ TB) (h4 : Cond.initialized "java/lang/System" ∈ TB) (hfr : 1 ≤ (xR X).frames) (hcat : (st.map fun v => v.category).sum ≤ 8) (hlo : 39 ≤ (xR X).locals) (hd : decode cc pc = .ok (.invokestatic i, 3)) (kk : Sim X nL Fi (pc + 3) lv st K) : Sim X nL Fi pc lv (.int n :: .int dp :: va_rf dst :: .int sp :: va_rf src :: st) (mb (cpR src sp dst dp n) (fun _ => K)) := by
  obtain ⟨p, l, e, R, s, m, args, below, meth, c, D, cy, A, Z⟩ := X
  obtain ⟨hx, hb, hml, hown, hts, hK, hA, hlk, hz⟩ := cx
  intro h z h' c0 n0' c1 n1' hk e1 e2 H locs ls hH hS hl
  obtain ⟨b, hh1, ca, na, cb, nb, k1, k2, rfl, rfl⟩ := mb_some hk
  obtain ⟨a0, u0, n0, f, a, n1, g, rfl, rfl, ha0, hu0, ha1, w1, w2, w3, w4, w5, hel, rfl, rfl, rfl⟩ := cpR_some k1
  have hP0 := (hH.2 a0 _ ha0).1
  rw [hs_u cy hu0] at hP0
  obtain ⟨hP1, hw⟩ := hH.2 a _ ha1
  have hAa : A a := hw rfl
  have hc0 : H[a0]? = some (vp_cell (cy 4) (n0, .inr (.inr (.inr (.inr f))))) := hP0
  have hc1 : H[a]? = some (vp_cell (cy 4) (n1, .inr (.inr (.inr (.inr g))))) := hP1
  have hlow : (st.map fun v => v.category).sum + (nativeFrameWords "java/lang/System" "arraycopy" 5 + 11) ≤ R.locals := Nat.le_trans (Nat.add_le_add hcat (Nat.add_le_add_right nfw 11)) hlo
  intro T hT Y
  obtain ⟨-, k0, hk0, cm0, hkk0⟩ := (hK.2 4 _ rfl).1 n0 (fun j => va_rf (f j))
  obtain ⟨-, k1', hk1, cm1, hkk1⟩ := (hK.2 4 _ rfl).1 n1 (fun j => va_rf (g j))
  obtain ⟨vm', X', step⟩ := Y.arraycopy hx hown (hts _ h1) (hts _ h2) (hts _ h3) (hts _ h4) (src := a0) (dst := a) (cs := vp_cell (cy 4) (n0, .inr (.inr (.inr (.inr f))))) (cd := vp_cell (cy 4) (n1, .inr (.inr (.inr (.inr g))))) (srcPos := sp) (destPos := dp) (n := n) (by rw [hT]; exact hc0) (by rw [hT]; exact hc1)
    (fun _ h => by cases h) (fun _ h => by cases h) (fun h => by cases h) (fun h => by cases h) hk0 hk1 hkk0 hkk1 rfl w1 w2 w3
    (by rw [nn_i w1, nn_i w3]; show ¬ _ > ((arrV (cy 4) n0 (fun j => va_rf (f j))).slots.size : Int); rw [arrV_size]; omega)
    (by rw [nn_i w2, nn_i w3]; show ¬ _ > ((arrV (cy 4) n1 (fun j => va_rf (g j))).slots.size : Int); rw [arrV_size]; omega)
    (fun vm₁ hal i hi => by
      have e : (vp_cell (cy 4) (n0, .inr (.inr (.inr (.inr f))))).slots.getD (sp.toNatClampNeg + i) .null = va_rf (f (sp.toNatClampNeg + i)) := by
        show (arrV (cy 4) n0 (fun j => va_rf (f j))).slots.getD _ _ = _
        rw [Array.getD_eq_getD_getElem?, arrV_read _ _ (by omega)]
        rfl
      rw [e]
      cases hy : f (sp.toNatClampNeg + i) with
      | none => exact ⟨rfl, trivial⟩
      | some y =>
        obtain ⟨⟨ci, vs⟩, hvo⟩ := hel i hi y hy
        obtain ⟨r', hr', cellV, g1, g2, g3, -⟩ := (hH.2 y _ hvo).1
        have hcls := (hK.1 ci r' hr').2
        obtain ⟨kA, comp, r1, r2, r3, -⟩ := (hK.2 4 _ rfl).2
        cases hk1.symm.trans r1
        cases hkk1.symm.trans r2
        obtain ⟨c0', t1, f1, f2, f3⟩ := Cond.castable_spec (va_Nw.use (A := args) rfl (hz.1 _ (cast_all ci r' hr')))
        cases hcls.1.symm.trans f1
        cases r3.symm.trans f2
        obtain ⟨kC, hkC, -⟩ := hcls.2
        obtain ⟨kE, hkE, -⟩ := Vm.findClass_spec r3
        obtain ⟨kC', hkC', -⟩ := hal.2.2 _ _ hkC
        obtain ⟨kE', hkE', -⟩ := hal.2.2 _ _ hkE
        refine ⟨rfl, cellV, (show T.heap[y]? = some cellV by rw [hT]; exact g1), (fun q h => by rw [g3] at h; cases h), ⟨kC', by rw [g2]; exact hkC'⟩, ?_, ?_⟩
        · exact ⟨kE', hkE'⟩
        · show vm₁.assignable _ _ = true
          rw [hal.assignable, g2]
          exact f3)
    (g := F0 m pc ls (.int n :: .int dp :: .ref a :: .int sp :: .ref a0 :: st)) rfl (by rw [hml]; exact hl.1) (rest := st) rfl (by rw [hb]; exact hd) hfr (by show 2 * 0 + _ + _ ≤ R.locals; omega)
  have e3 : copied (vp_cell (cy 4) (n0, .inr (.inr (.inr (.inr f))))) (vp_cell (cy 4) (n1, .inr (.inr (.inr (.inr g))))) sp dp n = vp_cell (cy 4) (n1, .inr (.inr (.inr (.inr (va_cpy f g sp.toNatClampNeg dp.toNatClampNeg n.toNatClampNeg))))) := by
    rw [vp_cell_q, vp_cell_q, vp_cell_q]
    exact va_copied (fun z => va_rf z) (cy 4) (cy 4) f g w4
  rw [e3] at X' step
  have hlt : a < H.size := (Array.getElem?_eq_some_iff.mp hc1).1
  have hheap : ((T.setVm vm').setCell a (vp_cell (cy 4) (n1, .inr (.inr (.inr (.inr (va_cpy f g sp.toNatClampNeg dp.toNatClampNeg n.toNatClampNeg))))))).heap = H.setIfInBounds a (vp_cell (cy 4) (n1, .inr (.inr (.inr (.inr (va_cpy f g sp.toNatClampNeg dp.toNatClampNeg n.toNatClampNeg)))))) := by rw [← hT]; rfl
  have oq : ∀ q : Nat, q ≠ a → (H.setIfInBounds a (vp_cell (cy 4) (n1, .inr (.inr (.inr (.inr (va_cpy f g sp.toNatClampNeg dp.toNatClampNeg n.toNatClampNeg)))))))[q]? = H[q]? := fun q hq => by simp [Array.getElem?_setIfInBounds, Ne.symm hq]
  obtain ⟨t, a1, b1⟩ := kk _ z h' c0 n0' cb nb k2 (by omega) (by omega) _ _ ls (hH.put hAa (show (H.setIfInBounds a _)[a]? = some _ by simp [Array.getElem?_setIfInBounds, hlt]) (by simp) oq) ⟨by simp; exact hS.1, fun q g1 g2 => by
      rw [oq q (fun e => g2 (by rw [e]; exact hAa))]
      exact hS.2.1 q g1 g2, fun q hq => by
      rcases List.mem_append.mp hq with h | h
      · exact hS.2.2 q h
      · obtain ⟨z, -, hz⟩ := List.mem_map.mp h
        rw [← hz]
        exact hAa⟩ hl _ hheap X'
  exact ⟨t, step t a1, b1⟩
theorem sm_cpI (cx : Cx X cc own nL) {i : Nat} {src dst : Option Nat} {sp dp n : Int32} {K : Mo α} (h1 : Cond.methodLink own i arraycopyName ∈ TB) (h2 : Cond.native arraycopyName ∈ TB) (h3 : Cond.static arraycopyName ∈ TB) (h4 : Cond.initialized "java/lang/System" ∈ TB) (hfr : 1 ≤ (xR X).frames) (hcat : (st.map fun v => v.category).sum ≤ 8) (hlo : 39 ≤ (xR X).locals) (hd : decode cc pc = .ok (.invokestatic i, 3)) (kk : Sim X nL Fi (pc + 3) lv st K) : Sim X nL Fi pc lv (.int n :: .int dp :: va_rf dst :: .int sp :: va_rf src :: st) (mb (cpI src sp dst dp n) (fun _ => K)) := by
  obtain ⟨p, l, e, R, s, m, args, below, meth, c, D, cy, A, Z⟩ := X
  obtain ⟨hx, hb, hml, hown, hts, hK, hA, hlk, hz⟩ := cx
  intro h z h' c0 n0' c1 n1' hk e1 e2 H locs ls hH hS hl
  obtain ⟨b, hh1, ca, na, cb, nb, k1, k2, rfl, rfl⟩ := mb_some hk
  obtain ⟨a0, u0, n0, f, a, n1, g, rfl, rfl, ha0, hu0, ha1, w1, w2, w3, w4, w5, rfl, rfl, rfl⟩ := cpI_some k1
  have hP0 := (hH.2 a0 _ ha0).1
  rw [hs_u cy hu0] at hP0
  obtain ⟨hP1, hw⟩ := hH.2 a _ ha1
  have hAa : A a := hw rfl
  have hc0 : H[a0]? = some (vp_cell (cy 1) (n0, .inl f)) := hP0
  have hc1 : H[a]? = some (vp_cell (cy 1) (n1, .inl g)) := hP1
  have hlow : (st.map fun v => v.category).sum + (nativeFrameWords "java/lang/System" "arraycopy" 5 + 11) ≤ R.locals := Nat.le_trans (Nat.add_le_add hcat (Nat.add_le_add_right nfw 11)) hlo
  intro T hT Y
  obtain ⟨-, k0, hk0, cm0, hkk0⟩ := (hK.2 1 _ rfl).1 n0 (fun j => .int (f j))
  obtain ⟨-, k1', hk1, cm1, hkk1⟩ := (hK.2 1 _ rfl).1 n1 (fun j => .int (g j))
  obtain ⟨vm', X', step⟩ := Y.arraycopy hx hown (hts _ h1) (hts _ h2) (hts _ h3) (hts _ h4) (src := a0) (dst := a) (cs := vp_cell (cy 1) (n0, .inl f)) (cd := vp_cell (cy 1) (n1, .inl g)) (srcPos := sp) (destPos := dp) (n := n) (by rw [hT]; exact hc0) (by rw [hT]; exact hc1)
    (fun _ h => by cases h) (fun _ h => by cases h) (fun h => by cases h) (fun h => by cases h) hk0 hk1 hkk0 hkk1 (by simp [refKind]) w1 w2 w3
    (by rw [nn_i w1, nn_i w3]; show ¬ _ > ((arrV (cy 1) n0 (fun j => .int (f j))).slots.size : Int); rw [arrV_size]; omega)
    (by rw [nn_i w2, nn_i w3]; show ¬ _ > ((arrV (cy 1) n1 (fun j => .int (g j))).slots.size : Int); rw [arrV_size]; omega)
    (fun vm₁ _ i hi => by
      have e : (vp_cell (cy 1) (n0, .inl f)).slots.getD (sp.toNatClampNeg + i) .null = .int (f (sp.toNatClampNeg + i)) := by
        show (arrV (cy 1) n0 (fun j => .int (f j))).slots.getD _ _ = _
        rw [Array.getD_eq_getD_getElem?, arrV_read _ _ (by omega)]
        rfl
      refine ⟨?_, ?_⟩
      · rw [e]; rfl
      · rw [e]; exact trivial)
    (g := F0 m pc ls (.int n :: .int dp :: .ref a :: .int sp :: .ref a0 :: st)) rfl (by rw [hml]; exact hl.1) (rest := st) rfl (by rw [hb]; exact hd) hfr (by show 2 * 0 + _ + _ ≤ R.locals; omega)
  have e3 : copied (vp_cell (cy 1) (n0, .inl f)) (vp_cell (cy 1) (n1, .inl g)) sp dp n = vp_cell (cy 1) (n1, .inl (va_cpy f g sp.toNatClampNeg dp.toNatClampNeg n.toNatClampNeg)) := va_copied (fun z => .int z) (cy 1) (cy 1) f g w4
  rw [e3] at X' step
  have hlt : a < H.size := (Array.getElem?_eq_some_iff.mp hc1).1
  have hheap : ((T.setVm vm').setCell a (vp_cell (cy 1) (n1, .inl (va_cpy f g sp.toNatClampNeg dp.toNatClampNeg n.toNatClampNeg)))).heap = H.setIfInBounds a (vp_cell (cy 1) (n1, .inl (va_cpy f g sp.toNatClampNeg dp.toNatClampNeg n.toNatClampNeg))) := by rw [← hT]; rfl
  have oq : ∀ q : Nat, q ≠ a → (H.setIfInBounds a (vp_cell (cy 1) (n1, .inl (va_cpy f g sp.toNatClampNeg dp.toNatClampNeg n.toNatClampNeg))))[q]? = H[q]? := fun q hq => by simp [Array.getElem?_setIfInBounds, Ne.symm hq]
  obtain ⟨t, a1, b1⟩ := kk _ z h' c0 n0' cb nb k2 (by omega) (by omega) _ _ ls (hH.put hAa (show (H.setIfInBounds a _)[a]? = some _ by simp [Array.getElem?_setIfInBounds, hlt]) (by simp) oq) ⟨by simp; exact hS.1, fun q g1 g2 => by
      rw [oq q (fun e => g2 (by rw [e]; exact hAa))]
      exact hS.2.1 q g1 g2, fun q hq => by
      rcases List.mem_append.mp hq with h | h
      · exact hS.2.2 q h
      · obtain ⟨z, -, hz⟩ := List.mem_map.mp h
        rw [← hz]
        exact hAa⟩ hl _ hheap X'
  exact ⟨t, step t a1, b1⟩
/-- the class object of an array of references -/
def gC (Z : Nat → Nat) (r : Option Nat) : Mo (Option Nat) := fun h => match ar 4 r h with
  | some _ => some (some (Z 2), h, 0, 0)
  | none => none
theorem sm_gC (cx : Cx X cc own nL) {i : Nat} {r : Option Nat} {K : Option Nat → Mo α} (h1 : Cond.methodLink own i ⟨"java/lang/Object", "getClass", "()Ljava/lang/Class;"⟩ ∈ TB) (h2 : Cond.selects "[Ljava/lang/Object;" ⟨"java/lang/Object", "getClass", "()Ljava/lang/Class;"⟩ ⟨"java/lang/Object", "getClass", "()Ljava/lang/Class;"⟩ ∈ TB) (h3 : Cond.instanceMethod ⟨"java/lang/Object", "getClass", "()Ljava/lang/Class;"⟩ ∈ TB) (h4 : Cond.native ⟨"java/lang/Object", "getClass", "()Ljava/lang/Class;"⟩ ∈ TB) (hfr : 1 ≤ (xR X).frames) (hcat : (st.map fun v => v.category).sum ≤ 8) (hlo : 22 ≤ (xR X).locals) (hd : decode cc pc = .ok (.invokevirtual i, 3)) (kk : ∀ b, Sim X nL Fi (pc + 3) lv (va_rf b :: st) (K b)) : Sim X nL Fi pc lv (va_rf r :: st) (mb (gC (xZ X) r) K) := by
  obtain ⟨p, l, e, R, s, m, args, below, meth, c, D, cy, A, Z⟩ := X
  obtain ⟨hx, hb, hml, hown, hts, hK, hA, hlk, hz⟩ := cx
  intro h z h' c0 n0 c1 n1 hk e1 e2 H locs ls hH hS hl
  obtain ⟨b, hh1, ca, na, cb, nb, k1, k2, rfl, rfl⟩ := mb_some hk
  unfold gC at k1
  split at k1
  · rename_i w ew
    obtain ⟨a, u, x⟩ := w
    obtain ⟨rfl, ha, hu⟩ := ar_some ew
    cases k1
    have hP := (hH.2 a _ ha).1
    rw [hs_u cy hu] at hP
    have hP : H[a]? = some (vp_cell (cy 4) x) := hP
    have hr : ∃ cell : Cell, H[a]? = some cell ∧ cell.vm.isStatics = false ∧ s.vm.findClass "[Ljava/lang/Object;" = some cell.cls := by
      have hn : s.vm.findClass "[Ljava/lang/Object;" = some (cy 4) := va_nmO (hK.2 4 _ rfl).2 (by decide)
      obtain ⟨n, y⟩ := x
      refine ⟨_, hP, ?_, ?_⟩
      · rcases y with y | y | y | y | y <;> rfl
      · rw [hn]
        rcases y with y | y | y | y | y <;> rfl
    exact va_getC hx hb (hml.trans hl.1.symm) hown (hts _ h1) (va_Dc.use hz.2.2.2.1.2.1) (hts _ h2) (hts _ h3) (hts _ h4) hz.2.2.2.1.1 hr hfr (Nat.le_trans (Nat.add_le_add_right hcat 14) hlo) hd (kk _ h z h' c0 n0 cb nb k2 (by omega) (by omega) H locs ls hH hS hl)
  · cases k1
theorem sm_ldcM (cx : Cx X cc own nL) {i : Nat} (hw : Cond.classLink own i "[Ljava/lang/Object;" ∈ TB) (hd : decode cc pc = .ok (.ldc i, 2)) (kk : Sim X nL Fi (pc + 2) lv (va_rf (some (xZ X 2)) :: st) k) : Sim X nL Fi pc lv st k := by
  obtain ⟨p, l, e, R, s, m, args, below, meth, c, D, cy, A, Z⟩ := X
  obtain ⟨hx, hb, hml, hown, hts, hK, hA, hlk, hz⟩ := cx
  intro h z h' c0 n0 c1 n1 hk e1 e2 H locs ls hH hS hl
  exact va_ldcM hx hb hown (hts _ hw) hz.2.2.2.1.1 hd (kk h z h' c0 n0 c1 n1 hk e1 e2 H locs ls hH hS hl)
end LP
