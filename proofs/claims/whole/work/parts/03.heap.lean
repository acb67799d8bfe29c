/-! ===== rows that touch the heap ===== -/
theorem one_P {D : va_G} {cl : List vw_C} {q : Nat × va_E} {H : Heap} (h : va_at D cl q H) : va_P D cl [q] H := by
  intro k x hk
  cases k with
  | zero => cases hk; exact h
  | succ k => simp at hk
theorem ob_some {ci : Nat} {r : Option Nat} {h : Hs} {a : Nat} {fs : List Value} (e : ob ci r h = some (a, fs)) : r = some a ∧ h.1 a = some (.inl (ci, fs)) := by
  unfold ob at e
  split at e
  · cases e
  · rename_i a'
    split at e
    · rename_i c' fs' e'
      split at e
      · rename_i hc
        subst hc
        cases e
        exact ⟨rfl, e'⟩
      · cases e
    · cases e
theorem gI_some {ci k : Nat} {r : Option Nat} {h h1 : Hs} {v : Int32} {c n : Nat} (e : gI ci k r h = some (v, h1, c, n)) : ∃ a fs, r = some a ∧ h.1 a = some (.inl (ci, fs)) ∧ fs[k]? = some (.int v) ∧ h1 = h ∧ c = 0 ∧ n = 0 := by
  unfold gI at e
  split at e
  · cases e
  · rename_i a fs e0
    obtain ⟨q1, q2⟩ := ob_some e0
    split at e
    · rename_i x ex
      cases e
      exact ⟨a, fs, q1, q2, ex, rfl, rfl, rfl⟩
    · cases e
theorem gL_some {ci k : Nat} {r : Option Nat} {h h1 : Hs} {v : Int64} {c n : Nat} (e : gL ci k r h = some (v, h1, c, n)) : ∃ a fs, r = some a ∧ h.1 a = some (.inl (ci, fs)) ∧ fs[k]? = some (.long v) ∧ h1 = h ∧ c = 0 ∧ n = 0 := by
  unfold gL at e
  split at e
  · cases e
  · rename_i a fs e0
    obtain ⟨q1, q2⟩ := ob_some e0
    split at e
    · rename_i x ex
      cases e
      exact ⟨a, fs, q1, q2, ex, rfl, rfl, rfl⟩
    · cases e
theorem gR_some {ci k : Nat} {r : Option Nat} {h h1 : Hs} {v : Option Nat} {c n : Nat} (e : gR ci k r h = some (v, h1, c, n)) : ∃ a fs, r = some a ∧ h.1 a = some (.inl (ci, fs)) ∧ fs[k]? = some (va_rf v) ∧ h1 = h ∧ c = 0 ∧ n = 0 := by
  unfold gR at e
  split at e
  · cases e
  · rename_i a fs e0
    obtain ⟨q1, q2⟩ := ob_some e0
    split at e
    · rename_i x ex
      cases e
      exact ⟨a, fs, q1, q2, ex, rfl, rfl, rfl⟩
    · rename_i ex
      cases e
      exact ⟨a, fs, q1, q2, ex, rfl, rfl, rfl⟩
    · cases e
theorem pV_some {ci k : Nat} {r : Option Nat} {x : Value} {h h1 : Hs} {v : Unit} {c n : Nat} (e : pV ci k r x h = some (v, h1, c, n)) : ∃ a fs, r = some a ∧ h.1 a = some (.inl (ci, fs)) ∧ k < fs.length ∧ ci ≠ 0 ∧ h1 = (va_up h.1 a (some (.inl (ci, fs.set k x))), h.2) ∧ c = 0 ∧ n = 0 := by
  unfold pV at e
  split at e
  · cases e
  · rename_i a fs e0
    obtain ⟨q1, q2⟩ := ob_some e0
    split at e
    · rename_i hc
      cases e
      exact ⟨a, fs, q1, q2, hc.1, hc.2, rfl, rfl, rfl⟩
    · cases e
theorem mo_some {α : Type} {ci : Nat} {r : Option Nat} {f : Mo α} {h : Hs} {y : α × Hs × Nat × Nat} (e : mo ci r f h = some y) : ∃ a fs, r = some a ∧ h.1 a = some (.inl (ci, fs)) ∧ f h = some y := by
  unfold mo at e
  split at e
  · cases e
  · rename_i z e0
    obtain ⟨a, fs⟩ := z
    obtain ⟨q1, q2⟩ := ob_some e0
    exact ⟨a, fs, q1, q2, e⟩
theorem ar_some {t : Nat} {r : Option Nat} {h : Hs} {a u : Nat} {x : vp_A} (e : ar t r h = some (a, u, x)) : r = some a ∧ h.1 a = some (.inr (u, x)) ∧ u % 10 = t := by
  unfold ar at e
  split at e
  · cases e
  · split at e
    · rename_i u' x' e'
      split at e
      · rename_i hc
        cases e
        exact ⟨rfl, e', hc⟩
      · cases e
    · cases e
theorem aI_some {t : Nat} {r : Option Nat} {i : Int32} {h h1 : Hs} {v : Int32} {c n : Nat} (e : aI t r i h = some (v, h1, c, n)) : ∃ a u N f, r = some a ∧ h.1 a = some (.inr (u, (N, .inl f))) ∧ u % 10 = t ∧ vp_in i N ∧ v = f i.toNatClampNeg ∧ h1 = h ∧ c = 0 ∧ n = 0 := by
  unfold aI at e
  split at e
  · rename_i a u N f e0
    obtain ⟨q1, q2, q3⟩ := ar_some e0
    split at e
    · cases e
    · rename_i hc
      cases e
      exact ⟨a, u, N, f, q1, q2, q3, hc, rfl, rfl, rfl, rfl⟩
  · cases e
theorem aL_some {r : Option Nat} {i : Int32} {h h1 : Hs} {v : Int64} {c n : Nat} (e : aL r i h = some (v, h1, c, n)) : ∃ a u N f, r = some a ∧ h.1 a = some (.inr (u, (N, .inr (.inl f)))) ∧ u % 10 = 2 ∧ vp_in i N ∧ v = f i.toNatClampNeg ∧ h1 = h ∧ c = 0 ∧ n = 0 := by
  unfold aL at e
  split at e
  · rename_i a u N f e0
    obtain ⟨q1, q2, q3⟩ := ar_some e0
    split at e
    · cases e
    · rename_i hc
      cases e
      exact ⟨a, u, N, f, q1, q2, q3, hc, rfl, rfl, rfl, rfl⟩
  · cases e
theorem aR_some {r : Option Nat} {i : Int32} {h h1 : Hs} {v : Option Nat} {c n : Nat} (e : aR r i h = some (v, h1, c, n)) : ∃ a u N f, r = some a ∧ h.1 a = some (.inr (u, (N, .inr (.inr (.inr (.inr f)))))) ∧ u % 10 = 4 ∧ vp_in i N ∧ v = f i.toNatClampNeg ∧ h1 = h ∧ c = 0 ∧ n = 0 := by
  unfold aR at e
  split at e
  · rename_i a u N f e0
    obtain ⟨q1, q2, q3⟩ := ar_some e0
    split at e
    · cases e
    · rename_i hc
      cases e
      exact ⟨a, u, N, f, q1, q2, q3, hc, rfl, rfl, rfl, rfl⟩
  · cases e
theorem aN_some {t : Nat} {r : Option Nat} {h h1 : Hs} {v : Int32} {c n : Nat} (e : aN t r h = some (v, h1, c, n)) : ∃ a u x, r = some a ∧ h.1 a = some (.inr (u, x)) ∧ u % 10 = t ∧ v = Int32.ofNat x.1 ∧ h1 = h ∧ c = 0 ∧ n = 0 := by
  unfold aN at e
  split at e
  · rename_i a u N f e0
    obtain ⟨q1, q2, q3⟩ := ar_some e0
    cases e
    exact ⟨a, u, (N, f), q1, q2, q3, rfl, rfl, rfl, rfl⟩
  · cases e
theorem sI_some {t : Nat} {r : Option Nat} {i x : Int32} {h h1 : Hs} {v : Unit} {c n : Nat} (e : sI t r i x h = some (v, h1, c, n)) : ∃ a N f, r = some a ∧ h.1 a = some (.inr (t, (N, .inl f))) ∧ t % 10 = t ∧ vp_in i N ∧ h1 = (va_up h.1 a (some (.inr (t, (N, .inl (upd f i.toNatClampNeg (kp t x)))))), h.2) ∧ c = 0 ∧ n = 0 := by
  unfold sI at e
  split at e
  · rename_i a u N f e0
    obtain ⟨q1, q2, q3⟩ := ar_some e0
    split at e
    · cases e
    · rename_i hc
      have hu : u = t := Decidable.byContradiction fun z => hc (Or.inr (Or.inr z))
      subst hu
      cases e
      exact ⟨a, N, f, q1, q2, q3, fun z => hc (z.elim Or.inl (fun z => Or.inr (Or.inl z))), rfl, rfl, rfl⟩
  · cases e
theorem sL_some {r : Option Nat} {i : Int32} {x : Int64} {h h1 : Hs} {v : Unit} {c n : Nat} (e : sL r i x h = some (v, h1, c, n)) : ∃ a N f, r = some a ∧ h.1 a = some (.inr (2, (N, .inr (.inl f)))) ∧ vp_in i N ∧ h1 = (va_up h.1 a (some (.inr (2, (N, .inr (.inl (vp_updL f i.toNatClampNeg x)))))), h.2) ∧ c = 0 ∧ n = 0 := by
  unfold sL at e
  split at e
  · rename_i a u N f e0
    obtain ⟨q1, q2, q3⟩ := ar_some e0
    split at e
    · cases e
    · rename_i hc
      have hu : u = 2 := Decidable.byContradiction fun z => hc (Or.inr (Or.inr z))
      subst hu
      cases e
      exact ⟨a, N, f, q1, q2, fun z => hc (z.elim Or.inl (fun z => Or.inr (Or.inl z))), rfl, rfl, rfl⟩
  · cases e
theorem sR_some {r : Option Nat} {i : Int32} {x : Option Nat} {h h1 : Hs} {v : Unit} {c n : Nat} (e : sR r i x h = some (v, h1, c, n)) : ∃ a N f, r = some a ∧ h.1 a = some (.inr (4, (N, .inr (.inr (.inr (.inr f)))))) ∧ vp_in i N ∧ (∀ b, x = some b → ∃ o, h.1 b = some (.inl o)) ∧ h1 = (va_up h.1 a (some (.inr (4, (N, .inr (.inr (.inr (.inr (va_up f i.toNatClampNeg x)))))))), h.2) ∧ c = 0 ∧ n = 0 := by
  unfold sR at e
  split at e
  · rename_i a u N f e0
    obtain ⟨q1, q2, q3⟩ := ar_some e0
    split at e
    · cases e
    · rename_i hc
      have hu : u = 4 := Decidable.byContradiction fun z => hc (Or.inr (Or.inr z))
      subst hu
      have hv : vp_in i N := fun z => hc (z.elim Or.inl (fun z => Or.inr (Or.inl z)))
      split at e
      · cases e
        exact ⟨a, N, f, q1, q2, hv, fun b hb => (by cases hb), rfl, rfl, rfl⟩
      · split at e
        · rename_i b o e1
          cases e
          exact ⟨a, N, f, q1, q2, hv, fun b' hb => (by cases hb; exact ⟨_, e1⟩), rfl, rfl, rfl⟩
        · cases e
  · cases e
/-- all that is fixed of a field's use: by which class, entry, of which class and place; its type; whether it is final -/
def FldOk (own : String) (i ci k : Nat) (ty : FieldType) (fin dc : Bool) : Prop := ∃ (C : String) (T : u_T) (N : Nat) (ref : String) (ty0 : Nat → FieldType), vwCl[ci]? = some (C, T, N) ∧ k < N ∧ (∀ w ∈ u_ws C T N, w ∈ TB) ∧ (∀ k, k < N → parseFieldDescriptor (T k).2.2.1 = some (ty0 k)) ∧ (∀ a, a < N → ∀ b, b < N → a ≠ b → (T a).2.1 ≠ (T b).2.1) ∧ Cond.fieldLink own i ref (T k).2.1 (T k).2.2.1 ∈ TB ∧ ((T k).1 = ref ∨ Cond.sameField ref (T k).1 (T k).2.1 (T k).2.2.1 ∈ TB) ∧ parseFieldDescriptor (T k).2.2.1 = some ty ∧ (T k).2.2.2 = fin ∧ (dc = true → (T k).1 = own)
section LH
variable {α : Type} {X : Cg} {nL : Nat} {Fi : α → Hs → State → Prop} {pc : Nat} {lv : List (Nat × Value)} {st : List Value} {k : Mo α} {cc : ByteArray} {own : String}
theorem hs_same {own : String} {i ci k : Nat} {ty : FieldType} {fin : Bool} {args : Array Value} {s : State} {ref : String} {T : u_T} (hts : ∀ w ∈ TB, w.before args s = true) (h : (T k).1 = ref ∨ Cond.sameField ref (T k).1 (T k).2.1 (T k).2.2.1 ∈ TB) : ∀ x, s.fieldFound? (T k).1 (T k).2.1 (T k).2.2.1 = some x → s.fieldFound? ref (T k).2.1 (T k).2.2.1 = some x := by
  intro x hx
  rcases h with h | h
  · rw [← h]; exact hx
  · exact u_same (hts _ h) x hx
/-- getfield, whatever the value -/
theorem sm_getV (cx : Cx X cc own nL) {i ci j : Nat} {ty : FieldType} {fin dc : Bool} {β : Type} {g : Mo β} {v : β → Value} {r : Option Nat} {K : β → Mo α} (hF : FldOk own i ci j ty fin dc) (hg : ∀ (h h1 : Hs) (b : β) (c n : Nat), g h = some (b, h1, c, n) → ∃ a fs, r = some a ∧ h.1 a = some (.inl (ci, fs)) ∧ fs[j]? = some (v b) ∧ h1 = h ∧ c = 0 ∧ n = 0) (hd : decode cc pc = .ok (.getfield i, 3)) (kk : ∀ b, Sim X nL Fi (pc + 3) lv (v b :: st) (K b)) : Sim X nL Fi pc lv (va_rf r :: st) (mb g K) := by
  obtain ⟨p, l, e, R, s, m, args, below, meth, c, D, cy, A, Z⟩ := X
  obtain ⟨hx, hb, hml, hown, hts, hK, hA, hlk, hz⟩ := cx
  intro h z h' c0 n0 c1 n1 hk e1 e2 H locs ls hH hS hl
  obtain ⟨b, h1, ca, na, cb, nb, k1, k2, rfl, rfl⟩ := mb_some hk
  obtain ⟨a, fs, rfl, ha, hv, rfl, rfl, rfl⟩ := hg _ _ _ _ _ k1
  obtain ⟨C, T, N, ref, ty0, f1, f2, f3, f4, f5, f6, f7, f8, f9, f10⟩ := hF
  refine va_get (C := C) (T := T) (N := N) (ref := ref) hx hb hts f3 hown hK (one_P (hH.2 a _ ha).1) 0 rfl f1 j f2 (hts _ f6) (hs_same (own := own) (i := i) (ci := ci) (ty := ty) (fin := fin) hts f7) hv hd ?_
  exact kk b h1 z h' c0 n0 cb nb k2 (by omega) (by omega) H locs ls hH hS hl
theorem sm_getI (cx : Cx X cc own nL) {i ci j : Nat} {ty : FieldType} {fin dc : Bool} {r : Option Nat} {K : Int32 → Mo α} (hF : FldOk own i ci j ty fin dc) (hd : decode cc pc = .ok (.getfield i, 3)) (kk : ∀ b, Sim X nL Fi (pc + 3) lv (.int b :: st) (K b)) : Sim X nL Fi pc lv (va_rf r :: st) (mb (gI ci j r) K) := sm_getV (v := fun b => .int b) cx hF (fun _ _ _ _ _ => gI_some) hd kk
theorem sm_getL (cx : Cx X cc own nL) {i ci j : Nat} {ty : FieldType} {fin dc : Bool} {r : Option Nat} {K : Int64 → Mo α} (hF : FldOk own i ci j ty fin dc) (hd : decode cc pc = .ok (.getfield i, 3)) (kk : ∀ b, Sim X nL Fi (pc + 3) lv (.long b :: st) (K b)) : Sim X nL Fi pc lv (va_rf r :: st) (mb (gL ci j r) K) := sm_getV (v := fun b => .long b) cx hF (fun _ _ _ _ _ => gL_some) hd kk
theorem sm_getR (cx : Cx X cc own nL) {i ci j : Nat} {ty : FieldType} {fin dc : Bool} {r : Option Nat} {K : Option Nat → Mo α} (hF : FldOk own i ci j ty fin dc) (hd : decode cc pc = .ok (.getfield i, 3)) (kk : ∀ b, Sim X nL Fi (pc + 3) lv (va_rf b :: st) (K b)) : Sim X nL Fi pc lv (va_rf r :: st) (mb (gR ci j r) K) := sm_getV (v := fun b => va_rf b) cx hF (fun _ _ _ _ _ => gR_some) hd kk
/-- putfield -/
theorem sm_putV (cx : Cx X cc own nL) {i ci j : Nat} {ty : FieldType} {dc : Bool} {v : Value} {r : Option Nat} {K : Mo α} (hF : FldOk own i ci j ty false dc) (hn : narrow ty v = v) (hfit : fits ty v = true) (hd : decode cc pc = .ok (.putfield i, 3)) (kk : Sim X nL Fi (pc + 3) lv st K) : Sim X nL Fi pc lv (v :: va_rf r :: st) (mb (pV ci j r v) (fun _ => K)) := by
  obtain ⟨p, l, e, R, s, m, args, below, meth, c, D, cy, A, Z⟩ := X
  obtain ⟨hx, hb, hml, hown, hts, hK, hA, hlk, hz⟩ := cx
  intro h z h' c0 n0 c1 n1 hk e1 e2 H locs ls hH hS hl
  obtain ⟨b, h1, ca, na, cb, nb, k1, k2, rfl, rfl⟩ := mb_some hk
  obtain ⟨a, fs, rfl, ha, hlen, hci, rfl, rfl, rfl⟩ := pV_some k1
  obtain ⟨C, T, N, ref, ty0, f1, f2, f3, f4, f5, f6, f7, f8, f9, f10⟩ := hF
  have hap := va_apart (own := own) hts f3 ty0 f4 f5 hK f1
  obtain ⟨⟨r', h1', cell, q1, q2, q3, q4⟩, hwr⟩ := hH.2 a _ ha
  have hr : r' = (C, T, N) := Option.some.inj (h1'.symm.trans f1)
  subst hr
  have hAa : A a := hwr (decide_eq_true hci)
  obtain ⟨hSl, hfc, kC, hkC, hkind⟩ := hK.1 ci _ f1
  obtain ⟨cf, kf, fi, f, hi, hsl⟩ := hSl j f2
  have hlay := hts _ (f3 _ (u_in_lay f2))
  unfold u_lay at hlay
  rw [if_neg (by rw [f9]; decide)] at hlay
  have hst := (u_facts hfc hkC (u_lays hts f3 f2) hi).1
  have h6 := u_store hfc hkC hkind hlay hi f8 hn hfit
  refine W.putK hx hb (f := f) ⟨hown, hts _ f6, ⟨_, _, _, hs_same (own := own) (i := i) (ci := ci) (ty := ty) (fin := false) hts f7 _ hi⟩, hst⟩ (by rw [q2]; exact h6) q1 q3 (by rw [hsl]; exact k2_hasslot (q4 j f2)) rfl rfl hd fun H' e3 e4 e5 => ?_
  rw [hsl] at e3 ⊢
  exact kk _ z h' c0 n0 cb nb k2 (by omega) (by omega) H' _ ls (hH.put hAa ⟨_, f1, t_OB.to (V := updV (vp_V fs) j v) ⟨_, e3, q2, q3, t_set q4 hap f2 v⟩ (fun q _ => vp_updV_set hlen v q)⟩ e4 e5) (hS.put e4 e5 hAa) hl
theorem sm_putF (cx : Cx X cc own nL) (hin : X.2.2.2.2.2.2.2.2.1.name = "<init>") {i ci j : Nat} {ty : FieldType} {v : Value} {r : Option Nat} {K : Mo α} (hF : FldOk own i ci j ty true true) (hn : narrow ty v = v) (hfit : fits ty v = true) (hd : decode cc pc = .ok (.putfield i, 3)) (kk : Sim X nL Fi (pc + 3) lv st K) : Sim X nL Fi pc lv (v :: va_rf r :: st) (mb (pV ci j r v) (fun _ => K)) := by
  obtain ⟨p, l, e, R, s, m, args, below, meth, c, D, cy, A, Z⟩ := X
  obtain ⟨hx, hb, hml, hown, hts, hK, hA, hlk, hz⟩ := cx
  intro h z h' c0 n0 c1 n1 hk e1 e2 H locs ls hH hS hl
  obtain ⟨b, h1, ca, na, cb, nb, k1, k2, rfl, rfl⟩ := mb_some hk
  obtain ⟨a, fs, rfl, ha, hlen, hci, rfl, rfl, rfl⟩ := pV_some k1
  obtain ⟨C, T, N, ref, ty0, f1, f2, f3, f4, f5, f6, f7, f8, f9, f10⟩ := hF
  have hap := va_apart (own := own) hts f3 ty0 f4 f5 hK f1
  obtain ⟨⟨r', h1', cell, q1, q2, q3, q4⟩, hwr⟩ := hH.2 a _ ha
  have hr : r' = (C, T, N) := Option.some.inj (h1'.symm.trans f1)
  subst hr
  have hAa : A a := hwr (decide_eq_true hci)
  obtain ⟨hSl, hfc, kC, hkC, hkind⟩ := hK.1 ci _ f1
  obtain ⟨cf, kf, fi, f, hi, hsl⟩ := hSl j f2
  have hlay := hts _ (f3 _ (u_in_lay f2))
  unfold u_lay at hlay
  rw [if_pos f9] at hlay
  have hst := (u_facts hfc hkC (u_lays hts f3 f2) hi).1
  have hcf : m.cls = cf := by
    obtain ⟨_, _, c', _, _, _, -, -, hf', -, -, -, hown2, -⟩ := Cond.laysFinal_spec hlay
    have e1 : c' = cf := by have := hi.symm.trans hf'; simp at this; exact this.1.symm
    rw [f10 rfl] at hown2
    rw [← e1]; exact Option.some.inj (hown.symm.trans hown2)
  have h6 := u_fits hfc hkC hkind (Or.inr hlay) hi f8 hn hfit
  refine W.putFinK hx hb hown (hts _ f6) (hs_same (own := own) (i := i) (ci := ci) (ty := ty) (fin := true) hts f7 _ hi) hst hcf hin (by rw [q2]; exact h6) q1 q3 (by rw [hsl]; exact k2_hasslot (q4 j f2)) rfl rfl hd fun H' e3 e4 e5 => ?_
  rw [hsl] at e3 ⊢
  exact kk _ z h' c0 n0 cb nb k2 (by omega) (by omega) H' _ ls (hH.put hAa ⟨_, f1, t_OB.to (V := updV (vp_V fs) j v) ⟨_, e3, q2, q3, t_set q4 hap f2 v⟩ (fun q _ => vp_updV_set hlen v q)⟩ e4 e5) (hS.put e4 e5 hAa) hl
end LH
