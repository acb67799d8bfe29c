/-! ===== the law's helpers: a call within a try, its throws caught by class ===== -/
def QhC (D : va_G) (cy : Nat → ClassId) (A : Nat → Prop) (v : Option Value) (h' : Hs) : Array Value → State → Outcome → State → Prop := fun _ st o t => o = .returned v ∧ HX D cy A h' t.heap ∧ va_F A st t
def FiH {β : Type} (X : Cg) (toV : β → Option Value) : β → Hs → State → Prop := match X with
  | (_, _, _, R, s, _, args, below, _, _, D, cy, A, _) => fun r h' => vx_MQ below (QhC D cy A (toV r) h') (fun _ _ _ => False) args s R.cells R.slots A
/-- the contract of a helper: it returns; how many cells there are then isn't said -/
def CtH {β : Type} (y : MethodName) (cc : ByteArray) (maxL : Nat) (ret : Option FieldType) (hh : List (Nat × Nat × Nat × Nat)) (fr lo : Nat) (Z : Nat → Nat) (av : List Value) (toV : β → Option Value) (f : Mo β) : Prop :=
  ∀ (l : Launch), l.stackTraces = false → ∀ (D : va_G) (cy : Nat → ClassId) (A : Nat → Prop) (h : Hs) (r : β) (h' : Hs) (c n : Nat), f h = some (r, h', c, n) → Met l y (.codeWith y cc maxL ret hh :: TB) { frames := fr, cells := c, slots := n, locals := lo } (va_Pc av (PreU D cy A Z h)) (QhC D cy A (toV r) h') c n A
theorem met_of_vx {l : Launch} {y : MethodName} {ws : List Cond} {rm : Room} {Pc : Array Value → State → Prop} {Qc : Array Value → State → Outcome → State → Prop} {mc ms : Nat} {free : Addr → Prop} (h : vx_Met l y ws rm Pc Qc (fun _ _ _ => False) mc ms free) : Met l y ws rm Pc Qc mc ms free := by
  intro p e h1 h2 h3 s m args below h4 h5 h6 h7
  obtain ⟨n, o, a1, a2, a3, a4⟩ := h p e h1 h2 h3 s m args below h4 h5 h6 h7
  refine ⟨n, o, a1, a2, a3, ?_⟩
  rcases a4 with a4 | ⟨q, -, E, ce, L, hf, -⟩
  · exact a4
  · exact absurd hf id
theorem cth_of {β : Type} {y : MethodName} {cc : ByteArray} {maxL : Nat} {ret : Option FieldType} {hh : List (Nat × Nat × Nat × Nat)} {fr lo : Nat} {Z : Nat → Nat} {av : List Value} {lv0 : List (Nat × Value)} {toV : β → Option Value} {f : Mo β} (hy : plainName y.cls = true) (hlen : (lg_sl av).length ≤ maxL) (hlv : lv_args 0 av = lv0)
    (hs : ∀ X : Cg, Cx X cc y.cls maxL → xZ X = Z → (xR X).frames = fr → (xR X).locals = lo → (xM X).sig.returnType = ret → (xL X).stackTraces = false ∧ (xC X).exceptionTable.toList = tableOf hh → Sim X maxL (FiH X toV) 0 lv0 [] f) : CtH y cc maxL ret hh fr lo Z av toV f := by
  intro l htr D cy A h r h' c n hf
  refine met_of_vx (vx_ofWH (cc := cc) (maxL := maxL) (ret := ret) (hh := hh) hy rfl ?_)
  intro p e s m args below meth c' s₁ B hml hv
  obtain ⟨rfl, hH, hK, hA, hz⟩ := hv
  have hts0 := atoms_spec (ws := Cond.codeWith y cc maxL ret hh :: TB) B.pre
  have hts : ∀ w ∈ TB, w.before av.toArray s = true := fun w hw => hts0 w (List.mem_cons_of_mem _ hw)
  have hown : s.vm.findClass y.cls = some m.cls := findClass_of_methodNamed B.named
  have hl := lv_entry av (n := maxL) hlen
  rw [hlv] at hl
  rw [lg_entry_eq]
  exact hs (p, l, e, { frames := fr, cells := c, slots := n, locals := lo }, s, m, av.toArray, below, meth, c', D, cy, A, Z) ⟨B.exec, B.bytes, hml, hown, hts, hK, hA, B.notSynchronized, hz⟩ rfl rfl rfl B.returns ⟨htr, vx_table (x := y) B (hts0 _ List.mem_cons_self)⟩ h r h' 0 0 c n hf (Nat.zero_add c) (Nat.zero_add n) s.heap [] _ hH va_S.rf hl
/-- which exception goes to which handler, and what it answers there -/
def hx (hs : List (String × Nat × Int32)) (E : String) : Mo Int32 := match hs.find? (fun e : String × Nat × Int32 => decide (e.1 = E)) with
  | some e => mp e.2.2
  | none => mf
def mh {β : Type} (hs : List (String × Nat × Int32)) (x : Mo (β ⊕ String)) (K : β → Mo Int32) : Mo Int32 := mb x (fun r => match r with
  | .inl b => K b
  | .inr E => hx hs E)
/-- the rows of the table take it -/
def Takes9 (own : String) (pc : Nat) (tb : List ExceptionTableEntry) (e : String × Nat × Int32) : Prop := ∃ (pre : List ExceptionTableEntry) (x : ExceptionTableEntry) (suf : List ExceptionTableEntry), tb = pre ++ x :: suf ∧ (∀ z ∈ pre, z.catchType ≠ 0 ∧ ∃ nm : String, Cond.classLink own z.catchType nm ∈ TB ∧ ((e.1 = eS ∧ nm = eI) ∨ (e.1 = eA ∧ nm = eI) ∨ (e.1 = eS ∧ nm = eA))) ∧ covers x pc = true ∧ x.catchType ≠ 0 ∧ x.handlerPc = e.2.1 ∧ Cond.classLink own x.catchType e.1 ∈ TB ∧ Cond.castable e.1 e.1 ∈ nwL
section LHp
variable {X : Cg} {nL : Nat} {pc : Nat} {lv : List (Nat × Value)} {st stk : List Value} {cc : ByteArray} {own : String}
theorem sm_tryV {β : Type} {hh : List (Nat × Nat × Nat × Nat)} (cx : Cx X cc own nL) (hth : (xL X).stackTraces = false ∧ (xC X).exceptionTable.toList = tableOf hh) {i ci : Nat} {C : String} {T : u_T} {N : Nat} {y : MethodName} {bytes : ByteArray} {maxL : Nat} {ret : Option FieldType} {fr lo : Nat} (As : List Value) {r : Option Nat} {toV : β → Option Value} {f : Mo (β ⊕ String)} {K : β → Mo Int32} {hs : List (String × Nat × Int32)} (hc : vwCl[ci]? = some (C, T, N)) (hW : CalV own i C y bytes maxL ret As.length)
    (hM : ∀ a, r = some a → CtX y bytes maxL ret fr lo (xZ X) (.ref a :: As) toV f) (hfr : fr + 1 ≤ (xR X).frames) (hlo : 8 + (maxL + 11) + lo ≤ (xR X).locals) (hst : stk = As.reverse ++ va_rf r :: st) (hcat : (st.map fun v => v.category).sum ≤ 8) (hd : decode cc pc = .ok (.invokevirtual i, 3)) (htk : ∀ e ∈ hs, Takes9 own pc (tableOf hh) e)
    (kx : ∀ e ∈ hs, ∀ q : Nat, Sim X nL (FiH X vI) e.2.1 lv [va_rf (some q)] (mp e.2.2)) (kk : ∀ b, Sim X nL (FiH X vI) (pc + 3) lv ((toV b).toList ++ st) (K b)) : Sim X nL (FiH X vI) pc lv stk (mh hs (mo ci r f) K) := by
  obtain ⟨p, l, e, R, s, m, args, below, meth, c, D, cy, A, Z⟩ := X
  obtain ⟨hx0, hb, hml, hown, hts, hK, hA, hlk, hz⟩ := cx
  intro h z h' c0 n0 c1 n1 hk e1 e2 H locs ls hH hS hl
  obtain ⟨b, h1, ca, na, cb, nb, k1, k2, rfl, rfl⟩ := mb_some hk
  obtain ⟨a, fs, rfl, ha, kf⟩ := mo_some k1
  have M := hM a rfl l hth.1 D cy A h b h1 ca na kf
  have hP := one_P (hH.2 a _ ha).1
  refine cg_backX (mc := ca) (ms := na) (vx_runV (As := As) (rest := st) (C := C) ⟨hx0, hb, hml, hown, hts⟩ M (cwV As.length hts hW.1 rfl rfl rfl hW.2 ⟨hfr, hlo⟩) ⟨fb_pre, va_recv hK hP (q := (C, T, N)) (ci := ci) (q0 := 0) hc rfl, fun U hU hWm => ⟨rfl, pre_at hK hA hz hS hH hU hWm⟩⟩ rfl rfl hl.1 hst (lv_room hcat) hd ⟨by omega, by omega⟩) hS (fun v hv H1 locs1 hH1 hS1 => ?_) (fun E hE q9 ce H1 locs1 hH1 hS1 g1 g2 g3 => ?_)
  · subst hv
    exact kk v h1 z h' (c0 + ca) (n0 + na) cb nb k2 (by omega) (by omega) H1 locs1 ls hH1 hS1 hl
  · subst hE
    have k3 : (match hs.find? (fun e : String × Nat × Int32 => decide (e.1 = E)) with
      | some e => mp e.2.2
      | none => mf) h1 = some (z, h', cb, nb) := k2
    cases he9 : hs.find? (fun e : String × Nat × Int32 => decide (e.1 = E)) with
    | none =>
      rw [he9] at k3
      cases k3
    | some e9 =>
      rw [he9] at k3
      cases k3
      have hmem := List.mem_of_find?_eq_some he9
      have heq : e9.1 = E := of_decide_eq_true (List.find?_some (p := fun e : String × Nat × Int32 => decide (e.1 = E)) he9)
      subst heq
      obtain ⟨sz, hH1⟩ := hH1
      obtain ⟨pre, x, suf, t1, t2, t3, t4, t5, t6, t7⟩ := htk e9 hmem
      have key := kx e9 hmem q9 (h'.1, sz) e9.2.2 (h'.1, sz) (c0 + ca) (n0 + na) 0 0 rfl (by omega) (by omega) H1 locs1 ls hH1 hS1 hl
      rw [← t5] at key
      refine vx_catch (E := e9.1) (name := e9.1) hown pre x suf (hth.2.trans t1) (fun z hzm => ?_) t3 t4 (hts _ t6) (va_Nw.use rfl (hz.1 _ t7)) g1 g2 g3 key
      obtain ⟨u1, nm, u2, u3⟩ := t2 z hzm
      refine Or.inr ⟨u1, nm, hts _ u2, ?_⟩
      obtain ⟨-, -, -, -, -, -, -, -, n1, n2, n3⟩ := hz
      rcases u3 with ⟨w1, w2⟩ | ⟨w1, w2⟩ | ⟨w1, w2⟩
      · rw [w1, w2]; exact n1
      · rw [w1, w2]; exact n2
      · rw [w1, w2]; exact n3
theorem sh_iret (cx : Cx X cc own nL) {v : Int32} (hr : (xM X).sig.returnType = some .int) (hd : decode cc pc = .ok (.ireturn, 1)) : Sim X nL (FiH X vI) pc lv [.int v] (mp v) := by
  obtain ⟨p, l, e, R, s, m, args, below, meth, c, D, cy, A, Z⟩ := X
  obtain ⟨hx0, hb, hml, hown, hts, hK, hA, hlk, hz⟩ := cx
  intro h z h' c0 n0 c1 n1 hk e1 e2 H locs ls hH hS hl
  cases hk
  rw [Nat.add_zero] at e1 e2
  subst e1; subst e2
  exact vx_ret (W.iret hx0 hb hr (fun t ht hW => ⟨rfl, by rw [ht]; exact ⟨h.2, hH⟩, hS.F ht⟩) hS.2.2 hd)
end LHp
