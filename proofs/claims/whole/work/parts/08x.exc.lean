/-! ===== methods that may throw ===== -/
abbrev xC (X : Cg) : Code := X.2.2.2.2.2.2.2.2.2.1
abbrev xL (X : Cg) : Launch := X.2.1
/-- the world, however many cells there are -/
def HX (D : va_G) (cy : Nat → ClassId) (A : Nat → Prop) (h : Hs) (H : Heap) : Prop := ∃ sz, HW D cy A (h.1, sz) H
def QxC {β : Type} (D : va_G) (cy : Nat → ClassId) (A : Nat → Prop) (toV : β → Option Value) (r : β ⊕ String) (h' : Hs) : Array Value → State → Outcome → State → Prop := fun _ st o t => match r with
  | .inl v => o = .returned (toV v) ∧ HW D cy A h' t.heap ∧ va_F A st t
  | .inr _ => False
def XxC {β : Type} (D : va_G) (cy : Nat → ClassId) (A : Nat → Prop) (r : β ⊕ String) (h' : Hs) : String → State → State → Prop := fun E st t => match r with
  | .inl _ => False
  | .inr E' => E = E' ∧ HX D cy A h' t.heap ∧ va_F A st t
/-- the contract of a method that returns or throws -/
def CtX {β : Type} (y : MethodName) (cc : ByteArray) (maxL : Nat) (ret : Option FieldType) (fr lo : Nat) (Z : Nat → Nat) (av : List Value) (toV : β → Option Value) (f : Mo (β ⊕ String)) : Prop :=
  ∀ (l : Launch), l.stackTraces = false → ∀ (D : va_G) (cy : Nat → ClassId) (A : Nat → Prop) (h : Hs) (r : β ⊕ String) (h' : Hs) (c n : Nat), f h = some (r, h', c, n) → vx_Met l y (.code y cc maxL ret :: TB) { frames := fr, cells := c, slots := n, locals := lo } (va_Pc av (PreU D cy A Z h)) (QxC D cy A toV r h') (XxC D cy A r h') c n A
def FiX {β : Type} (X : Cg) (toV : β → Option Value) : (β ⊕ String) → Hs → State → Prop := match X with
  | (_, _, _, R, s, _, args, below, _, _, D, cy, A, _) => fun r h' => vx_MQ below (QxC D cy A toV r h') (XxC D cy A r h') args s R.cells R.slots A
theorem ctx_of {β : Type} {y : MethodName} {cc : ByteArray} {maxL : Nat} {ret : Option FieldType} {fr lo : Nat} {Z : Nat → Nat} {av : List Value} {lv0 : List (Nat × Value)} {toV : β → Option Value} {f : Mo (β ⊕ String)} (hy : plainName y.cls = true) (hlen : (lg_sl av).length ≤ maxL) (hlv : lv_args 0 av = lv0)
    (hs : ∀ X : Cg, Cx X cc y.cls maxL → xZ X = Z → (xR X).frames = fr → (xR X).locals = lo → (xM X).sig.returnType = ret → (xL X).stackTraces = false ∧ (∀ x ∈ (xC X).exceptionTable.toList, False) → Sim X maxL (FiX X toV) 0 lv0 [] f) : CtX y cc maxL ret fr lo Z av toV f := by
  intro l htr D cy A h r h' c n hf
  refine vx_ofW (cc := cc) (maxL := maxL) (ret := ret) hy rfl ?_
  intro p e s m args below meth c' s₁ B hml hex hv
  obtain ⟨rfl, hH, hK, hA, hz⟩ := hv
  have hts : ∀ w ∈ TB, w.before av.toArray s = true := fun w hw => atoms_spec (ws := Cond.code y cc maxL ret :: TB) B.pre w (List.mem_cons_of_mem _ hw)
  have hown : s.vm.findClass y.cls = some m.cls := findClass_of_methodNamed B.named
  have hl := lv_entry av (n := maxL) hlen
  rw [hlv] at hl
  rw [lg_entry_eq]
  exact hs (p, l, e, { frames := fr, cells := c, slots := n, locals := lo }, s, m, av.toArray, below, meth, c', D, cy, A, Z) ⟨B.exec, B.bytes, hml, hown, hts, hK, hA, B.notSynchronized, hz⟩ rfl rfl rfl B.returns ⟨htr, hex⟩ h r h' 0 0 c n hf (Nat.zero_add c) (Nat.zero_add n) s.heap [] _ hH va_S.rf hl
/-- a throw of its own; a throw that goes on; going on behind a call that returned -/
def mt {β : Type} (E : String) : Mo (β ⊕ String) := fun h => some (.inr E, h, 1, 6)
def me {β : Type} (E : String) : Mo (β ⊕ String) := fun h => some (.inr E, h, 0, 0)
def mx {β γ : Type} (x : Mo (β ⊕ String)) (K : β → Mo (γ ⊕ String)) : Mo (γ ⊕ String) := mb x (fun r => match r with
  | .inl b => K b
  | .inr E => me E)
section LX
variable {γ : Type} {toV0 : γ → Option Value} {X : Cg} {nL : Nat} {pc : Nat} {lv : List (Nat × Value)} {st stk : List Value} {cc : ByteArray} {own : String}
theorem hw_grow {D : va_G} {cy : Nat → ClassId} {A : Nat → Prop} {h : Hs} {H H1 : Heap} (hH : HW D cy A h H) (hz : H.size ≤ H1.size) (hq : ∀ q : Nat, q < H.size → H1[q]? = H[q]?) : HX D cy A h H1 :=
  ⟨H1.size, rfl, fun q x hx => ⟨(hH.2 q x hx).1.kept (hq q (hH.2 q x hx).1.lt), (hH.2 q x hx).2⟩⟩
/-- behind a call that returns or throws -/
theorem cg_backX {β : Type} {p : Program} {l : Launch} {e : Env} {R : Room} {s : State} {m : MethodId} {args : Array Value} {below : List Frame} {meth : Method} {c : Code} {H : Heap} {locs : List Loc} {cells slots mc ms : Nat} {Q : State → Prop} {D : va_G} {cy : Nat → ClassId} {A : Nat → Prop} {ls : Array Slot} {toV : β → Option Value} {r : β ⊕ String} {h1 : Hs} {a : Array Value}
    (hr : vx_Run p l e R s m args below meth c H locs cells slots mc ms (F0 m pc ls stk) st (QxC D cy A toV r h1 a) (XxC D cy A r h1) A) (hS : va_S A s.heap H locs)
    (kk : ∀ (v : β), r = .inl v → ∀ (H1 : Heap) (locs1 : List Loc), HW D cy A h1 H1 → va_S A s.heap H1 locs1 → W p l e R s m args below meth c H1 locs1 (cells + mc) (slots + ms) Q (F0 m (pc + 3) ls ((toV v).toList ++ st)))
    (kx : ∀ (E : String), r = .inr E → ∀ (q9 : Addr) (ce : Cell) (H1 : Heap) (locs1 : List Loc), HX D cy A h1 H1 → va_S A s.heap H1 locs1 → H1[q9]? = some ce → ce.vm = .none → s.vm.findClass E = some ce.cls → vx_W p l e R s m args below meth c H1 locs1 (cells + mc) (slots + ms) Q (F0 m pc ls st) q9) : W p l e R s m args below meth c H locs cells slots Q (F0 m pc ls stk) := by
  intro T hT X
  rcases hr T hT X with ⟨v, st₀, t, T', L, h0, X', hL, e1, e2, hq, stp⟩ | ⟨q, st₀, t, T', L, E, ce, h0, X', hL, e1, e2, hq, hce, hcv, hcl, stp⟩
  · cases r with
    | inr E => exact absurd hq id
    | inl w =>
      obtain ⟨hv, hp, hF⟩ := hq
      cases hv
      obtain ⟨k1, k2, k3⟩ := vx_keep (A0 := A) (A1 := A) (free := A) (H0 := s.heap) h0 e1 hS (fun _ _ h => h) (fun _ h => h) hL hF
      obtain ⟨t2, a1, b1⟩ := kk w rfl T'.heap (locs ++ L) (by rw [e1]; exact hp) k3 T' rfl X'
      exact ⟨t2, stp t2 a1, b1⟩
  · cases r with
    | inl w => exact absurd hq id
    | inr E' =>
      obtain ⟨rfl, hp, hF⟩ := hq
      obtain ⟨k1, k2, k3⟩ := vx_keep (A0 := A) (A1 := A) (free := A) (H0 := s.heap) h0 e1 hS (fun _ _ h => h) (fun _ h => h) hL hF
      obtain ⟨t2, a1, b1⟩ := kx E rfl q ce T'.heap (locs ++ L) (by rw [e1]; exact hp) k3 (by rw [e1]; exact hce) hcv hcl T' rfl X'
      exact ⟨t2, stp.trans a1, b1⟩
/-- a throw that isn't caught here -/
theorem out_X {p : Program} {l : Launch} {e : Env} {R : Room} {s : State} {m : MethodId} {args : Array Value} {below : List Frame} {meth : Method} {c : Code} {H : Heap} {locs : List Loc} {D : va_G} {cy : Nat → ClassId} {A : Nat → Prop} {ls : Array Slot} {E : String} {h1 : Hs} {q : Addr} {ce : Cell} {rest : List Value} {cells slots : Nat} (hex : ∀ x ∈ c.exceptionTable.toList, False) (hlk : meth.locks = false) (hH : HX D cy A h1 H) (hS : va_S A s.heap H locs) (h2 : H[q]? = some ce) (h3 : ce.vm = .none) (h4 : s.vm.findClass E = some ce.cls) (hc : cells ≤ R.cells) (hs : slots ≤ R.slots) :
    vx_W p l e R s m args below meth c H locs cells slots (vx_MQ below (QxC D cy A toV0 (.inr E) h1) (XxC D cy A (.inr E : γ ⊕ String) h1) args s R.cells R.slots A) (F0 m pc ls rest) q :=
  vx_out (fun x hx => absurd (hex x hx) id) hlk h2 h3 h4 (fun t ht _ => ⟨rfl, by rw [ht]; exact hH, hS.F ht⟩) hS.2.2 hc hs
theorem sm_callSX {β : Type} (cx : Cx X cc own nL) (hth : (xL X).stackTraces = false ∧ (∀ x ∈ (xC X).exceptionTable.toList, False)) {i : Nat} {y : MethodName} {bytes : ByteArray} {maxL : Nat} {ret : Option FieldType} {fr lo : Nat} (As : List Value) {toV : β → Option Value} {f : Mo (β ⊕ String)} {K : β → Mo (γ ⊕ String)} (hW : CalS own i y bytes maxL ret As.length)
    (hM : CtX y bytes maxL ret fr lo (xZ X) As toV f) (hfr : fr + 1 ≤ (xR X).frames) (hlo : 8 + (maxL + 11) + lo ≤ (xR X).locals) (hst : stk = As.reverse ++ st) (hcat : (st.map fun v => v.category).sum ≤ 8) (hd : decode cc pc = .ok (.invokestatic i, 3)) (kk : ∀ b, Sim X nL (FiX X toV0) (pc + 3) lv ((toV b).toList ++ st) (K b)) : Sim X nL (FiX X toV0) pc lv stk (mx f K) := by
  obtain ⟨p, l, e, R, s, m, args, below, meth, c, D, cy, A, Z⟩ := X
  obtain ⟨hx, hb, hml, hown, hts, hK, hA, hlk, hz⟩ := cx
  intro h z h' c0 n0 c1 n1 hk e1 e2 H locs ls hH hS hl
  obtain ⟨b, h1, ca, na, cb, nb, k1, k2, rfl, rfl⟩ := mb_some hk
  have M := hM l hth.1 D cy A h b h1 ca na k1
  refine cg_backX (mc := ca) (ms := na) (vx_runS (As := As) (rest := st) ⟨hx, hb, hml, hown, hts⟩ M (va_cwS As.length hts hW.1 rfl rfl rfl hW.2 ⟨hfr, hlo⟩) ⟨fb_pre, fun U hU hWm => ⟨rfl, pre_at hK hA hz hS hH hU hWm⟩⟩ rfl rfl hl.1 hst (lv_room hcat) hd ⟨by omega, by omega⟩) hS (fun v hv H1 locs1 hH1 hS1 => ?_) (fun E hE q9 ce H1 locs1 hH1 hS1 g1 g2 g3 => ?_)
  · subst hv
    exact kk v h1 z h' (c0 + ca) (n0 + na) cb nb k2 (by omega) (by omega) H1 locs1 ls hH1 hS1 hl
  · subst hE
    cases k2
    exact out_X hth.2 hlk hH1 hS1 g1 g2 g3 (by omega) (by omega)
theorem sm_callVX {β : Type} (cx : Cx X cc own nL) (hth : (xL X).stackTraces = false ∧ (∀ x ∈ (xC X).exceptionTable.toList, False)) {i ci : Nat} {C : String} {T : u_T} {N : Nat} {y : MethodName} {bytes : ByteArray} {maxL : Nat} {ret : Option FieldType} {fr lo : Nat} (As : List Value) {r : Option Nat} {toV : β → Option Value} {f : Mo (β ⊕ String)} {K : β → Mo (γ ⊕ String)} (hc : vwCl[ci]? = some (C, T, N)) (hW : CalV own i C y bytes maxL ret As.length)
    (hM : ∀ a, r = some a → CtX y bytes maxL ret fr lo (xZ X) (.ref a :: As) toV f) (hfr : fr + 1 ≤ (xR X).frames) (hlo : 8 + (maxL + 11) + lo ≤ (xR X).locals) (hst : stk = As.reverse ++ va_rf r :: st) (hcat : (st.map fun v => v.category).sum ≤ 8) (hd : decode cc pc = .ok (.invokevirtual i, 3)) (kk : ∀ b, Sim X nL (FiX X toV0) (pc + 3) lv ((toV b).toList ++ st) (K b)) : Sim X nL (FiX X toV0) pc lv stk (mx (mo ci r f) K) := by
  obtain ⟨p, l, e, R, s, m, args, below, meth, c, D, cy, A, Z⟩ := X
  obtain ⟨hx, hb, hml, hown, hts, hK, hA, hlk, hz⟩ := cx
  intro h z h' c0 n0 c1 n1 hk e1 e2 H locs ls hH hS hl
  obtain ⟨b, h1, ca, na, cb, nb, k1, k2, rfl, rfl⟩ := mb_some hk
  obtain ⟨a, fs, rfl, ha, kf⟩ := mo_some k1
  have M := hM a rfl l hth.1 D cy A h b h1 ca na kf
  have hP := one_P (hH.2 a _ ha).1
  refine cg_backX (mc := ca) (ms := na) (vx_runV (As := As) (rest := st) (C := C) ⟨hx, hb, hml, hown, hts⟩ M (cwV As.length hts hW.1 rfl rfl rfl hW.2 ⟨hfr, hlo⟩) ⟨fb_pre, va_recv hK hP (q := (C, T, N)) (ci := ci) (q0 := 0) hc rfl, fun U hU hWm => ⟨rfl, pre_at hK hA hz hS hH hU hWm⟩⟩ rfl rfl hl.1 hst (lv_room hcat) hd ⟨by omega, by omega⟩) hS (fun v hv H1 locs1 hH1 hS1 => ?_) (fun E hE q9 ce H1 locs1 hH1 hS1 g1 g2 g3 => ?_)
  · subst hv
    exact kk v h1 z h' (c0 + ca) (n0 + na) cb nb k2 (by omega) (by omega) H1 locs1 ls hH1 hS1 hl
  · subst hE
    cases k2
    exact out_X hth.2 hlk hH1 hS1 g1 g2 g3 (by omega) (by omega)
/-- throw new E("text") -/
theorem sm_thrW (cx : Cx X cc RX11 nL) (hth : (xL X).stackTraces = false ∧ (∀ x ∈ (xC X).exceptionTable.toList, False)) {cls : String} {ik is ic : Nat} {B : List Cond} (x : String × Nat × String × Nat) (hm : x ∈ wRef) (ho : x.1 = RX11) (hi : x.2.1 = is) (hcls : Bundle.fit cls = true) (hk : Cond.classLink RX11 ik cls ∈ TB) (hini : Cond.initialized cls ∈ TB) (hg : ∀ w ∈ (vx_atS RX11 ic cls eN).filter goodWord, w ∈ lw_tbl) (hbad : ∀ w ∈ (vx_atS RX11 ic cls eN).filter (fun w => !goodWord w), w ∈ B) (hB : ∀ w ∈ B, w ∈ nwL) (hBt : ∀ w ∈ B, w.onTables = true) (hot : ∀ w ∈ Cond.classLink RX11 ik cls :: Cond.initialized cls :: vx_atS RX11 ic cls eN, vx_ot w = true)
    (d0 : decode cc pc = .ok (.new ik, 3)) (d3 : decode cc (pc + 3) = .ok (.dup, 1)) (d4 : decode cc (pc + 4) = .ok (.ldc_w is, 3)) (d7 : decode cc (pc + 7) = .ok (.invokespecial ic, 3)) (d10 : decode cc (pc + 10) = .ok (.athrow, 1)) (hfr : 6 ≤ (xR X).frames) (hlo : 90 ≤ (xR X).locals) (hcat : (st.map fun v => v.category).sum ≤ 8) : Sim X nL (FiX X toV0) pc lv st (mt cls) := by
  subst hi
  obtain ⟨p, l, e, R, s, m, args, below, meth, c, D, cy, A, Z⟩ := X
  obtain ⟨hx, hb, hml, hown, hts, hK, hA, hlk, hz⟩ := cx
  intro h z h' c0 n0 c1 n1 hk' e1 e2 H locs ls hH hS hl
  cases hk'
  have hat : ∀ w ∈ vx_atS RX11 ic cls eN, w.before args s = true := vx_hat (fun w hw => hts w (tb_in (hg w hw) (List.mem_filter.mp hw).2)) hbad (fun w hw => va_Nw.use (hBt w hw) (hz.1 w (hB w hw)))
  have hstr := hz.2.2.2.2.2.1 x hm
  rw [ho] at hstr
  exact vx_throwSW hx hb hth.1 hown hcls (by decide) (hts _ hk) (hts _ hini) hstr hat hot hz.2.2.2.2.2.2.2.1.1 hz.2.2.2.2.2.2.2.1.2 hS (hl.1.trans hml.symm) d0 d3 d4 d7 d10 (fun x hx => absurd (hth.2 x hx) id) (Nat.lt_of_lt_of_le (by decide) hfr) (Nat.le_trans (Nat.add_le_add_right hcat _) (Nat.le_trans (by decide) hlo)) (by omega) (by omega) hlk (fun t _ g1 g2 => ⟨rfl, hw_grow hH g1 g2, Nat.le_trans hS.1 g1, fun q q1 q2 => (g2 q (Nat.lt_of_lt_of_le q1 hS.1)).trans (hS.2.1 q q1 q2)⟩) hS.2.2 (by omega) (by omega)
theorem sm_thrS (cx : Cx X cc RX11 nL) (hth : (xL X).stackTraces = false ∧ (∀ x ∈ (xC X).exceptionTable.toList, False)) {cls : String} {ik is ic : Nat} {B : List Cond} (x : String × Nat × String × Nat) (hm : x ∈ wRef) (ho : x.1 = RX11) (hi : x.2.1 = is) (hcls : Bundle.fit cls = true) (hk : Cond.classLink RX11 ik cls ∈ TB) (hini : Cond.initialized cls ∈ TB) (hg : ∀ w ∈ (vx_atS RX11 ic cls eN).filter goodWord, w ∈ lw_tbl) (hbad : ∀ w ∈ (vx_atS RX11 ic cls eN).filter (fun w => !goodWord w), w ∈ B) (hB : ∀ w ∈ B, w ∈ nwL) (hBt : ∀ w ∈ B, w.onTables = true) (hot : ∀ w ∈ Cond.classLink RX11 ik cls :: Cond.initialized cls :: vx_atS RX11 ic cls eN, vx_ot w = true)
    (d0 : decode cc pc = .ok (.new ik, 3)) (d3 : decode cc (pc + 3) = .ok (.dup, 1)) (d4 : decode cc (pc + 4) = .ok (.ldc is, 2)) (d6 : decode cc (pc + 6) = .ok (.invokespecial ic, 3)) (d9 : decode cc (pc + 9) = .ok (.athrow, 1)) (hfr : 6 ≤ (xR X).frames) (hlo : 90 ≤ (xR X).locals) (hcat : (st.map fun v => v.category).sum ≤ 8) : Sim X nL (FiX X toV0) pc lv st (mt cls) := by
  subst hi
  obtain ⟨p, l, e, R, s, m, args, below, meth, c, D, cy, A, Z⟩ := X
  obtain ⟨hx, hb, hml, hown, hts, hK, hA, hlk, hz⟩ := cx
  intro h z h' c0 n0 c1 n1 hk' e1 e2 H locs ls hH hS hl
  cases hk'
  have hat : ∀ w ∈ vx_atS RX11 ic cls eN, w.before args s = true := vx_hat (fun w hw => hts w (tb_in (hg w hw) (List.mem_filter.mp hw).2)) hbad (fun w hw => va_Nw.use (hBt w hw) (hz.1 w (hB w hw)))
  have hstr := hz.2.2.2.2.2.1 x hm
  rw [ho] at hstr
  exact vx_throwS hx hb hth.1 hown hcls (by decide) (hts _ hk) (hts _ hini) hstr hat hot hz.2.2.2.2.2.2.2.1.1 hz.2.2.2.2.2.2.2.1.2 hS (hl.1.trans hml.symm) d0 d3 d4 d6 d9 (fun x hx => absurd (hth.2 x hx) id) (Nat.lt_of_lt_of_le (by decide) hfr) (Nat.le_trans (Nat.add_le_add_right hcat _) (Nat.le_trans (by decide) hlo)) (by omega) (by omega) hlk (fun t _ g1 g2 => ⟨rfl, hw_grow hH g1 g2, Nat.le_trans hS.1 g1, fun q q1 q2 => (g2 q (Nat.lt_of_lt_of_le q1 hS.1)).trans (hS.2.1 q q1 q2)⟩) hS.2.2 (by omega) (by omega)
theorem sx_iret (cx : Cx X cc own nL) {v : Int32} (hr : (xM X).sig.returnType = some .int) (hd : decode cc pc = .ok (.ireturn, 1)) : Sim X nL (FiX X vI) pc lv [.int v] (mp (.inl v)) := by
  obtain ⟨p, l, e, R, s, m, args, below, meth, c, D, cy, A, Z⟩ := X
  obtain ⟨hx, hb, hml, hown, hts, hK, hA, hlk, hz⟩ := cx
  intro h z h' c0 n0 c1 n1 hk e1 e2 H locs ls hH hS hl
  cases hk
  rw [Nat.add_zero] at e1 e2
  subst e1; subst e2
  exact vx_ret (W.iret hx hb hr (fun t ht hW => ⟨rfl, by rw [ht]; exact hH, hS.F ht⟩) hS.2.2 hd)
def rzX (ty : FieldType) (v : Int32) : Mo (Int32 ⊕ String) := if narrow ty (.int v) = .int v then mp (.inl v) else mf
theorem sx_zret (cx : Cx X cc own nL) {v : Int32} {ty : FieldType} (hr : (xM X).sig.returnType = some ty) (hd : decode cc pc = .ok (.ireturn, 1)) : Sim X nL (FiX X vI) pc lv [.int v] (rzX ty v) := by
  unfold rzX
  split
  · rename_i hn
    obtain ⟨p, l, e, R, s, m, args, below, meth, c, D, cy, A, Z⟩ := X
    obtain ⟨hx, hb, hml, hown, hts, hK, hA, hlk, hz⟩ := cx
    intro h z h' c0 n0 c1 n1 hk e1 e2 H locs ls hH hS hl
    cases hk
    rw [Nat.add_zero] at e1 e2
    subst e1; subst e2
    exact vx_ret (W.zret hx hb hr hn (fun t ht hW => ⟨rfl, by rw [ht]; exact hH, hS.F ht⟩) hS.2.2 hd)
  · exact sm_mf
theorem sx_vret (cx : Cx X cc own nL) (hr : (xM X).sig.returnType = none) (hd : decode cc pc = .ok (.return_, 1)) : Sim X nL (FiX X vV) pc lv [] (mp (.inl ())) := by
  obtain ⟨p, l, e, R, s, m, args, below, meth, c, D, cy, A, Z⟩ := X
  obtain ⟨hx, hb, hml, hown, hts, hK, hA, hlk, hz⟩ := cx
  intro h z h' c0 n0 c1 n1 hk e1 e2 H locs ls hH hS hl
  cases hk
  rw [Nat.add_zero] at e1 e2
  subst e1; subst e2
  exact vx_ret (W.vret hx hb hr (fun t ht hW => ⟨rfl, by rw [ht]; exact hH, hS.F ht⟩) hS.2.2 hd)
end LX
/-- the three throws' rows, with all that is fixed of them -/
theorem bw_I : ∀ w ∈ [Cond.castable eI eI, Cond.declares ⟨"java/lang/RuntimeException", "<init>", "(Ljava/lang/String;)V"⟩, Cond.declares ⟨"java/lang/Exception", "<init>", "(Ljava/lang/String;)V"⟩, Cond.declares ⟨"java/lang/Throwable", "<init>", "(Ljava/lang/String;)V"⟩], w ∈ nwL := by decide +kernel
theorem bw_A : ∀ w ∈ [Cond.castable eA eA, Cond.declares ⟨"java/lang/RuntimeException", "<init>", "(Ljava/lang/String;)V"⟩, Cond.declares ⟨"java/lang/Exception", "<init>", "(Ljava/lang/String;)V"⟩, Cond.declares ⟨"java/lang/Throwable", "<init>", "(Ljava/lang/String;)V"⟩], w ∈ nwL := by decide +kernel
theorem bw_S : ∀ w ∈ [Cond.castable eS eS, Cond.declares ⟨"java/lang/RuntimeException", "<init>", "(Ljava/lang/String;)V"⟩, Cond.declares ⟨"java/lang/Exception", "<init>", "(Ljava/lang/String;)V"⟩, Cond.declares ⟨"java/lang/Throwable", "<init>", "(Ljava/lang/String;)V"⟩], w ∈ nwL := by decide +kernel
theorem bt_I : ∀ w ∈ [Cond.castable eI eI, Cond.declares ⟨"java/lang/RuntimeException", "<init>", "(Ljava/lang/String;)V"⟩, Cond.declares ⟨"java/lang/Exception", "<init>", "(Ljava/lang/String;)V"⟩, Cond.declares ⟨"java/lang/Throwable", "<init>", "(Ljava/lang/String;)V"⟩], w.onTables = true := by decide +kernel
theorem bt_A : ∀ w ∈ [Cond.castable eA eA, Cond.declares ⟨"java/lang/RuntimeException", "<init>", "(Ljava/lang/String;)V"⟩, Cond.declares ⟨"java/lang/Exception", "<init>", "(Ljava/lang/String;)V"⟩, Cond.declares ⟨"java/lang/Throwable", "<init>", "(Ljava/lang/String;)V"⟩], w.onTables = true := by decide +kernel
theorem bt_S : ∀ w ∈ [Cond.castable eS eS, Cond.declares ⟨"java/lang/RuntimeException", "<init>", "(Ljava/lang/String;)V"⟩, Cond.declares ⟨"java/lang/Exception", "<init>", "(Ljava/lang/String;)V"⟩, Cond.declares ⟨"java/lang/Throwable", "<init>", "(Ljava/lang/String;)V"⟩], w.onTables = true := by decide +kernel
