/-! ===== contracts, calls, returns ===== -/
def vI (x : Int32) : Option Value := some (.int x)
def vL (x : Int64) : Option Value := some (.long x)
def vR (x : Option Nat) : Option Value := some (va_rf x)
def vV (_ : Unit) : Option Value := none
abbrev xR (X : Cg) : Room := X.2.2.2.1
abbrev xM (X : Cg) : Method := X.2.2.2.2.2.2.2.2.1
abbrev xZ (X : Cg) : Nat → Nat := X.2.2.2.2.2.2.2.2.2.2.2.2.2
def PreU (D : va_G) (cy : Nat → ClassId) (A : Nat → Prop) (Z : Nat → Nat) (h : Hs) (U : State) : Prop := HW D cy A h U.heap ∧ va_K D vwCl (tysA cy) U ∧ (∀ q, U.heap.size ≤ q → A q) ∧ ZS Z A U U.heap
def QvC (D : va_G) (cy : Nat → ClassId) (A : Nat → Prop) (v : Option Value) (h' : Hs) : Array Value → State → Outcome → State → Prop := fun _ st o t => o = .returned v ∧ HW D cy A h' t.heap ∧ va_F A st t
/-- a method's contract: what its program does, the method does -/
def Ct {β : Type} (y : MethodName) (cc : ByteArray) (maxL : Nat) (ret : Option FieldType) (fr lo : Nat) (Z : Nat → Nat) (av : List Value) (toV : β → Option Value) (f : Mo β) : Prop :=
  ∀ (l : Launch) (D : va_G) (cy : Nat → ClassId) (A : Nat → Prop) (h : Hs) (r : β) (h' : Hs) (c n : Nat), f h = some (r, h', c, n) → Met l y (.code y cc maxL ret :: TB) { frames := fr, cells := c, slots := n, locals := lo } (va_Pc av (PreU D cy A Z h)) (QvC D cy A (toV r) h') c n A
def FiM {β : Type} (X : Cg) (toV : β → Option Value) : β → Hs → State → Prop := match X with
  | (_, _, _, R, s, _, args, below, _, _, D, cy, A, _) => fun r h' => MQ below (QvC D cy A (toV r) h') args s R.cells R.slots A
theorem ct_of {β : Type} {y : MethodName} {cc : ByteArray} {maxL : Nat} {ret : Option FieldType} {fr lo : Nat} {Z : Nat → Nat} {av : List Value} {lv0 : List (Nat × Value)} {toV : β → Option Value} {f : Mo β} (hy : plainName y.cls = true) (hlen : (lg_sl av).length ≤ maxL) (hlv : lv_args 0 av = lv0)
    (hs : ∀ X : Cg, Cx X cc y.cls maxL → xZ X = Z → (xR X).frames = fr → (xR X).locals = lo → (xM X).sig.returnType = ret → (xM X).name = y.name → Sim X maxL (FiM X toV) 0 lv0 [] f) : Ct y cc maxL ret fr lo Z av toV f := by
  intro l D cy A h r h' c n hf
  refine Met.ofW (cc := cc) (maxL := maxL) (ret := ret) hy rfl ?_
  intro p e s m args below meth c' s₁ B hml hv
  obtain ⟨rfl, hH, hK, hA, hz⟩ := hv
  have hts : ∀ w ∈ TB, w.before av.toArray s = true := fun w hw => atoms_spec (ws := Cond.code y cc maxL ret :: TB) B.pre w (List.mem_cons_of_mem _ hw)
  have hown : s.vm.findClass y.cls = some m.cls := findClass_of_methodNamed B.named
  have hin : meth.name = y.name := (name_of_methodNamed B.named B.method).1
  have hl := lv_entry av (n := maxL) hlen
  rw [hlv] at hl
  rw [lg_entry_eq]
  exact hs (p, l, e, { frames := fr, cells := c, slots := n, locals := lo }, s, m, av.toArray, below, meth, c', D, cy, A, Z) ⟨B.exec, B.bytes, hml, hown, hts, hK, hA, B.notSynchronized, hz⟩ rfl rfl rfl B.returns hin h r h' 0 0 c n hf (Nat.zero_add c) (Nat.zero_add n) s.heap [] _ hH va_S.rf hl
theorem fb_pre {av : List Value} {D : va_G} {cy : Nat → ClassId} {A : Nat → Prop} {Z : Nat → Nat} {h : Hs} : FrameBlind (va_Pc av (PreU D cy A Z h)) := by
  intro a U g mk q
  obtain ⟨q0, q1, q2, q3, q4⟩ := q
  exact ⟨q0, q1, va_K.moved (u := U) (U := U.calling g mk a) (Vm.Alike.refl U.vm) q2, q3, ZS.moved (s := U) (U := U.calling g mk a) (State.WarmedH.refl U) q4⟩
theorem wd_V {own C : String} {i maxL : Nat} {y : MethodName} {bytes : ByteArray} {ret : Option FieldType} (h1 : Cond.methodLink own i y ∈ TB) (h2 : Cond.instanceMethod y ∈ TB) (h3 : Cond.selects C y y ∈ TB) (h4 : Cond.initialized C ∈ TB) (h5 : Cond.code y bytes maxL ret ∈ TB) : GoodIn TB (wsV own i C y (Cond.code y bytes maxL ret :: TB)) := by
  intro w hw
  have g : ∀ w ∈ TB, w ∈ TB ∧ ((w.onTables && w.keeps) = true ∨ ∃ ty, w = .arrayClass ty) := fun w h => ⟨h, good_of_word (tb_good _ h).2⟩
  rcases List.mem_append.mp hw with hw | hw
  · rcases List.mem_cons.mp hw with rfl | hw
    · exact g _ h1
    rcases List.mem_cons.mp hw with rfl | hw
    · exact g _ h2
    rcases List.mem_cons.mp hw with rfl | hw
    · exact g _ h3
    rcases List.mem_cons.mp hw with rfl | hw
    · exact g _ h4
    cases hw
  · exact tb_call h5 w hw
theorem wd_S {own : String} {i maxL : Nat} {y : MethodName} {bytes : ByteArray} {ret : Option FieldType} (h1 : Cond.methodLink own i y ∈ TB) (h2 : Cond.static y ∈ TB) (h4 : Cond.initialized y.cls ∈ TB) (h5 : Cond.code y bytes maxL ret ∈ TB) : GoodIn TB (va_wsS own i y (Cond.code y bytes maxL ret :: TB)) := by
  intro w hw
  have g : ∀ w ∈ TB, w ∈ TB ∧ ((w.onTables && w.keeps) = true ∨ ∃ ty, w = .arrayClass ty) := fun w h => ⟨h, good_of_word (tb_good _ h).2⟩
  rcases List.mem_append.mp hw with hw | hw
  · rcases List.mem_cons.mp hw with rfl | hw
    · exact g _ h1
    rcases List.mem_cons.mp hw with rfl | hw
    · exact g _ h2
    rcases List.mem_cons.mp hw with rfl | hw
    · exact g _ h4
    cases hw
  · exact tb_call h5 w hw
/-- what is fixed of a call -/
def CalV (own : String) (i : Nat) (C : String) (y : MethodName) (bytes : ByteArray) (maxL : Nat) (ret : Option FieldType) (n : Nat) : Prop := GoodIn TB (wsV own i C y (Cond.code y bytes maxL ret :: TB)) ∧ y.cls = C ∧ y.cls ≠ "java/lang/invoke/MethodHandle" ∧ y.cls ≠ "java/lang/invoke/VarHandle" ∧ (parseMethodDescriptor y.desc).map (fun d => d.parameters.length) = some n
def CalS (own : String) (i : Nat) (y : MethodName) (bytes : ByteArray) (maxL : Nat) (ret : Option FieldType) (n : Nat) : Prop := GoodIn TB (va_wsS own i y (Cond.code y bytes maxL ret :: TB)) ∧ y.cls ≠ "java/lang/invoke/MethodHandle" ∧ y.cls ≠ "java/lang/invoke/VarHandle" ∧ (parseMethodDescriptor y.desc).map (fun d => d.parameters.length) = some n
def CalI (own : String) (i : Nat) (y : MethodName) (bytes : ByteArray) (maxL : Nat) (n : Nat) : Prop := (Cond.initialized y.cls ∈ TB ∧ Cond.instanceMethod y ∈ TB ∧ Cond.code y bytes maxL none ∈ TB) ∧ (Cond.methodLink own i y ∈ TB ∨ ∃ host, Cond.methodLinkNest own i y host ∈ nwL) ∧ y.name = "<init>" ∧ y.cls ≠ "java/lang/invoke/MethodHandle" ∧ y.cls ≠ "java/lang/invoke/VarHandle" ∧ (parseMethodDescriptor y.desc).map (fun d => d.parameters.length) = some n
section LD
variable {α : Type} {X : Cg} {nL : Nat} {Fi : α → Hs → State → Prop} {pc : Nat} {lv : List (Nat × Value)} {st stk : List Value} {k : Mo α} {cc : ByteArray} {own : String}
/-- behind a call -/
theorem cg_back {p : Program} {l : Launch} {e : Env} {R : Room} {s : State} {m : MethodId} {args : Array Value} {below : List Frame} {meth : Method} {c : Code} {H : Heap} {locs : List Loc} {cells slots mc ms : Nat} {Q : State → Prop} {D : va_G} {cy : Nat → ClassId} {A : Nat → Prop} {ls : Array Slot} {v : Option Value} {h1 : Hs} {a : Array Value}
    (hr : va_Run p l e R s m args below meth c H locs cells slots mc ms (F0 m pc ls stk) st (QvC D cy A v h1 a) A) (hS : va_S A s.heap H locs)
    (kk : ∀ (H1 : Heap) (locs1 : List Loc), HW D cy A h1 H1 → va_S A s.heap H1 locs1 → W p l e R s m args below meth c H1 locs1 (cells + mc) (slots + ms) Q (F0 m (pc + 3) ls (v.toList ++ st))) : W p l e R s m args below meth c H locs cells slots Q (F0 m pc ls stk) := by
  intro T hT X
  obtain ⟨v', st₀, t, T', L, h0, X', hL, e1, e2, ⟨hv, hp, hz, hk⟩, stp⟩ := hr T hT X
  cases hv
  rw [h0] at hz hk
  obtain ⟨t2, a1, b1⟩ := kk T'.heap (locs ++ L) (by rw [e1]; exact hp)
    ⟨Nat.le_trans hS.1 (by rw [e1]; exact hz), fun q h1 h2 => by rw [e1, hk q (Nat.lt_of_lt_of_le h1 hS.1) h2]; exact hS.2.1 q h1 h2, fun q hq => by
      rcases List.mem_append.mp hq with h | h
      · exact hS.2.2 q h
      · exact hL q h⟩ T' rfl X'
  exact ⟨t2, stp t2 a1, b1⟩
theorem pre_at {D : va_G} {cy : Nat → ClassId} {A : Nat → Prop} {Z : Nat → Nat} {h : Hs} {s U : State} {H : Heap} {locs : List Loc} (hK : va_K D vwCl (tysA cy) s) (hA : ∀ q, s.heap.size ≤ q → A q) (hz : ZS Z A s s.heap) (hS : va_S A s.heap H locs) (hH : HW D cy A h H) (hU : U.heap = H) (hW : s.WarmedH U.vm) : PreU D cy A Z h U := by
  subst hU
  exact ⟨hH, va_K.moved hW.alike hK, fun q hq => hA q (Nat.le_trans hS.1 hq), ZS.moved hW (hz.kept hS.2.1)⟩
theorem sm_callV {β : Type} (cx : Cx X cc own nL) {i ci : Nat} {C : String} {T : u_T} {N : Nat} {y : MethodName} {bytes : ByteArray} {maxL : Nat} {ret : Option FieldType} {fr lo : Nat} (As : List Value) {r : Option Nat} {toV : β → Option Value} {f : Mo β} {K : β → Mo α} (hc : vwCl[ci]? = some (C, T, N)) (hW : CalV own i C y bytes maxL ret As.length)
    (hM : ∀ a, r = some a → Ct y bytes maxL ret fr lo (xZ X) (.ref a :: As) toV f) (hfr : fr + 1 ≤ (xR X).frames) (hlo : 8 + (maxL + 11) + lo ≤ (xR X).locals) (hst : stk = As.reverse ++ va_rf r :: st) (hcat : (st.map fun v => v.category).sum ≤ 8) (hd : decode cc pc = .ok (.invokevirtual i, 3)) (kk : ∀ b, Sim X nL Fi (pc + 3) lv ((toV b).toList ++ st) (K b)) : Sim X nL Fi pc lv stk (mb (mo ci r f) K) := by
  obtain ⟨p, l, e, R, s, m, args, below, meth, c, D, cy, A, Z⟩ := X
  obtain ⟨hx, hb, hml, hown, hts, hK, hA, hlk, hz⟩ := cx
  intro h z h' c0 n0 c1 n1 hk e1 e2 H locs ls hH hS hl
  obtain ⟨b, h1, ca, na, cb, nb, k1, k2, rfl, rfl⟩ := mb_some hk
  obtain ⟨a, fs, rfl, ha, kf⟩ := mo_some k1
  have M := hM a rfl l D cy A h b h1 ca na kf
  have hP := one_P (hH.2 a _ ha).1
  refine cg_back (mc := ca) (ms := na) (va_runV (As := As) (rest := st) (C := C) ⟨hx, hb, hml, hown, hts⟩ M (cwV As.length hts hW.1 rfl rfl rfl hW.2 ⟨hfr, hlo⟩) ⟨fb_pre, va_recv hK hP (q := (C, T, N)) (ci := ci) (q0 := 0) hc rfl, fun U hU hWm => ⟨rfl, pre_at hK hA hz hS hH hU hWm⟩⟩ rfl rfl hl.1 hst (lv_room hcat) hd ⟨by omega, by omega⟩) hS (fun H1 locs1 hH1 hS1 => ?_)
  exact kk b h1 z h' (c0 + ca) (n0 + na) cb nb k2 (by omega) (by omega) H1 locs1 ls hH1 hS1 hl
theorem sm_callS {β : Type} (cx : Cx X cc own nL) {i : Nat} {y : MethodName} {bytes : ByteArray} {maxL : Nat} {ret : Option FieldType} {fr lo : Nat} (As : List Value) {toV : β → Option Value} {f : Mo β} {K : β → Mo α} (hW : CalS own i y bytes maxL ret As.length)
    (hM : Ct y bytes maxL ret fr lo (xZ X) As toV f) (hfr : fr + 1 ≤ (xR X).frames) (hlo : 8 + (maxL + 11) + lo ≤ (xR X).locals) (hst : stk = As.reverse ++ st) (hcat : (st.map fun v => v.category).sum ≤ 8) (hd : decode cc pc = .ok (.invokestatic i, 3)) (kk : ∀ b, Sim X nL Fi (pc + 3) lv ((toV b).toList ++ st) (K b)) : Sim X nL Fi pc lv stk (mb f K) := by
  obtain ⟨p, l, e, R, s, m, args, below, meth, c, D, cy, A, Z⟩ := X
  obtain ⟨hx, hb, hml, hown, hts, hK, hA, hlk, hz⟩ := cx
  intro h z h' c0 n0 c1 n1 hk e1 e2 H locs ls hH hS hl
  obtain ⟨b, h1, ca, na, cb, nb, k1, k2, rfl, rfl⟩ := mb_some hk
  have M := hM l D cy A h b h1 ca na k1
  refine cg_back (mc := ca) (ms := na) (va_runS (As := As) (rest := st) ⟨hx, hb, hml, hown, hts⟩ M (va_cwS As.length hts hW.1 rfl rfl rfl hW.2 ⟨hfr, hlo⟩) ⟨fb_pre, fun U hU hWm => ⟨rfl, pre_at hK hA hz hS hH hU hWm⟩⟩ rfl rfl hl.1 hst (lv_room hcat) hd ⟨by omega, by omega⟩) hS (fun H1 locs1 hH1 hS1 => ?_)
  exact kk b h1 z h' (c0 + ca) (n0 + na) cb nb k2 (by omega) (by omega) H1 locs1 ls hH1 hS1 hl
theorem sm_callI {β : Type} (cx : Cx X cc own nL) {i ci : Nat} {y : MethodName} {bytes : ByteArray} {maxL : Nat} {fr lo : Nat} (As : List Value) {r : Option Nat} {toV : β → Option Value} {f : Mo β} {K : β → Mo α} (hW : CalI own i y bytes maxL As.length)
    (hM : ∀ a, r = some a → Ct y bytes maxL none fr lo (xZ X) (.ref a :: As) toV f) (hfr : fr + 1 ≤ (xR X).frames) (hlo : 8 + (maxL + 11) + lo ≤ (xR X).locals) (hst : stk = As.reverse ++ va_rf r :: st) (hcat : (st.map fun v => v.category).sum ≤ 8) (hd : decode cc pc = .ok (.invokespecial i, 3)) (kk : ∀ b, Sim X nL Fi (pc + 3) lv ((toV b).toList ++ st) (K b)) : Sim X nL Fi pc lv stk (mb (mo ci r f) K) := by
  obtain ⟨p, l, e, R, s, m, args, below, meth, c, D, cy, A, Z⟩ := X
  obtain ⟨hx, hb, hml, hown, hts, hK, hA, hlk, hz⟩ := cx
  intro h z h' c0 n0 c1 n1 hk e1 e2 H locs ls hH hS hl
  obtain ⟨b, h1, ca, na, cb, nb, k1, k2, rfl, rfl⟩ := mb_some hk
  obtain ⟨a, fs, rfl, ha, kf⟩ := mo_some k1
  have M := hM a rfl l D cy A h b h1 ca na kf
  obtain ⟨⟨w1, w2, w3⟩, w4, w5⟩ := hW
  have go : va_Run p l e R s m args below meth c H locs c0 n0 ca na (F0 m pc ls stk) st (QvC D cy A (toV b) h1 (Value.ref a :: As).toArray) A := by
    rcases w4 with w4 | ⟨host, w4⟩
    · exact va_runI (As := As) (rest := st) ⟨hx, hb, hml, hown, hts⟩ M (cwI As.length hts (tb_call w3) rfl rfl rfl (hts _ w1) (hts _ w4) (hts _ w2) w5.1 w5.2 ⟨hfr, hlo⟩) ⟨fb_pre, fun U hU hWm => ⟨rfl, pre_at hK hA hz hS hH hU hWm⟩⟩ rfl rfl hl.1 hst (lv_room hcat) hd ⟨by omega, by omega⟩
    · exact va_runIN (As := As) (rest := st) ⟨hx, hb, hml, hown, hts⟩ M ⟨va_cnB As.length hts (tb_call w3) rfl rfl rfl (hz.1 _ w4) (hts _ w1) w5.2 ⟨hfr, hlo⟩, w5.1, hts _ w2⟩ ⟨fb_pre, fun U hU hWm => ⟨rfl, pre_at hK hA hz hS hH hU hWm⟩⟩ rfl rfl hl.1 hst (lv_room hcat) hd ⟨by omega, by omega⟩
  refine cg_back (mc := ca) (ms := na) go hS (fun H1 locs1 hH1 hS1 => ?_)
  exact kk b h1 z h' (c0 + ca) (n0 + na) cb nb k2 (by omega) (by omega) H1 locs1 ls hH1 hS1 hl
/-- Object.<init> -/
theorem sm_obj (cx : Cx X cc own nL) {i : Nat} {r : Option Nat} {ci : Nat} {K : Mo α} (h1 : Cond.methodLink own i objectInit ∈ TB) (h2 : Cond.instanceMethod objectInit ∈ TB) (h3 : Cond.code objectInit ⟨#[0xb1]⟩ 1 none ∈ TB) (hfr : 1 ≤ (xR X).frames) (hlo : 12 ≤ (xR X).locals) (hd : decode cc pc = .ok (.invokespecial i, 3)) (hst : st = []) (kk : Sim X nL Fi (pc + 3) lv [] K) : Sim X nL Fi pc lv (va_rf r :: st) (mb (mo ci r (mp ())) (fun _ => K)) := by
  subst hst
  obtain ⟨p, l, e, R, s, m, args, below, meth, c, D, cy, A, Z⟩ := X
  obtain ⟨hx, hb, hml, hown, hts, hK, hA, hlk, hz⟩ := cx
  intro h z h' c0 n0 c1 n1 hk e1 e2 H locs ls hH hS hl
  obtain ⟨b, h1', ca, na, cb, nb, k1, k2, rfl, rfl⟩ := mb_some hk
  obtain ⟨a, fs, rfl, ha, kf⟩ := mo_some k1
  cases kf
  refine W.objInit hx hb hown (hts _ h1) (hts _ h2) (hts _ h3) rfl (by rw [hml]; exact hl.1) rfl hd hfr hlo ?_
  exact kk _ z h' c0 n0 cb nb k2 (by omega) (by omega) H locs ls hH hS hl
theorem sm_iret (cx : Cx X cc own nL) {v : Int32} (hr : (xM X).sig.returnType = some .int) (hd : decode cc pc = .ok (.ireturn, 1)) : Sim X nL (FiM X vI) pc lv [.int v] (mp v) := by
  obtain ⟨p, l, e, R, s, m, args, below, meth, c, D, cy, A, Z⟩ := X
  obtain ⟨hx, hb, hml, hown, hts, hK, hA, hlk, hz⟩ := cx
  intro h z h' c0 n0 c1 n1 hk e1 e2 H locs ls hH hS hl
  cases hk
  rw [Nat.add_zero] at e1 e2
  subst e1; subst e2
  exact W.iret hx hb hr (fun t ht hW => ⟨rfl, by rw [ht]; exact hH, hS.F ht⟩) hS.2.2 hd
/-- a truth value, a byte, a char: what the type keeps is what is there -/
def rz (ty : FieldType) (v : Int32) : Mo Int32 := if narrow ty (.int v) = .int v then mp v else mf
theorem sm_zret (cx : Cx X cc own nL) {v : Int32} {ty : FieldType} (hr : (xM X).sig.returnType = some ty) (hd : decode cc pc = .ok (.ireturn, 1)) : Sim X nL (FiM X vI) pc lv [.int v] (rz ty v) := by
  unfold rz
  split
  · rename_i hn
    obtain ⟨p, l, e, R, s, m, args, below, meth, c, D, cy, A, Z⟩ := X
    obtain ⟨hx, hb, hml, hown, hts, hK, hA, hlk, hz⟩ := cx
    intro h z h' c0 n0 c1 n1 hk e1 e2 H locs ls hH hS hl
    cases hk
    rw [Nat.add_zero] at e1 e2
    subst e1; subst e2
    exact W.zret hx hb hr hn (fun t ht hW => ⟨rfl, by rw [ht]; exact hH, hS.F ht⟩) hS.2.2 hd
  · exact sm_mf
theorem sm_lret (cx : Cx X cc own nL) {v : Int64} (hr : (xM X).sig.returnType = some .long) (hd : decode cc pc = .ok (.lreturn, 1)) : Sim X nL (FiM X vL) pc lv [.long v] (mp v) := by
  obtain ⟨p, l, e, R, s, m, args, below, meth, c, D, cy, A, Z⟩ := X
  obtain ⟨hx, hb, hml, hown, hts, hK, hA, hlk, hz⟩ := cx
  intro h z h' c0 n0 c1 n1 hk e1 e2 H locs ls hH hS hl
  cases hk
  rw [Nat.add_zero] at e1 e2
  subst e1; subst e2
  exact W.lret hx hb hr (fun t ht hW => ⟨rfl, by rw [ht]; exact hH, hS.F ht⟩) hS.2.2 hd
theorem sm_vret (cx : Cx X cc own nL) (hr : (xM X).sig.returnType = none) (hd : decode cc pc = .ok (.return_, 1)) : Sim X nL (FiM X vV) pc lv [] (mp ()) := by
  obtain ⟨p, l, e, R, s, m, args, below, meth, c, D, cy, A, Z⟩ := X
  obtain ⟨hx, hb, hml, hown, hts, hK, hA, hlk, hz⟩ := cx
  intro h z h' c0 n0 c1 n1 hk e1 e2 H locs ls hH hS hl
  cases hk
  rw [Nat.add_zero] at e1 e2
  subst e1; subst e2
  exact W.vret hx hb hr (fun t ht hW => ⟨rfl, by rw [ht]; exact hH, hS.F ht⟩) hS.2.2 hd
theorem sm_aret (cx : Cx X cc own nL) {v : Option Nat} {rt : FieldType} (hr : (xM X).sig.returnType = some rt) (hrt : (∃ n, rt = .object n) ∨ ∃ t, rt = .array t) (hd : decode cc pc = .ok (.areturn, 1)) : Sim X nL (FiM X vR) pc lv [va_rf v] (mp v) := by
  obtain ⟨p, l, e, R, s, m, args, below, meth, c, D, cy, A, Z⟩ := X
  obtain ⟨hx, hb, hml, hown, hts, hK, hA, hlk, hz⟩ := cx
  intro h z h' c0 n0 c1 n1 hk e1 e2 H locs ls hH hS hl
  cases hk
  rw [Nat.add_zero] at e1 e2
  subst e1; subst e2
  refine W.aret hx hb hr hrt ?_ (fun t ht hW => ⟨rfl, by rw [ht]; exact hH, hS.F ht⟩) hS.2.2 hd
  cases v with
  | none => exact Or.inl rfl
  | some a => exact Or.inr ⟨a, rfl⟩
end LD
