/-! ===== more rows ===== -/
/-- as often as any loop here goes round, and more -/
def fuL : Nat := 100000
theorem ct_i (x : Int32) : (Value.int x).category = 1 := rfl
theorem ct_l (x : Int64) : (Value.long x).category = 2 := rfl
theorem ct_r (x : Nat) : (Value.ref x).category = 1 := rfl
section LM
variable {α : Type} {X : Cg} {nL : Nat} {Fi : α → Hs → State → Prop} {pc : Nat} {lv : List (Nat × Value)} {st stk : List Value} {k : Mo α} {cc : ByteArray} {own : String}
theorem sm_newa0 (cx : Cx X cc own nL) {i : Int32} {K : Option Nat → Mo α} (hd : decode cc pc = .ok (.newarray .byte, 2)) (kk : ∀ b, Sim X nL Fi (pc + 2) lv (va_rf b :: st) (K b)) : Sim X nL Fi pc lv (.int i :: st) (mb (nA 0 i) K) := sm_newa cx 0 (at0 := .byte) (ty := .byte) rfl (fun _ => rfl) rfl (fun _ _ => rfl) (fun _ _ h => h) (by decide) wd_1_100 hd kk
theorem sm_newa1 (cx : Cx X cc own nL) {i : Int32} {K : Option Nat → Mo α} (hd : decode cc pc = .ok (.newarray .int, 2)) (kk : ∀ b, Sim X nL Fi (pc + 2) lv (va_rf b :: st) (K b)) : Sim X nL Fi pc lv (.int i :: st) (mb (nA 1 i) K) := sm_newa cx 1 (at0 := .int) (ty := .int) rfl (fun _ => rfl) rfl (fun _ _ => rfl) (fun _ _ h => h) (by decide) wd_1_86 hd kk
theorem sm_newa2 (cx : Cx X cc own nL) {i : Int32} {K : Option Nat → Mo α} (hd : decode cc pc = .ok (.newarray .long, 2)) (kk : ∀ b, Sim X nL Fi (pc + 2) lv (va_rf b :: st) (K b)) : Sim X nL Fi pc lv (.int i :: st) (mb (nA 2 i) K) := sm_newa cx 2 (at0 := .long) (ty := .long) rfl (fun _ => rfl) rfl (fun _ _ => rfl) (fun _ _ h => h) (by decide) wd_1_85 hd kk
theorem sm_newa3 (cx : Cx X cc own nL) {i : Int32} {K : Option Nat → Mo α} (hd : decode cc pc = .ok (.newarray .boolean, 2)) (kk : ∀ b, Sim X nL Fi (pc + 2) lv (va_rf b :: st) (K b)) : Sim X nL Fi pc lv (.int i :: st) (mb (nA 3 i) K) := sm_newa cx 3 (at0 := .boolean) (ty := .boolean) rfl (fun _ => rfl) rfl (fun _ _ => rfl) (fun _ _ h => h) (by decide) wd_7_29 hd kk
theorem moS_some {Z : Nat → Nat} {r : Option Nat} {x : Mo α} {h : Hs} {y : α × Hs × Nat × Nat} (e : moS Z r x h = some y) : ∃ i, i < 6 ∧ r = some (Z (10 + i)) ∧ x h = some y := by
  unfold moS at e
  split at e
  · rename_i i hi
    obtain ⟨q1, q2⟩ := wIx_some hi
    exact ⟨i, q1, q2, e⟩
  · cases e
/-- a call on a word -/
theorem sm_callW {β : Type} (cx : Cx X cc own nL) {i : Nat} {y : MethodName} {bytes : ByteArray} {maxL : Nat} {ret : Option FieldType} {fr lo : Nat} (As : List Value) {r : Option Nat} {toV : β → Option Value} {f : Mo β} {K : β → Mo α} (hW : CalV own i "java/lang/String" y bytes maxL ret As.length)
    (hM : ∀ a, r = some a → Ct y bytes maxL ret fr lo (xZ X) (.ref a :: As) toV f) (hfr : fr + 1 ≤ (xR X).frames) (hlo : 8 + (maxL + 11) + lo ≤ (xR X).locals) (hst : stk = As.reverse ++ va_rf r :: st) (hcat : (st.map fun v => v.category).sum ≤ 8) (hd : decode cc pc = .ok (.invokevirtual i, 3)) (kk : ∀ b, Sim X nL Fi (pc + 3) lv ((toV b).toList ++ st) (K b)) : Sim X nL Fi pc lv stk (mb (moS (xZ X) r f) K) := by
  obtain ⟨p, l, e, R, s, m, args, below, meth, c, D, cy, A, Z⟩ := X
  obtain ⟨hx, hb, hml, hown, hts, hK, hA, hlk, hz⟩ := cx
  intro h z h' c0 n0 c1 n1 hk e1 e2 H locs ls hH hS hl
  obtain ⟨b, h1, ca, na, cb, nb, k1, k2, rfl, rfl⟩ := mb_some hk
  obtain ⟨j, hj, rfl, kf⟩ := moS_some k1
  have M := hM _ rfl l D cy A h b h1 ca na kf
  refine cg_back (mc := ca) (ms := na) (va_runV (As := As) (rest := st) (C := "java/lang/String") ⟨hx, hb, hml, hown, hts⟩ M (cwV As.length hts hW.1 rfl rfl rfl hW.2 ⟨hfr, hlo⟩) ⟨fb_pre, vk_recv hz.2.2.2.2.1.2 hj hS, fun U hU hWm => ⟨rfl, pre_at hK hA hz hS hH hU hWm⟩⟩ rfl rfl hl.1 hst (lv_room hcat) hd ⟨by omega, by omega⟩) hS (fun H1 locs1 hH1 hS1 => ?_)
  exact kk b h1 z h' (c0 + ca) (n0 + na) cb nb k2 (by omega) (by omega) H1 locs1 ls hH1 hS1 hl
theorem sm_ext {k1 k2 : Mo α} (h : k1 = k2) (kk : Sim X nL Fi pc lv st k1) : Sim X nL Fi pc lv st k2 := h ▸ kk
theorem sm_tin (cx : Cx X cc own nL) {dflt lo hi : Int} {offs : Array Int} {len : Nat} {x : Int32} {off : Int} {tgt : Nat} (hd : decode cc pc = .ok (.tableswitch dflt lo hi offs, len)) (h1 : ¬ x.toInt < lo) (h2 : ¬ hi < x.toInt) (ho : offs[(x.toInt - lo).toNat]? = some off) (ht : (pc : Int) + off = (tgt : Int)) (kk : Sim X nL Fi tgt lv st k) : Sim X nL Fi pc lv (.int x :: st) k := by
  obtain ⟨p, l, e, R, s, m, args, below, meth, c, D, cy, A, Z⟩ := X
  obtain ⟨hx, hb, hml, hown, hts, hK, hA, hlk, hz⟩ := cx
  intro h z h' c0 n0 c1 n1 hk e1 e2 H locs ls hH hS hl
  exact lv_tableIn hx hb hd h1 h2 ho ht (kk h z h' c0 n0 c1 n1 hk e1 e2 H locs ls hH hS hl)
theorem sm_tout (cx : Cx X cc own nL) {dflt lo hi : Int} {offs : Array Int} {len : Nat} {x : Int32} {tgt : Nat} (hd : decode cc pc = .ok (.tableswitch dflt lo hi offs, len)) (h1 : x.toInt < lo ∨ hi < x.toInt) (ht : (pc : Int) + dflt = (tgt : Int)) (kk : Sim X nL Fi tgt lv st k) : Sim X nL Fi pc lv (.int x :: st) k := by
  obtain ⟨p, l, e, R, s, m, args, below, meth, c, D, cy, A, Z⟩ := X
  obtain ⟨hx, hb, hml, hown, hts, hK, hA, hlk, hz⟩ := cx
  intro h z h' c0 n0 c1 n1 hk e1 e2 H locs ls hH hS hl
  exact lv_tableOut hx hb hd h1 ht (kk h z h' c0 n0 c1 n1 hk e1 e2 H locs ls hH hS hl)
theorem sm_tsw7 (cx : Cx X cc own nL) {x : Int32} {dflt o0 o1 o2 o3 o4 o5 o6 : Int} {len td : Nat} {t0 : Nat} {t1 : Nat} {t2 : Nat} {t3 : Nat} {t4 : Nat} {t5 : Nat} {t6 : Nat} {k0 k1 k2 k3 k4 k5 k6 kd : Mo α} (hd : decode cc pc = .ok (.tableswitch dflt 0 6 #[o0, o1, o2, o3, o4, o5, o6], len)) (h0 : (pc : Int) + o0 = (t0 : Int)) (h1 : (pc : Int) + o1 = (t1 : Int)) (h2 : (pc : Int) + o2 = (t2 : Int)) (h3 : (pc : Int) + o3 = (t3 : Int)) (h4 : (pc : Int) + o4 = (t4 : Int)) (h5 : (pc : Int) + o5 = (t5 : Int)) (h6 : (pc : Int) + o6 = (t6 : Int)) (hdd : (pc : Int) + dflt = (td : Int)) (q0 : Sim X nL Fi t0 lv st k0) (q1 : Sim X nL Fi t1 lv st k1) (q2 : Sim X nL Fi t2 lv st k2) (q3 : Sim X nL Fi t3 lv st k3) (q4 : Sim X nL Fi t4 lv st k4) (q5 : Sim X nL Fi t5 lv st k5) (q6 : Sim X nL Fi t6 lv st k6) (qd : Sim X nL Fi td lv st kd) : Sim X nL Fi pc lv (.int x :: st) (if x = 0 then k0 else (if x = 1 then k1 else (if x = 2 then k2 else (if x = 3 then k3 else (if x = 4 then k4 else (if x = 5 then k5 else (if x = 6 then k6 else kd))))))) := by
  by_cases c0 : x = 0
  · subst c0
    rw [if_pos rfl]
    exact sm_tin cx hd (by decide) (by decide) rfl h0 q0
  rw [if_neg c0]
  by_cases c1 : x = 1
  · subst c1
    rw [if_pos rfl]
    exact sm_tin cx hd (by decide) (by decide) rfl h1 q1
  rw [if_neg c1]
  by_cases c2 : x = 2
  · subst c2
    rw [if_pos rfl]
    exact sm_tin cx hd (by decide) (by decide) rfl h2 q2
  rw [if_neg c2]
  by_cases c3 : x = 3
  · subst c3
    rw [if_pos rfl]
    exact sm_tin cx hd (by decide) (by decide) rfl h3 q3
  rw [if_neg c3]
  by_cases c4 : x = 4
  · subst c4
    rw [if_pos rfl]
    exact sm_tin cx hd (by decide) (by decide) rfl h4 q4
  rw [if_neg c4]
  by_cases c5 : x = 5
  · subst c5
    rw [if_pos rfl]
    exact sm_tin cx hd (by decide) (by decide) rfl h5 q5
  rw [if_neg c5]
  by_cases c6 : x = 6
  · subst c6
    rw [if_pos rfl]
    exact sm_tin cx hd (by decide) (by decide) rfl h6 q6
  rw [if_neg c6]
  refine sm_tout cx hd ?_ hdd qd
  have key : ∀ n : Int32, ∀ m : Int, n.toInt = m → ¬ x = n → x.toInt ≠ m := fun n m e hne he => hne (Int32.toInt_inj.mp (he.trans e.symm))
  have g0 := key 0 0 (by decide) c0
  have g1 := key 1 1 (by decide) c1
  have g2 := key 2 2 (by decide) c2
  have g3 := key 3 3 (by decide) c3
  have g4 := key 4 4 (by decide) c4
  have g5 := key 5 5 (by decide) c5
  have g6 := key 6 6 (by decide) c6
  omega
end LM
