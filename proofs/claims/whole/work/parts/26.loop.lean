/-! ===== the law's switch and loop ===== -/
/-- what one turn asks: o the call, s1 .. s5 its words -/
def LStep (R : Room) (Z : Nat → Nat) (ax am ao : Nat) (o s1 s2 s3 s4 s5 : Int32) (J' : Hs → Nat → Nat → Prop) : Hs → Nat → Nat → Prop :=
  if o = 0 then StepA R (f_L_node Z (some ax) s1 (some ao)) (mo 15 (some am) (f_X12_node (some am) s1)) (mo 15 (some am) (f_X12_thrown (some am))) (aL (some ao) 0) Int32.toInt64 J' else
  if o = 1 then StepA R (f_L_block (some ax) s1 (bz s2) (some ao)) (mo 15 (some am) (f_X12_block (some am) s1 (bz s2))) (mo 15 (some am) (f_X12_thrown (some am))) (aL (some ao) 0) bzL J' else
  if o = 2 then StepA R (f_L_move Z (some ax) s1 s2 (some ao)) (mo 15 (some am) (f_X12_move (some am) s1 s2)) (mo 15 (some am) (f_X12_thrown (some am))) (aL (some ao) 0) Int32.toInt64 J' else
  if o = 3 then StepA R (f_L_machine Z (some ax) s1 (some ao)) (mo 15 (some am) (f_X12_machine (some am) s1)) (mo 15 (some am) (f_X12_thrown (some am))) (aL (some ao) 0) Int32.toInt64 J' else
  if o = 4 then StepA R (f_L_fact (some ax) s1 s2 s3 (some ao)) (mo 15 (some am) (f_X12_fact (some am) s1 s2 s3)) (mo 15 (some am) (f_X12_thrown (some am))) (aL (some ao) 0) Int32.toInt64 J' else
  if o = 5 then StepA R (f_L_group (some ax) (some ao)) (mo 15 (some am) (f_X12_group (some am))) (mo 15 (some am) (f_X12_thrown (some am))) (aL (some ao) 0) Int32.toInt64 J' else
  if o = 6 then StepA R (f_L_joins (some ax) s1 s2 (bz s3) (some ao)) (mo 15 (some am) (f_X12_joins (some am) s1 s2 (bz s3))) (mo 15 (some am) (f_X12_thrown (some am))) (aL (some ao) 0) bzL J' else
  if o = 7 then StepA R (f_L_within (some ax) s1 s2 (bz s3) (some ao)) (mo 15 (some am) (f_X12_within (some am) s1 s2 (bz s3))) (mo 15 (some am) (f_X12_thrown (some am))) (aL (some ao) 0) bzL J' else
  if o = 8 then StepA R (f_L_member (some ax) s1 s2 (some ao)) (mo 15 (some am) (f_X12_member (some am) s1 s2)) (mo 15 (some am) (f_X12_thrown (some am))) (aL (some ao) 0) bzL J' else
  if o = 9 then StepA R (f_L_set Z (some ax) (some ao)) (mo 15 (some am) (f_X12_set (some am))) (mo 15 (some am) (f_X12_thrown (some am))) (aL (some ao) 0) Int32.toInt64 J' else
  if o = 10 then StepA R (f_L_tell (some ax) s1 s2 s3 (some ao)) (mo 15 (some am) (f_X12_tell (some am) s1 s2 s3)) (mo 15 (some am) (f_X12_thrown (some am))) (aL (some ao) 0) bzL J' else
  if o = 11 then StepA R (f_L_untell (some ax) s1 s2 (some ao)) (mo 15 (some am) (f_X12_untell (some am) s1 s2)) (mo 15 (some am) (f_X12_thrown (some am))) (aL (some ao) 0) bzL J' else
  if o = 12 then StepA R (f_L_law (some ax) s1 s2 (some ao)) (mo 15 (some am) (f_X12_law (some am) s1 s2)) (mo 15 (some am) (f_X12_thrown (some am))) (aL (some ao) 0) Int32.toInt64 J' else
  if o = 13 then StepD R (mo 14 (some ax) (f_X11_feed (some ax) s1 s2 s3 s4 s5)) (mo 15 (some am) (f_X12_feed (some am) s1 s2 s3 s4 s5)) J' else
  if o = 14 then StepA R (f_L_link Z (some ax) s1 s2 s3 (bz s4) s5 (some ao)) (mo 15 (some am) (f_X12_link Z (some am) s1 s2 s3 (bz s4) s5)) (mo 15 (some am) (f_X12_thrown (some am))) (aL (some ao) 0) Int32.toInt64 J' else
  if o = 15 then StepD R (mo 14 (some ax) (f_X11_fault (some ax))) (mo 15 (some am) (f_X12_fault (some am))) J' else
  if o = 16 then StepA R (f_L_end (some ax) s1 (some ao)) (mo 15 (some am) (f_X12_end (some am) s1)) (mo 15 (some am) (f_X12_thrown (some am))) (aL (some ao) 0) bzL J' else
  if o = 17 then StepA R (f_L_outcome Z (some ax) s1 s2 (some ao)) (mo 15 (some am) (f_X12_outcome (some am) s1 s2)) (mo 15 (some am) (f_X12_thrown (some am))) (aL (some ao) 0) Int32.toInt64 J' else
  if o = 18 then StepA R (f_L_value Z (some ax) s1 s2 s3 (some ao)) (mo 15 (some am) (f_X12_value (some am) s1 s2 s3)) (mo 15 (some am) (f_X12_thrown (some am))) (aL (some ao) 0) Int32.toInt64 J' else
  if o = 19 then StepA R (f_L_reason Z (some ax) s1 s2 (some ao)) (mo 15 (some am) (f_X12_reason (some am) s1 s2)) (mo 15 (some am) (f_X12_thrown (some am))) (aL (some ao) 0) Int32.toInt64 J' else
  if o = 20 then StepA R (f_L_beaten Z (some ax) s1 s2 s3 (some ao)) (mo 15 (some am) (f_X12_beaten (some am) s1 s2 s3)) (mo 15 (some am) (f_X12_thrown (some am))) (aL (some ao) 0) Int32.toInt64 J' else
  if o = 21 then StepA R (f_L_sure Z (some ax) s1 s2 (some ao)) (mo 15 (some am) (f_X12_sure (some am) s1 s2)) (mo 15 (some am) (f_X12_thrown (some am))) (aL (some ao) 0) bzL J' else
  if o = 22 then StepA R (f_L_reach Z (some ax) s1 (some ao)) (mo 15 (some am) (f_X12_reach (some am) s1)) (mo 15 (some am) (f_X12_thrown (some am))) (aL (some ao) 0) Int32.toInt64 J' else
  if o = 23 then StepA R (f_L_reached Z (some ax) s1 s2 s3 (some ao)) (mo 15 (some am) (f_X12_reached (some am) s1 s2 s3)) (mo 15 (some am) (f_X12_thrown (some am))) (aL (some ao) 0) Int32.toInt64 J' else
  if o = 24 then StepD R (mo 14 (some ax) (f_X11_quarrels (some ax))) (mo 15 (some am) (f_X12_quarrels (some am))) J' else
  if o = 25 then StepA R (f_L_quarrel (some ax) s1 s2 (some ao)) (mo 15 (some am) (f_X12_quarrel (some am) s1 s2)) (mo 15 (some am) (f_X12_thrown (some am))) (aL (some ao) 0) Int32.toInt64 J' else
  if o = 26 then StepD R (mo 14 (some ax) (f_X11_count (some ax) s1)) (mo 15 (some am) (f_X12_count (some am) s1)) J' else
  J'
section LLP
variable {X : Cg} {nL : Nat} {Q : State → Prop} {pc : Nat} {lv : List (Nat × Value)} {st stk : List Value} {cc : ByteArray} {own : String} {Φ : Hs → Nat → Nat → Prop}
theorem sb_tin (cx : Cx X cc own nL) {dflt lo hi : Int} {offs : Array Int} {len : Nat} {x : Int32} {off : Int} {tgt : Nat} (hd : decode cc pc = .ok (.tableswitch dflt lo hi offs, len)) (h1 : ¬ x.toInt < lo) (h2 : ¬ hi < x.toInt) (ho : offs[(x.toInt - lo).toNat]? = some off) (ht : (pc : Int) + off = (tgt : Int)) (kk : SimB X nL Q tgt lv st Φ) : SimB X nL Q pc lv (.int x :: st) Φ := fun a b => sm_tin cx hd h1 h2 ho ht (kk a b)
theorem sb_tout (cx : Cx X cc own nL) {dflt lo hi : Int} {offs : Array Int} {len : Nat} {x : Int32} {tgt : Nat} (hd : decode cc pc = .ok (.tableswitch dflt lo hi offs, len)) (h1 : x.toInt < lo ∨ hi < x.toInt) (ht : (pc : Int) + dflt = (tgt : Int)) (kk : SimB X nL Q tgt lv st Φ) : SimB X nL Q pc lv (.int x :: st) Φ := fun a b => sm_tout cx hd h1 ht (kk a b)
end LLP
theorem dL_law__40 : decode cL_law_ 40 = .ok (.tableswitch 1956 0 26 #[124, 180, 271, 339, 395, 475, 519, 622, 725, 800, 844, 931, 1006, 1074, 1147, 1267, 1280, 1343, 1411, 1491, 1559, 1639, 1714, 1770, 1850, 1863, 1931], 124) := by decide +kernel
set_option maxRecDepth 100000 in
set_option maxHeartbeats 4000000 in
theorem law_sw {X : Cg} (cx : Cx X cL_law_ RL 7) (htr : (xL X).stackTraces = false) (hfr : 74 ≤ (xR X).frames) (hlo : 1500 ≤ (xR X).locals) {Q : State → Prop} {b L : Nat} {xs : Nat → Int32} (hX : va_X b L xs (xS X) (xS X).heap) (hbl : b < (xS X).heap.size) (hbA : ¬ xA X b) (ax am ao : Nat) (x4 : Int32) (o : Int32) (s1 : Int32) (e1 : xs (x4 + 1).toNatClampNeg = s1) (i1 : vp_in (x4 + 1) L) (s2 : Int32) (e2 : xs (x4 + 2).toNatClampNeg = s2) (i2 : vp_in (x4 + 2) L) (s3 : Int32) (e3 : xs (x4 + 3).toNatClampNeg = s3) (i3 : vp_in (x4 + 3) L) (s4 : Int32) (e4 : xs (x4 + 4).toNatClampNeg = s4) (i4 : vp_in (x4 + 4) L) (s5 : Int32) (e5 : xs (x4 + 5).toNatClampNeg = s5) (i5 : vp_in (x4 + 5) L) {J' : Hs → Nat → Nat → Prop} (hex : SimB X 7 Q 1996 [(0, va_rf (some b)), (1, va_rf (some ax)), (2, va_rf (some am)), (3, va_rf (some ao)), (4, .int x4)] [] J') : SimB X 7 Q 40 [(0, va_rf (some b)), (1, va_rf (some ax)), (2, va_rf (some am)), (3, va_rf (some ao)), (4, .int x4)] [.int o] (LStep (xR X) (xZ X) ax am ao o s1 s2 s3 s4 s5 J') := by
  unfold LStep
  by_cases c0 : o = 0
  · subst c0
    rw [if_pos rfl]
    exact sb_tin (tgt := 164) cx dL_law__40 (by decide) (by decide) rfl (by decide) (lc_0 cx htr hfr hlo hX hbl hbA ax am ao x4 s1 e1 i1 hex)
  rw [if_neg c0]
  by_cases c1 : o = 1
  · subst c1
    rw [if_pos rfl]
    exact sb_tin (tgt := 220) cx dL_law__40 (by decide) (by decide) rfl (by decide) (lc_1 cx htr hfr hlo hX hbl hbA ax am ao x4 s1 e1 i1 s2 e2 i2 hex)
  rw [if_neg c1]
  by_cases c2 : o = 2
  · subst c2
    rw [if_pos rfl]
    exact sb_tin (tgt := 311) cx dL_law__40 (by decide) (by decide) rfl (by decide) (lc_2 cx htr hfr hlo hX hbl hbA ax am ao x4 s1 e1 i1 s2 e2 i2 hex)
  rw [if_neg c2]
  by_cases c3 : o = 3
  · subst c3
    rw [if_pos rfl]
    exact sb_tin (tgt := 379) cx dL_law__40 (by decide) (by decide) rfl (by decide) (lc_3 cx htr hfr hlo hX hbl hbA ax am ao x4 s1 e1 i1 hex)
  rw [if_neg c3]
  by_cases c4 : o = 4
  · subst c4
    rw [if_pos rfl]
    exact sb_tin (tgt := 435) cx dL_law__40 (by decide) (by decide) rfl (by decide) (lc_4 cx htr hfr hlo hX hbl hbA ax am ao x4 s1 e1 i1 s2 e2 i2 s3 e3 i3 hex)
  rw [if_neg c4]
  by_cases c5 : o = 5
  · subst c5
    rw [if_pos rfl]
    exact sb_tin (tgt := 515) cx dL_law__40 (by decide) (by decide) rfl (by decide) (lc_5 cx htr hfr hlo hX hbl hbA ax am ao x4  hex)
  rw [if_neg c5]
  by_cases c6 : o = 6
  · subst c6
    rw [if_pos rfl]
    exact sb_tin (tgt := 559) cx dL_law__40 (by decide) (by decide) rfl (by decide) (lc_6 cx htr hfr hlo hX hbl hbA ax am ao x4 s1 e1 i1 s2 e2 i2 s3 e3 i3 hex)
  rw [if_neg c6]
  by_cases c7 : o = 7
  · subst c7
    rw [if_pos rfl]
    exact sb_tin (tgt := 662) cx dL_law__40 (by decide) (by decide) rfl (by decide) (lc_7 cx htr hfr hlo hX hbl hbA ax am ao x4 s1 e1 i1 s2 e2 i2 s3 e3 i3 hex)
  rw [if_neg c7]
  by_cases c8 : o = 8
  · subst c8
    rw [if_pos rfl]
    exact sb_tin (tgt := 765) cx dL_law__40 (by decide) (by decide) rfl (by decide) (lc_8 cx htr hfr hlo hX hbl hbA ax am ao x4 s1 e1 i1 s2 e2 i2 hex)
  rw [if_neg c8]
  by_cases c9 : o = 9
  · subst c9
    rw [if_pos rfl]
    exact sb_tin (tgt := 840) cx dL_law__40 (by decide) (by decide) rfl (by decide) (lc_9 cx htr hfr hlo hX hbl hbA ax am ao x4  hex)
  rw [if_neg c9]
  by_cases c10 : o = 10
  · subst c10
    rw [if_pos rfl]
    exact sb_tin (tgt := 884) cx dL_law__40 (by decide) (by decide) rfl (by decide) (lc_10 cx htr hfr hlo hX hbl hbA ax am ao x4 s1 e1 i1 s2 e2 i2 s3 e3 i3 hex)
  rw [if_neg c10]
  by_cases c11 : o = 11
  · subst c11
    rw [if_pos rfl]
    exact sb_tin (tgt := 971) cx dL_law__40 (by decide) (by decide) rfl (by decide) (lc_11 cx htr hfr hlo hX hbl hbA ax am ao x4 s1 e1 i1 s2 e2 i2 hex)
  rw [if_neg c11]
  by_cases c12 : o = 12
  · subst c12
    rw [if_pos rfl]
    exact sb_tin (tgt := 1046) cx dL_law__40 (by decide) (by decide) rfl (by decide) (lc_12 cx htr hfr hlo hX hbl hbA ax am ao x4 s1 e1 i1 s2 e2 i2 hex)
  rw [if_neg c12]
  by_cases c13 : o = 13
  · subst c13
    rw [if_pos rfl]
    exact sb_tin (tgt := 1114) cx dL_law__40 (by decide) (by decide) rfl (by decide) (lc_13 cx htr hfr hlo hX hbl hbA ax am ao x4 s1 e1 i1 s2 e2 i2 s3 e3 i3 s4 e4 i4 s5 e5 i5 hex)
  rw [if_neg c13]
  by_cases c14 : o = 14
  · subst c14
    rw [if_pos rfl]
    exact sb_tin (tgt := 1187) cx dL_law__40 (by decide) (by decide) rfl (by decide) (lc_14 cx htr hfr hlo hX hbl hbA ax am ao x4 s1 e1 i1 s2 e2 i2 s3 e3 i3 s4 e4 i4 s5 e5 i5 hex)
  rw [if_neg c14]
  by_cases c15 : o = 15
  · subst c15
    rw [if_pos rfl]
    exact sb_tin (tgt := 1307) cx dL_law__40 (by decide) (by decide) rfl (by decide) (lc_15 cx htr hfr hlo hX hbl hbA ax am ao x4  hex)
  rw [if_neg c15]
  by_cases c16 : o = 16
  · subst c16
    rw [if_pos rfl]
    exact sb_tin (tgt := 1320) cx dL_law__40 (by decide) (by decide) rfl (by decide) (lc_16 cx htr hfr hlo hX hbl hbA ax am ao x4 s1 e1 i1 hex)
  rw [if_neg c16]
  by_cases c17 : o = 17
  · subst c17
    rw [if_pos rfl]
    exact sb_tin (tgt := 1383) cx dL_law__40 (by decide) (by decide) rfl (by decide) (lc_17 cx htr hfr hlo hX hbl hbA ax am ao x4 s1 e1 i1 s2 e2 i2 hex)
  rw [if_neg c17]
  by_cases c18 : o = 18
  · subst c18
    rw [if_pos rfl]
    exact sb_tin (tgt := 1451) cx dL_law__40 (by decide) (by decide) rfl (by decide) (lc_18 cx htr hfr hlo hX hbl hbA ax am ao x4 s1 e1 i1 s2 e2 i2 s3 e3 i3 hex)
  rw [if_neg c18]
  by_cases c19 : o = 19
  · subst c19
    rw [if_pos rfl]
    exact sb_tin (tgt := 1531) cx dL_law__40 (by decide) (by decide) rfl (by decide) (lc_19 cx htr hfr hlo hX hbl hbA ax am ao x4 s1 e1 i1 s2 e2 i2 hex)
  rw [if_neg c19]
  by_cases c20 : o = 20
  · subst c20
    rw [if_pos rfl]
    exact sb_tin (tgt := 1599) cx dL_law__40 (by decide) (by decide) rfl (by decide) (lc_20 cx htr hfr hlo hX hbl hbA ax am ao x4 s1 e1 i1 s2 e2 i2 s3 e3 i3 hex)
  rw [if_neg c20]
  by_cases c21 : o = 21
  · subst c21
    rw [if_pos rfl]
    exact sb_tin (tgt := 1679) cx dL_law__40 (by decide) (by decide) rfl (by decide) (lc_21 cx htr hfr hlo hX hbl hbA ax am ao x4 s1 e1 i1 s2 e2 i2 hex)
  rw [if_neg c21]
  by_cases c22 : o = 22
  · subst c22
    rw [if_pos rfl]
    exact sb_tin (tgt := 1754) cx dL_law__40 (by decide) (by decide) rfl (by decide) (lc_22 cx htr hfr hlo hX hbl hbA ax am ao x4 s1 e1 i1 hex)
  rw [if_neg c22]
  by_cases c23 : o = 23
  · subst c23
    rw [if_pos rfl]
    exact sb_tin (tgt := 1810) cx dL_law__40 (by decide) (by decide) rfl (by decide) (lc_23 cx htr hfr hlo hX hbl hbA ax am ao x4 s1 e1 i1 s2 e2 i2 s3 e3 i3 hex)
  rw [if_neg c23]
  by_cases c24 : o = 24
  · subst c24
    rw [if_pos rfl]
    exact sb_tin (tgt := 1890) cx dL_law__40 (by decide) (by decide) rfl (by decide) (lc_24 cx htr hfr hlo hX hbl hbA ax am ao x4  hex)
  rw [if_neg c24]
  by_cases c25 : o = 25
  · subst c25
    rw [if_pos rfl]
    exact sb_tin (tgt := 1903) cx dL_law__40 (by decide) (by decide) rfl (by decide) (lc_25 cx htr hfr hlo hX hbl hbA ax am ao x4 s1 e1 i1 s2 e2 i2 hex)
  rw [if_neg c25]
  by_cases c26 : o = 26
  · subst c26
    rw [if_pos rfl]
    exact sb_tin (tgt := 1971) cx dL_law__40 (by decide) (by decide) rfl (by decide) (lc_26 cx htr hfr hlo hX hbl hbA ax am ao x4 s1 e1 i1 hex)
  rw [if_neg c26]
  refine sb_tout (tgt := 1996) cx dL_law__40 ?_ (by decide) hex
  have key : ∀ n : Int32, ∀ m : Int, n.toInt = m → ¬ o = n → o.toInt ≠ m := fun n m e hne he => hne (Int32.toInt_inj.mp (he.trans e.symm))
  have g0 := key 0 0 (by decide) c0
  have g1 := key 1 1 (by decide) c1
  have g2 := key 2 2 (by decide) c2
  have g3 := key 3 3 (by decide) c3
  have g4 := key 4 4 (by decide) c4
  have g5 := key 5 5 (by decide) c5
  have g6 := key 6 6 (by decide) c6
  have g7 := key 7 7 (by decide) c7
  have g8 := key 8 8 (by decide) c8
  have g9 := key 9 9 (by decide) c9
  have g10 := key 10 10 (by decide) c10
  have g11 := key 11 11 (by decide) c11
  have g12 := key 12 12 (by decide) c12
  have g13 := key 13 13 (by decide) c13
  have g14 := key 14 14 (by decide) c14
  have g15 := key 15 15 (by decide) c15
  have g16 := key 16 16 (by decide) c16
  have g17 := key 17 17 (by decide) c17
  have g18 := key 18 18 (by decide) c18
  have g19 := key 19 19 (by decide) c19
  have g20 := key 20 20 (by decide) c20
  have g21 := key 21 21 (by decide) c21
  have g22 := key 22 22 (by decide) c22
  have g23 := key 23 23 (by decide) c23
  have g24 := key 24 24 (by decide) c24
  have g25 := key 25 25 (by decide) c25
  have g26 := key 26 26 (by decide) c26
  omega
theorem dL_law__23 : decode cL_law_ 23 = .ok (.iload 4, 2) := by decide +kernel
theorem dL_law__25 : decode cL_law_ 25 = .ok (.aload_n 0, 1) := by decide +kernel
theorem dL_law__26 : decode cL_law_ 26 = .ok (.arraylength, 1) := by decide +kernel
theorem dL_law__27 : decode cL_law_ 27 = .ok (.bipush 6, 2) := by decide +kernel
theorem dL_law__29 : decode cL_law_ 29 = .ok (.isub, 1) := by decide +kernel
theorem dL_law__30 : decode cL_law_ 30 = .ok (.if_icmp .gt 1972, 3) := by decide +kernel
theorem dL_law__33 : decode cL_law_ 33 = .ok (.aload_n 0, 1) := by decide +kernel
theorem dL_law__34 : decode cL_law_ 34 = .ok (.iload 4, 2) := by decide +kernel
theorem dL_law__36 : decode cL_law_ 36 = .ok (.iaload, 1) := by decide +kernel
theorem dL_law__37 : decode cL_law_ 37 = .ok (.bipush 31, 2) := by decide +kernel
theorem dL_law__39 : decode cL_law_ 39 = .ok (.iand, 1) := by decide +kernel
theorem dL_law__1996 : decode cL_law_ 1996 = .ok (.iinc 4 6, 3) := by decide +kernel
theorem dL_law__1999 : decode cL_law_ 1999 = .ok (.goto (-1976), 3) := by decide +kernel
theorem dL_law__2002 : decode cL_law_ 2002 = .ok (.iconst 1, 1) := by decide +kernel
theorem ix_add (k c : Nat) : Int32.ofNat k + Int32.ofNat c = Int32.ofNat (k + c) := by rw [Int32.ofNat_add]
theorem ix_in {k L : Nat} (h : k < L) (hL : L ≤ 3072) : vp_in (Int32.ofNat k) L ∧ (Int32.ofNat k).toNatClampNeg = k := by
  have e : (Int32.ofNat k).toInt = k := Int32.toInt_ofNat_of_lt (by omega)
  have e2 : (Int32.ofNat k).toNatClampNeg = k := by
    show (Int32.ofNat k).toInt.toNat = k
    rw [e]; rfl
  refine ⟨?_, e2⟩
  unfold vp_in
  rw [e2]
  rintro (h0 | h0)
  · have := Int32.lt_iff_toInt_lt.mp h0
    rw [e] at this
    have e3 : (0 : Int32).toInt = 0 := rfl
    omega
  · omega
theorem ix_gt {k L : Nat} (hk : k ≤ 3080) (hL : L ≤ 3072) : Int32.ofNat L - 6 < Int32.ofNat k ↔ L < k + 6 := by
  have e : (Int32.ofNat k).toInt = k := Int32.toInt_ofNat_of_lt (by omega)
  have e1 : (Int32.ofNat L).toInt = L := Int32.toInt_ofNat_of_lt (by omega)
  have e3 : (6 : Int32).toInt = 6 := rfl
  rw [Int32.lt_iff_toInt_lt, Int32.toInt_sub, e, e1, e3, Int.bmod_eq_of_le (by omega) (by omega)]
  omega
set_option maxRecDepth 100000 in
set_option maxHeartbeats 4000000 in
theorem law_loop {X : Cg} (cx : Cx X cL_law_ RL 7) (htr : (xL X).stackTraces = false) (hfr : 74 ≤ (xR X).frames) (hlo : 1500 ≤ (xR X).locals) {Q : State → Prop} {b L : Nat} {xs : Nat → Int32} (hX : va_X b L xs (xS X) (xS X).heap) (hbl : b < (xS X).heap.size) (hbA : ¬ xA X b) (ax am ao : Nat) (hL : L ≤ 3072) {J : Nat → Hs → Nat → Nat → Prop} (hJ : ∀ k, 6 * k + 6 ≤ L → ∀ h c n, J k h c n → LStep (xR X) (xZ X) ax am ao (xs (6 * k) &&& 31) (xs (6 * k + 1)) (xs (6 * k + 2)) (xs (6 * k + 3)) (xs (6 * k + 4)) (xs (6 * k + 5)) (J (k + 1)) h c n) (hend : ∀ lv k, SimB X 7 Q 2002 lv [] (J k)) : ∀ d k, L < 6 * k + 6 + 6 * d → 6 * k ≤ L → SimB X 7 Q 23 [(0, va_rf (some b)), (1, va_rf (some ax)), (2, va_rf (some am)), (3, va_rf (some ao)), (4, .int (Int32.ofNat (6 * k)))] [] (J k) := by
  intro d
  induction d with
  | zero => ?_
  | succ d ih => ?_
  all_goals
    intro k hd hk
    refine sb_ofb (fun a9 b9 => ?_)
    refine sm_iload cx 4 dL_law__23 rfl ?_
    refine sm_aload_n cx 0 dL_law__25 rfl rfl ?_
    refine sm_slen cx hX hbl hbA dL_law__26 ?_
    refine sm_bipush (v := 6) cx dL_law__27 (by decide) ?_
    refine sm_isub cx dL_law__29 ?_
    refine sb_gob ?_ a9 b9
    refine sb_icmp_gt (tgt := 2002) cx dL_law__30 (by decide) (fun _ => hend _ k) (fun hg => ?_)
    rw [ix_gt (by omega) hL] at hg
  · omega
  have i0 := ix_in (k := 6 * k) (L := L) (by omega) hL
  have i1 := ix_in (k := 6 * k + 1) (L := L) (by omega) hL
  have i2 := ix_in (k := 6 * k + 2) (L := L) (by omega) hL
  have i3 := ix_in (k := 6 * k + 3) (L := L) (by omega) hL
  have i4 := ix_in (k := 6 * k + 4) (L := L) (by omega) hL
  have i5 := ix_in (k := 6 * k + 5) (L := L) (by omega) hL
  refine sb_ofb (fun a9 b9 => ?_)
  refine sm_aload_n cx 0 dL_law__33 rfl rfl ?_
  refine sm_iload cx 4 dL_law__34 rfl ?_
  refine sm_sldE cx hX hbl hbA i0.1 (by rw [i0.2]) dL_law__36 ?_
  refine sm_bipush (v := 31) cx dL_law__37 (by decide) ?_
  refine sm_iand cx dL_law__39 ?_
  refine sb_gob ?_ a9 b9
  refine sb_imp (hJ k (by omega)) ?_
  have q1 : Int32.ofNat (6 * k) + 1 = Int32.ofNat (6 * k + 1) := ix_add (6 * k) 1
  have q2 : Int32.ofNat (6 * k) + 2 = Int32.ofNat (6 * k + 2) := ix_add (6 * k) 2
  have q3 : Int32.ofNat (6 * k) + 3 = Int32.ofNat (6 * k + 3) := ix_add (6 * k) 3
  have q4 : Int32.ofNat (6 * k) + 4 = Int32.ofNat (6 * k + 4) := ix_add (6 * k) 4
  have q5 : Int32.ofNat (6 * k) + 5 = Int32.ofNat (6 * k + 5) := ix_add (6 * k) 5
  have q6 : Int32.ofNat (6 * k) + 6 = Int32.ofNat (6 * (k + 1)) := ix_add (6 * k) 6
  refine law_sw cx htr hfr hlo hX hbl hbA ax am ao (Int32.ofNat (6 * k)) _ _ (by rw [q1, i1.2]) (by rw [q1]; exact i1.1) _ (by rw [q2, i2.2]) (by rw [q2]; exact i2.1) _ (by rw [q3, i3.2]) (by rw [q3]; exact i3.1) _ (by rw [q4, i4.2]) (by rw [q4]; exact i4.1) _ (by rw [q5, i5.2]) (by rw [q5]; exact i5.1) ?_
  refine sb_ofb (fun a9 b9 => ?_)
  refine sm_iinc (v := Int32.ofNat (6 * (k + 1))) cx 4 [(4, .int (Int32.ofNat (6 * (k + 1)))), (0, va_rf (some b)), (1, va_rf (some ax)), (2, va_rf (some am)), (3, va_rf (some ao))] dL_law__1996 rfl q6 (by decide) rfl (nc1 (rf_cat _)) rfl ?_
  refine sm_goto (tgt := 23) cx dL_law__1999 (by decide) ?_
  refine sb_gob ?_ a9 b9
  exact sb_lv [1, 2, 3, 4, 0] rfl (ih (k + 1) (by omega) (by omega))
