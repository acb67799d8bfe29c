theorem inT_X2 : ∀ w ∈ u_ws RX2 TX2 9, w ∈ TB := by
  intro w h
  obtain ⟨k, hk, rfl⟩ := List.mem_map.mp h
  have hk := List.mem_range.mp hk
  match k, hk with
  | 0, _ => exact wd_1_116
  | 1, _ => exact wd_1_118
  | 2, _ => exact wd_1_120
  | 3, _ => exact wd_1_122
  | 4, _ => exact wd_1_124
  | 5, _ => exact wd_1_126
  | 6, _ => exact wd_1_128
  | 7, _ => exact wd_1_130
  | 8, _ => exact wd_1_132
  | k + 9, hk => exact absurd hk (by omega)
theorem fl_X2_11 : FldOk RX2 11 5 7 (.array .int) true true := ⟨RX2, TX2, 9, "PolicyTree$FilterReader", tyX2, rfl, by decide, inT_X2, tyX2_ok, nmX2, wd_1_114, Or.inl rfl, tyX2_ok 7 (by decide), rfl, fun _ => rfl⟩
theorem fl_X2_17 : FldOk RX2 17 5 0 (.object "PolicyTree$Tape") true true := ⟨RX2, TX2, 9, "PolicyTree$FilterReader", tyX2, rfl, by decide, inT_X2, tyX2_ok, nmX2, wd_1_107, Or.inl rfl, tyX2_ok 0 (by decide), rfl, fun _ => rfl⟩
theorem fl_X2_37 : FldOk RX2 37 5 6 .int false true := ⟨RX2, TX2, 9, "PolicyTree$FilterReader", tyX2, rfl, by decide, inT_X2, tyX2_ok, nmX2, wd_1_113, Or.inl rfl, tyX2_ok 6 (by decide), rfl, fun _ => rfl⟩
theorem fl_X2_40 : FldOk RX2 40 5 8 .int false true := ⟨RX2, TX2, 9, "PolicyTree$FilterReader", tyX2, rfl, by decide, inT_X2, tyX2_ok, nmX2, wd_1_115, Or.inl rfl, tyX2_ok 8 (by decide), rfl, fun _ => rfl⟩
theorem fl_X2_31 : FldOk RX2 31 5 4 .int false true := ⟨RX2, TX2, 9, "PolicyTree$FilterReader", tyX2, rfl, by decide, inT_X2, tyX2_ok, nmX2, wd_1_111, Or.inl rfl, tyX2_ok 4 (by decide), rfl, fun _ => rfl⟩
theorem fl_X2_21 : FldOk RX2 21 5 1 .int false true := ⟨RX2, TX2, 9, "PolicyTree$FilterReader", tyX2, rfl, by decide, inT_X2, tyX2_ok, nmX2, wd_1_108, Or.inl rfl, tyX2_ok 1 (by decide), rfl, fun _ => rfl⟩
theorem fl_X2_34 : FldOk RX2 34 5 5 .int false true := ⟨RX2, TX2, 9, "PolicyTree$FilterReader", tyX2, rfl, by decide, inT_X2, tyX2_ok, nmX2, wd_1_112, Or.inl rfl, tyX2_ok 5 (by decide), rfl, fun _ => rfl⟩
theorem fl_X2_28 : FldOk RX2 28 5 3 .int false true := ⟨RX2, TX2, 9, "PolicyTree$FilterReader", tyX2, rfl, by decide, inT_X2, tyX2_ok, nmX2, wd_1_110, Or.inl rfl, tyX2_ok 3 (by decide), rfl, fun _ => rfl⟩
theorem fl_X2_25 : FldOk RX2 25 5 2 .int false true := ⟨RX2, TX2, 9, "PolicyTree$FilterReader", tyX2, rfl, by decide, inT_X2, tyX2_ok, nmX2, wd_1_109, Or.inl rfl, tyX2_ok 2 (by decide), rfl, fun _ => rfl⟩
theorem nw_X2_54 : NewOk RX2 54 4 [.null] := ⟨RX1, TX1, tyX1, rfl, inT_X1, tyX1_ok, wd_4_199, wd_4_200, wd_1_31, fun j hj => by
  match j, hj with
  | 0, _ => rfl
  | j + 1, hj => exact absurd hj (by simp only [List.length_cons, List.length_nil]; omega)⟩
theorem cs_X2_62 : CalS RX2 62 yJ7_copyOf_59c91 cJ7_copyOf_59c91 3 (some (.array .int)) 2 := ⟨wd_S wd_4_202 wd_4_203 wd_1_14 wd_4_204, by decide +kernel, by decide +kernel, by decide +kernel⟩
theorem ci_X2_68 : CalI RX2 68 yX1_init cX1_init 2 1 := ⟨⟨wd_1_31, wd_4_213, wd_4_214⟩, Or.inl wd_4_212, rfl, by decide +kernel, by decide +kernel, by decide +kernel⟩
theorem cv_X2_107 : CalV RX2 107 RX10 yX10_byteAt cX10_byteAt 2 (some .int) 1 := ⟨wd_V wd_4_90 wd_4_91 wd_4_92 wd_1_6 wd_4_93, rfl, by decide +kernel, by decide +kernel, by decide +kernel⟩
theorem cv_X2_118 : CalV RX2 118 RJ0 yJ0_length_8abf5 cJ0_length_8abf5 1 (some .int) 0 := ⟨wd_V wd_4_126 wd_4_127 wd_4_128 wd_1_27 wd_4_129, rfl, by decide +kernel, by decide +kernel, by decide +kernel⟩
theorem cv_X2_123 : CalV RX2 123 RJ0 yJ0_charAt_5068e cJ0_charAt_5068e 2 (some .char) 1 := ⟨wd_V wd_4_136 wd_4_137 wd_4_138 wd_1_27 wd_4_139, rfl, by decide +kernel, by decide +kernel, by decide +kernel⟩
theorem cs_X2_111 : CalS RX2 111 yX2_isBetween cX2_isBetween 3 (some .boolean) 3 := ⟨wd_S wd_4_123 wd_4_124 wd_1_7 wd_4_125, by decide +kernel, by decide +kernel, by decide +kernel⟩
theorem cv_X2_43 : CalV RX2 43 RX2 yX2_skipBlanks cX2_skipBlanks 1 none 0 := ⟨wd_V wd_4_86 wd_4_88 wp_1_13 wd_1_7 wd_4_89, rfl, by decide +kernel, by decide +kernel, by decide +kernel⟩
theorem cv_X2_50 : CalV RX2 50 RX2 yX2_blame cX2_blame 3 none 2 := ⟨wd_V wd_4_114 wd_4_116 wp_2_3 wd_1_7 wd_4_117, rfl, by decide +kernel, by decide +kernel, by decide +kernel⟩
theorem cv_X2_80 : CalV RX2 80 RX2 yX2_addStep cX2_addStep 3 none 2 := ⟨wd_V wd_4_172 wd_4_174 wp_2_5 wd_1_7 wd_4_175, rfl, by decide +kernel, by decide +kernel, by decide +kernel⟩
theorem cv_X2_88 : CalV RX2 88 RX2 yX2_takesByte cX2_takesByte 2 (some .boolean) 1 := ⟨wd_V wd_4_106 wd_4_108 wp_2_1 wd_1_7 wd_4_109, rfl, by decide +kernel, by decide +kernel, by decide +kernel⟩
theorem cv_X2_76 : CalV RX2 76 RX2 yX2_takesWord cX2_takesWord 4 (some .boolean) 1 := ⟨wd_V wd_4_119 wd_4_121 wp_2_4 wd_1_7 wd_4_122, rfl, by decide +kernel, by decide +kernel, by decide +kernel⟩
theorem cv_X2_100 : CalV RX2 100 RX2 yX2_readNumber cX2_readNumber 5 none 2 := ⟨wd_V wd_4_177 wd_4_179 wp_2_6 wd_1_7 wd_4_180, rfl, by decide +kernel, by decide +kernel, by decide +kernel⟩
theorem cv_X2_92 : CalV RX2 92 RX2 yX2_mayOpen cX2_mayOpen 3 (some .boolean) 2 := ⟨wd_V wd_4_110 wd_4_112 wp_2_2 wd_1_7 wd_4_113, rfl, by decide +kernel, by decide +kernel, by decide +kernel⟩
theorem cv_X2_83 : CalV RX2 83 RX2 yX2_readOne cX2_readOne 3 none 1 := ⟨wd_V wd_4_102 wd_4_104 wp_2_0 wd_1_7 wd_4_105, rfl, by decide +kernel, by decide +kernel, by decide +kernel⟩
theorem cv_X2_46 : CalV RX2 46 RX2 yX2_readEither cX2_readEither 3 none 1 := ⟨wd_V wd_4_94 wd_4_96 wp_1_14 wd_1_7 wd_4_97, rfl, by decide +kernel, by decide +kernel, by decide +kernel⟩
theorem cv_X2_71 : CalV RX2 71 RX2 yX2_readBoth cX2_readBoth 3 none 1 := ⟨wd_V wd_4_98 wd_4_100 wp_1_15 wd_1_7 wd_4_101, rfl, by decide +kernel, by decide +kernel, by decide +kernel⟩
/-! PolicyTree$FilterReader.<init>(LPolicyTree$Tape;)V -/
theorem dX2_init_0 : decode cX2_init 0 = .ok (.aload_n 0, 1) := by decide +kernel
theorem dX2_init_1 : decode cX2_init 1 = .ok (.invokespecial 3, 3) := by decide +kernel
theorem dX2_init_4 : decode cX2_init 4 = .ok (.aload_n 0, 1) := by decide +kernel
theorem dX2_init_5 : decode cX2_init 5 = .ok (.sipush 200, 3) := by decide +kernel
theorem dX2_init_8 : decode cX2_init 8 = .ok (.newarray .int, 2) := by decide +kernel
theorem dX2_init_10 : decode cX2_init 10 = .ok (.putfield 11, 3) := by decide +kernel
theorem dX2_init_13 : decode cX2_init 13 = .ok (.aload_n 0, 1) := by decide +kernel
theorem dX2_init_14 : decode cX2_init 14 = .ok (.aload_n 1, 1) := by decide +kernel
theorem dX2_init_15 : decode cX2_init 15 = .ok (.putfield 17, 3) := by decide +kernel
theorem dX2_init_18 : decode cX2_init 18 = .ok (.return_, 1) := by decide +kernel
def f_X2_init (r0 : Option Nat) (r1 : Option Nat) : Mo Unit := mb (mo 5 r0 (mp ())) (fun _ => mb (nA 1 (200 : Int32)) (fun v8 => mb (pV 5 7 r0 (va_rf v8)) (fun _ => mb (pV 5 0 r0 (va_rf r1)) (fun _ => mp ()))))
set_option maxRecDepth 100000 in
set_option maxHeartbeats 4000000 in
theorem s_X2_init {X : Cg} (cx : Cx X cX2_init RX2 2) (hfr : 1 ≤ (xR X).frames) (hlo : 12 ≤ (xR X).locals) (hr : (xM X).sig.returnType = none) (hin : (xM X).name = "<init>") (r0 : Option Nat) (r1 : Option Nat) : Sim X 2 (FiM X vV) 0 [(0, va_rf r0), (1, va_rf r1)] [] (f_X2_init r0 r1) := by
  unfold f_X2_init
  refine sm_aload_n cx 0 dX2_init_0 rfl rfl ?_
  refine sm_obj (ci := 5) cx wd_1_106 wd_1_41 wd_1_42 (Nat.le_trans (by decide) hfr) (Nat.le_trans (by decide) hlo) dX2_init_1 rfl ?_
  refine sm_aload_n cx 0 dX2_init_4 rfl rfl ?_
  refine sm_sipush (v := 200) cx dX2_init_5 (by decide) ?_
  refine sm_newa1 cx dX2_init_8 (fun v8 => ?_)
  refine sm_putF cx hin fl_X2_11 (nr_ra _) (ft_ra _) dX2_init_10 ?_
  refine sm_aload_n cx 0 dX2_init_13 rfl rfl ?_
  refine sm_aload_n cx 1 dX2_init_14 rfl rfl ?_
  refine sm_putF cx hin fl_X2_17 (nr_rf _) (ft_rf _) dX2_init_15 ?_
  exact sm_vret cx hr dX2_init_18
set_option maxRecDepth 100000 in
set_option maxHeartbeats 4000000 in
theorem ct_X2_init (Z : Nat → Nat) {r0 : Option Nat} (a0 : Nat) (h0 : r0 = some a0) (r1 : Option Nat) : Ct yX2_init cX2_init 2 none 1 12 Z [.ref a0, va_rf r1] vV (f_X2_init r0 r1) := by
  subst h0
  refine ct_of (lv0 := [(0, va_rf (some a0)), (1, va_rf r1)]) (by decide +kernel) (by simp [lg_sl, ct_i, ct_l, ct_r, rf_cat]) (by show _ = ([(0, Value.ref a0), (1, va_rf r1)] : List (Nat × Value)); simp [lv_args, ct_i, ct_l, ct_r, rf_cat]) (fun X cx hZ hfr hlo hr hin => ?_)
  subst hZ
  exact s_X2_init cx (Nat.le_of_eq hfr.symm) (Nat.le_of_eq hlo.symm) hr hin (some a0) r1
/-! PolicyTree$FilterReader.faultPlace()I -/
theorem dX2_faultPlace_0 : decode cX2_faultPlace 0 = .ok (.aload_n 0, 1) := by decide +kernel
theorem dX2_faultPlace_1 : decode cX2_faultPlace 1 = .ok (.getfield 37, 3) := by decide +kernel
theorem dX2_faultPlace_4 : decode cX2_faultPlace 4 = .ok (.ireturn, 1) := by decide +kernel
def f_X2_faultPlace (r0 : Option Nat) : Mo Int32 := mb (gI 5 6 r0) (fun v1 => mp v1)
set_option maxRecDepth 100000 in
set_option maxHeartbeats 4000000 in
theorem s_X2_faultPlace {X : Cg} (cx : Cx X cX2_faultPlace RX2 1) (hfr : 0 ≤ (xR X).frames) (hlo : 0 ≤ (xR X).locals) (hr : (xM X).sig.returnType = (some .int)) (r0 : Option Nat) : Sim X 1 (FiM X vI) 0 [(0, va_rf r0)] [] (f_X2_faultPlace r0) := by
  unfold f_X2_faultPlace
  refine sm_aload_n cx 0 dX2_faultPlace_0 rfl rfl ?_
  refine sm_getI cx fl_X2_37 dX2_faultPlace_1 (fun v1 => ?_)
  exact sm_iret cx hr dX2_faultPlace_4
set_option maxRecDepth 100000 in
set_option maxHeartbeats 4000000 in
theorem ct_X2_faultPlace (Z : Nat → Nat) {r0 : Option Nat} (a0 : Nat) (h0 : r0 = some a0) : Ct yX2_faultPlace cX2_faultPlace 1 (some .int) 0 0 Z [.ref a0] vI (f_X2_faultPlace r0) := by
  subst h0
  refine ct_of (lv0 := [(0, va_rf (some a0))]) (by decide +kernel) (by simp [lg_sl, ct_i, ct_l, ct_r, rf_cat]) (by show _ = ([(0, Value.ref a0)] : List (Nat × Value)); simp [lv_args, ct_i, ct_l, ct_r, rf_cat]) (fun X cx hZ hfr hlo hr hin => ?_)
  subst hZ
  exact s_X2_faultPlace cx (Nat.le_of_eq hfr.symm) (Nat.le_of_eq hlo.symm) hr (some a0)
/-! PolicyTree$FilterReader.filter()LPolicyTree$Filter; -/
theorem dX2_filter_0 : decode cX2_filter 0 = .ok (.new 54, 3) := by decide +kernel
theorem dX2_filter_3 : decode cX2_filter 3 = .ok (.dup, 1) := by decide +kernel
theorem dX2_filter_4 : decode cX2_filter 4 = .ok (.aload_n 0, 1) := by decide +kernel
theorem dX2_filter_5 : decode cX2_filter 5 = .ok (.getfield 11, 3) := by decide +kernel
theorem dX2_filter_8 : decode cX2_filter 8 = .ok (.aload_n 0, 1) := by decide +kernel
theorem dX2_filter_9 : decode cX2_filter 9 = .ok (.getfield 40, 3) := by decide +kernel
theorem dX2_filter_12 : decode cX2_filter 12 = .ok (.iconst 0, 1) := by decide +kernel
theorem dX2_filter_13 : decode cX2_filter 13 = .ok (.invokestatic 56, 3) := by decide +kernel
theorem dX2_filter_16 : decode cX2_filter 16 = .ok (.invokestatic 62, 3) := by decide +kernel
theorem dX2_filter_19 : decode cX2_filter 19 = .ok (.invokespecial 68, 3) := by decide +kernel
theorem dX2_filter_22 : decode cX2_filter 22 = .ok (.areturn, 1) := by decide +kernel
def f_X2_filter (r0 : Option Nat) : Mo (Option Nat) := mb (nO 4 [.null]) (fun v0 => mb (gR 5 7 r0) (fun v5 => mb (gI 5 8 r0) (fun v9 => mb (f_J7_copyOf_59c91 v5 (jMx v9 (0 : Int32))) (fun v16 => mb (mo 4 v0 (f_X1_init v0 v16)) (fun _ => mp v0)))))
set_option maxRecDepth 100000 in
set_option maxHeartbeats 4000000 in
theorem s_X2_filter {X : Cg} (cx : Cx X cX2_filter RX2 1) (hfr : 2 ≤ (xR X).frames) (hlo : 61 ≤ (xR X).locals) (hr : (xM X).sig.returnType = (some (.object "PolicyTree$Filter"))) (r0 : Option Nat) : Sim X 1 (FiM X vR) 0 [(0, va_rf r0)] [] (f_X2_filter r0) := by
  unfold f_X2_filter
  refine sm_new cx nw_X2_54 dX2_filter_0 (fun v0 => ?_)
  refine sm_dup cx dX2_filter_3 (rf_cat _) ?_
  refine sm_aload_n cx 0 dX2_filter_4 rfl rfl ?_
  refine sm_getR cx fl_X2_11 dX2_filter_5 (fun v5 => ?_)
  refine sm_aload_n cx 0 dX2_filter_8 rfl rfl ?_
  refine sm_getI cx fl_X2_40 dX2_filter_9 (fun v9 => ?_)
  refine sm_iconst (v := 0) cx dX2_filter_12 (by decide) ?_
  refine sm_mmax cx wd_4_201 wd_2_3 wd_1_13 wd_2_4 (Nat.le_trans (by decide) hfr) (Nat.le_trans (Nat.add_le_add_right (cat_le _ (Nat.le_of_ble_eq_true rfl)) 13) (Nat.le_trans (by decide) hlo)) dX2_filter_13 ?_
  refine sm_callS (toV := vR) cx [va_rf v5, .int (jMx v9 (0 : Int32))] cs_X2_62 (ct_J7_copyOf_59c91 (xZ X) v5 (jMx v9 (0 : Int32))) (Nat.le_trans (by decide) hfr) (Nat.le_trans (by decide) hlo) rfl (cat_le _ (Nat.le_of_ble_eq_true rfl)) dX2_filter_16 (fun v16 => ?_)
  refine sm_callI (ci := 4) (toV := vV) cx [va_rf v16] ci_X2_68 (fun a h => ct_X1_init (xZ X) a h v16) (Nat.le_trans (by decide) hfr) (Nat.le_trans (by decide) hlo) rfl (cat_le _ (Nat.le_of_ble_eq_true rfl)) dX2_filter_19 (fun _ => ?_)
  exact sm_aret cx hr (Or.inl ⟨_, rfl⟩) dX2_filter_22
set_option maxRecDepth 100000 in
set_option maxHeartbeats 4000000 in
theorem ct_X2_filter (Z : Nat → Nat) {r0 : Option Nat} (a0 : Nat) (h0 : r0 = some a0) : Ct yX2_filter cX2_filter 1 (some (.object "PolicyTree$Filter")) 2 61 Z [.ref a0] vR (f_X2_filter r0) := by
  subst h0
  refine ct_of (lv0 := [(0, va_rf (some a0))]) (by decide +kernel) (by simp [lg_sl, ct_i, ct_l, ct_r, rf_cat]) (by show _ = ([(0, Value.ref a0)] : List (Nat × Value)); simp [lv_args, ct_i, ct_l, ct_r, rf_cat]) (fun X cx hZ hfr hlo hr hin => ?_)
  subst hZ
  exact s_X2_filter cx (Nat.le_of_eq hfr.symm) (Nat.le_of_eq hlo.symm) hr (some a0)
/-! PolicyTree$FilterReader.skipBlanks()V -/
theorem dX2_skipBlanks_0 : decode cX2_skipBlanks 0 = .ok (.aload_n 0, 1) := by decide +kernel
theorem dX2_skipBlanks_1 : decode cX2_skipBlanks 1 = .ok (.getfield 31, 3) := by decide +kernel
theorem dX2_skipBlanks_4 : decode cX2_skipBlanks 4 = .ok (.aload_n 0, 1) := by decide +kernel
theorem dX2_skipBlanks_5 : decode cX2_skipBlanks 5 = .ok (.getfield 21, 3) := by decide +kernel
theorem dX2_skipBlanks_8 : decode cX2_skipBlanks 8 = .ok (.if_icmp .ge 32, 3) := by decide +kernel
theorem dX2_skipBlanks_11 : decode cX2_skipBlanks 11 = .ok (.aload_n 0, 1) := by decide +kernel
theorem dX2_skipBlanks_12 : decode cX2_skipBlanks 12 = .ok (.getfield 17, 3) := by decide +kernel
theorem dX2_skipBlanks_15 : decode cX2_skipBlanks 15 = .ok (.aload_n 0, 1) := by decide +kernel
theorem dX2_skipBlanks_16 : decode cX2_skipBlanks 16 = .ok (.getfield 31, 3) := by decide +kernel
theorem dX2_skipBlanks_19 : decode cX2_skipBlanks 19 = .ok (.invokevirtual 107, 3) := by decide +kernel
theorem dX2_skipBlanks_22 : decode cX2_skipBlanks 22 = .ok (.bipush 32, 2) := by decide +kernel
theorem dX2_skipBlanks_24 : decode cX2_skipBlanks 24 = .ok (.if_icmp .ne 16, 3) := by decide +kernel
theorem dX2_skipBlanks_27 : decode cX2_skipBlanks 27 = .ok (.aload_n 0, 1) := by decide +kernel
theorem dX2_skipBlanks_28 : decode cX2_skipBlanks 28 = .ok (.dup, 1) := by decide +kernel
theorem dX2_skipBlanks_29 : decode cX2_skipBlanks 29 = .ok (.getfield 31, 3) := by decide +kernel
theorem dX2_skipBlanks_32 : decode cX2_skipBlanks 32 = .ok (.iconst 1, 1) := by decide +kernel
theorem dX2_skipBlanks_33 : decode cX2_skipBlanks 33 = .ok (.iadd, 1) := by decide +kernel
theorem dX2_skipBlanks_34 : decode cX2_skipBlanks 34 = .ok (.putfield 31, 3) := by decide +kernel
theorem dX2_skipBlanks_37 : decode cX2_skipBlanks 37 = .ok (.goto (-37), 3) := by decide +kernel
theorem dX2_skipBlanks_40 : decode cX2_skipBlanks 40 = .ok (.return_, 1) := by decide +kernel
def f_X2_skipBlanks_40 : Mo Unit := mp ()
set_option maxRecDepth 100000 in
set_option maxHeartbeats 4000000 in
theorem s_X2_skipBlanks_40 {X : Cg} (cx : Cx X cX2_skipBlanks RX2 1) (hfr : 1 ≤ (xR X).frames) (hlo : 21 ≤ (xR X).locals) (hr : (xM X).sig.returnType = none) : Sim X 1 (FiM X vV) 40 [] [] (f_X2_skipBlanks_40) := by
  unfold f_X2_skipBlanks_40
  exact sm_vret cx hr dX2_skipBlanks_40
def f_X2_skipBlanks_0 (r0 : Option Nat) : Nat → Mo Unit
  | 0 => mf
  | n + 1 => mb (gI 5 4 r0) (fun v1 => mb (gI 5 1 r0) (fun v5 => (if v5 ≤ v1 then f_X2_skipBlanks_40 else mb (gR 5 0 r0) (fun v12 => mb (gI 5 4 r0) (fun v16 => mb (mo 13 v12 (f_X10_byteAt v12 v16)) (fun v19 => (if v19 = (32 : Int32) then mb (gI 5 4 r0) (fun v29 => mb (pV 5 4 r0 (.int (v29 + (1 : Int32)))) (fun _ => (f_X2_skipBlanks_0 r0 n))) else f_X2_skipBlanks_40)))))))
set_option maxRecDepth 100000 in
set_option maxHeartbeats 4000000 in
theorem s_X2_skipBlanks_0 {X : Cg} (cx : Cx X cX2_skipBlanks RX2 1) (hfr : 1 ≤ (xR X).frames) (hlo : 21 ≤ (xR X).locals) (hr : (xM X).sig.returnType = none) (r0 : Option Nat) : ∀ (n : Nat), Sim X 1 (FiM X vV) 0 [(0, va_rf r0)] [] (f_X2_skipBlanks_0 r0 n) := by
  intro n
  induction n with
  | zero =>
    exact sm_mf
  | succ n ih =>
    rw [f_X2_skipBlanks_0]
    refine sm_aload_n cx 0 dX2_skipBlanks_0 rfl rfl ?_
    refine sm_getI cx fl_X2_31 dX2_skipBlanks_1 (fun v1 => ?_)
    refine sm_aload_n cx 0 dX2_skipBlanks_4 rfl rfl ?_
    refine sm_getI cx fl_X2_21 dX2_skipBlanks_5 (fun v5 => ?_)
    refine sm_icmp_ge (tgt := 40) cx dX2_skipBlanks_8 (by decide) ?_ ?_
    · exact sm_lv [] rfl (s_X2_skipBlanks_40 cx hfr hlo hr)
    · refine sm_aload_n cx 0 dX2_skipBlanks_11 rfl rfl ?_
      refine sm_getR cx fl_X2_17 dX2_skipBlanks_12 (fun v12 => ?_)
      refine sm_aload_n cx 0 dX2_skipBlanks_15 rfl rfl ?_
      refine sm_getI cx fl_X2_31 dX2_skipBlanks_16 (fun v16 => ?_)
      refine sm_callV (T := TX10) (N := 2) (toV := vI) cx [.int v16] rfl cv_X2_107 (fun a h => ct_X10_byteAt (xZ X) a h v16) (Nat.le_trans (by decide) hfr) (Nat.le_trans (by decide) hlo) rfl (cat_le _ (Nat.le_of_ble_eq_true rfl)) dX2_skipBlanks_19 (fun v19 => ?_)
      refine sm_bipush (v := 32) cx dX2_skipBlanks_22 (by decide) ?_
      refine sm_icmp_ne (tgt := 40) cx dX2_skipBlanks_24 (by decide) ?_ ?_
      · exact sm_lv [] rfl (s_X2_skipBlanks_40 cx hfr hlo hr)
      · refine sm_aload_n cx 0 dX2_skipBlanks_27 rfl rfl ?_
        refine sm_dup cx dX2_skipBlanks_28 (rf_cat _) ?_
        refine sm_getI cx fl_X2_31 dX2_skipBlanks_29 (fun v29 => ?_)
        refine sm_iconst (v := 1) cx dX2_skipBlanks_32 (by decide) ?_
        refine sm_iadd cx dX2_skipBlanks_33 ?_
        refine sm_putV cx fl_X2_31 rfl rfl dX2_skipBlanks_34 ?_
        refine sm_goto (tgt := 0) cx dX2_skipBlanks_37 (by decide) ?_
        exact sm_lv [0] rfl (ih)
def f_X2_skipBlanks (r0 : Option Nat) : Mo Unit := f_X2_skipBlanks_0 r0 fuL
set_option maxRecDepth 100000 in
set_option maxHeartbeats 4000000 in
theorem s_X2_skipBlanks {X : Cg} (cx : Cx X cX2_skipBlanks RX2 1) (hfr : 1 ≤ (xR X).frames) (hlo : 21 ≤ (xR X).locals) (hr : (xM X).sig.returnType = none) (r0 : Option Nat) : Sim X 1 (FiM X vV) 0 [(0, va_rf r0)] [] (f_X2_skipBlanks r0) := by
  unfold f_X2_skipBlanks
  exact sm_lv [0] rfl (s_X2_skipBlanks_0 cx hfr hlo hr r0 fuL)
set_option maxRecDepth 100000 in
set_option maxHeartbeats 4000000 in
theorem ct_X2_skipBlanks (Z : Nat → Nat) {r0 : Option Nat} (a0 : Nat) (h0 : r0 = some a0) : Ct yX2_skipBlanks cX2_skipBlanks 1 none 1 21 Z [.ref a0] vV (f_X2_skipBlanks r0) := by
  subst h0
  refine ct_of (lv0 := [(0, va_rf (some a0))]) (by decide +kernel) (by simp [lg_sl, ct_i, ct_l, ct_r, rf_cat]) (by show _ = ([(0, Value.ref a0)] : List (Nat × Value)); simp [lv_args, ct_i, ct_l, ct_r, rf_cat]) (fun X cx hZ hfr hlo hr hin => ?_)
  subst hZ
  exact s_X2_skipBlanks cx (Nat.le_of_eq hfr.symm) (Nat.le_of_eq hlo.symm) hr (some a0)
/-! PolicyTree$FilterReader.takesByte(C)Z -/
theorem dX2_takesByte_0 : decode cX2_takesByte 0 = .ok (.aload_n 0, 1) := by decide +kernel
theorem dX2_takesByte_1 : decode cX2_takesByte 1 = .ok (.getfield 34, 3) := by decide +kernel
theorem dX2_takesByte_4 : decode cX2_takesByte 4 = .ok (.ifCond .ne 29, 3) := by decide +kernel
theorem dX2_takesByte_7 : decode cX2_takesByte 7 = .ok (.aload_n 0, 1) := by decide +kernel
theorem dX2_takesByte_8 : decode cX2_takesByte 8 = .ok (.getfield 31, 3) := by decide +kernel
theorem dX2_takesByte_11 : decode cX2_takesByte 11 = .ok (.aload_n 0, 1) := by decide +kernel
theorem dX2_takesByte_12 : decode cX2_takesByte 12 = .ok (.getfield 21, 3) := by decide +kernel
theorem dX2_takesByte_15 : decode cX2_takesByte 15 = .ok (.if_icmp .ge 18, 3) := by decide +kernel
theorem dX2_takesByte_18 : decode cX2_takesByte 18 = .ok (.aload_n 0, 1) := by decide +kernel
theorem dX2_takesByte_19 : decode cX2_takesByte 19 = .ok (.getfield 17, 3) := by decide +kernel
theorem dX2_takesByte_22 : decode cX2_takesByte 22 = .ok (.aload_n 0, 1) := by decide +kernel
theorem dX2_takesByte_23 : decode cX2_takesByte 23 = .ok (.getfield 31, 3) := by decide +kernel
theorem dX2_takesByte_26 : decode cX2_takesByte 26 = .ok (.invokevirtual 107, 3) := by decide +kernel
theorem dX2_takesByte_29 : decode cX2_takesByte 29 = .ok (.iload_n 1, 1) := by decide +kernel
theorem dX2_takesByte_30 : decode cX2_takesByte 30 = .ok (.if_icmp .eq 5, 3) := by decide +kernel
theorem dX2_takesByte_33 : decode cX2_takesByte 33 = .ok (.iconst 0, 1) := by decide +kernel
theorem dX2_takesByte_34 : decode cX2_takesByte 34 = .ok (.ireturn, 1) := by decide +kernel
theorem dX2_takesByte_35 : decode cX2_takesByte 35 = .ok (.aload_n 0, 1) := by decide +kernel
theorem dX2_takesByte_36 : decode cX2_takesByte 36 = .ok (.dup, 1) := by decide +kernel
theorem dX2_takesByte_37 : decode cX2_takesByte 37 = .ok (.getfield 31, 3) := by decide +kernel
theorem dX2_takesByte_40 : decode cX2_takesByte 40 = .ok (.iconst 1, 1) := by decide +kernel
theorem dX2_takesByte_41 : decode cX2_takesByte 41 = .ok (.iadd, 1) := by decide +kernel
theorem dX2_takesByte_42 : decode cX2_takesByte 42 = .ok (.putfield 31, 3) := by decide +kernel
theorem dX2_takesByte_45 : decode cX2_takesByte 45 = .ok (.iconst 1, 1) := by decide +kernel
theorem dX2_takesByte_46 : decode cX2_takesByte 46 = .ok (.ireturn, 1) := by decide +kernel
def f_X2_takesByte_33 : Mo Int32 := rz .boolean (0 : Int32)
set_option maxRecDepth 100000 in
set_option maxHeartbeats 4000000 in
theorem s_X2_takesByte_33 {X : Cg} (cx : Cx X cX2_takesByte RX2 2) (hfr : 1 ≤ (xR X).frames) (hlo : 21 ≤ (xR X).locals) (hr : (xM X).sig.returnType = (some .boolean)) : Sim X 2 (FiM X vI) 33 [] [] (f_X2_takesByte_33) := by
  unfold f_X2_takesByte_33
  refine sm_iconst (v := 0) cx dX2_takesByte_33 (by decide) ?_
  exact sm_zret cx hr dX2_takesByte_34
def f_X2_takesByte (r0 : Option Nat) (x1 : Int32) : Mo Int32 := mb (gI 5 5 r0) (fun v1 => (if v1 = 0 then mb (gI 5 4 r0) (fun v8 => mb (gI 5 1 r0) (fun v12 => (if v12 ≤ v8 then f_X2_takesByte_33 else mb (gR 5 0 r0) (fun v19 => mb (gI 5 4 r0) (fun v23 => mb (mo 13 v19 (f_X10_byteAt v19 v23)) (fun v26 => (if v26 = x1 then mb (gI 5 4 r0) (fun v37 => mb (pV 5 4 r0 (.int (v37 + (1 : Int32)))) (fun _ => rz .boolean (1 : Int32))) else f_X2_takesByte_33))))))) else f_X2_takesByte_33))
set_option maxRecDepth 100000 in
set_option maxHeartbeats 4000000 in
theorem s_X2_takesByte {X : Cg} (cx : Cx X cX2_takesByte RX2 2) (hfr : 1 ≤ (xR X).frames) (hlo : 21 ≤ (xR X).locals) (hr : (xM X).sig.returnType = (some .boolean)) (r0 : Option Nat) (x1 : Int32) : Sim X 2 (FiM X vI) 0 [(0, va_rf r0), (1, .int x1)] [] (f_X2_takesByte r0 x1) := by
  unfold f_X2_takesByte
  refine sm_aload_n cx 0 dX2_takesByte_0 rfl rfl ?_
  refine sm_getI cx fl_X2_34 dX2_takesByte_1 (fun v1 => ?_)
  refine sm_if_ne (tgt := 33) cx dX2_takesByte_4 (by decide) ?_ ?_
  · exact sm_lv [] rfl (s_X2_takesByte_33 cx hfr hlo hr)
  · refine sm_aload_n cx 0 dX2_takesByte_7 rfl rfl ?_
    refine sm_getI cx fl_X2_31 dX2_takesByte_8 (fun v8 => ?_)
    refine sm_aload_n cx 0 dX2_takesByte_11 rfl rfl ?_
    refine sm_getI cx fl_X2_21 dX2_takesByte_12 (fun v12 => ?_)
    refine sm_icmp_ge (tgt := 33) cx dX2_takesByte_15 (by decide) ?_ ?_
    · exact sm_lv [] rfl (s_X2_takesByte_33 cx hfr hlo hr)
    · refine sm_aload_n cx 0 dX2_takesByte_18 rfl rfl ?_
      refine sm_getR cx fl_X2_17 dX2_takesByte_19 (fun v19 => ?_)
      refine sm_aload_n cx 0 dX2_takesByte_22 rfl rfl ?_
      refine sm_getI cx fl_X2_31 dX2_takesByte_23 (fun v23 => ?_)
      refine sm_callV (T := TX10) (N := 2) (toV := vI) cx [.int v23] rfl cv_X2_107 (fun a h => ct_X10_byteAt (xZ X) a h v23) (Nat.le_trans (by decide) hfr) (Nat.le_trans (by decide) hlo) rfl (cat_le _ (Nat.le_of_ble_eq_true rfl)) dX2_takesByte_26 (fun v26 => ?_)
      refine sm_iload_n cx 1 dX2_takesByte_29 rfl rfl ?_
      refine sm_icmp_eq (tgt := 35) cx dX2_takesByte_30 (by decide) ?_ ?_
      · refine sm_aload_n cx 0 dX2_takesByte_35 rfl rfl ?_
        refine sm_dup cx dX2_takesByte_36 (rf_cat _) ?_
        refine sm_getI cx fl_X2_31 dX2_takesByte_37 (fun v37 => ?_)
        refine sm_iconst (v := 1) cx dX2_takesByte_40 (by decide) ?_
        refine sm_iadd cx dX2_takesByte_41 ?_
        refine sm_putV cx fl_X2_31 rfl rfl dX2_takesByte_42 ?_
        refine sm_iconst (v := 1) cx dX2_takesByte_45 (by decide) ?_
        exact sm_zret cx hr dX2_takesByte_46
      · exact sm_lv [] rfl (s_X2_takesByte_33 cx hfr hlo hr)
set_option maxRecDepth 100000 in
set_option maxHeartbeats 4000000 in
theorem ct_X2_takesByte (Z : Nat → Nat) {r0 : Option Nat} (a0 : Nat) (h0 : r0 = some a0) (x1 : Int32) : Ct yX2_takesByte cX2_takesByte 2 (some .boolean) 1 21 Z [.ref a0, .int x1] vI (f_X2_takesByte r0 x1) := by
  subst h0
  refine ct_of (lv0 := [(0, va_rf (some a0)), (1, .int x1)]) (by decide +kernel) (by simp [lg_sl, ct_i, ct_l, ct_r, rf_cat]) (by show _ = ([(0, Value.ref a0), (1, .int x1)] : List (Nat × Value)); simp [lv_args, ct_i, ct_l, ct_r, rf_cat]) (fun X cx hZ hfr hlo hr hin => ?_)
  subst hZ
  exact s_X2_takesByte cx (Nat.le_of_eq hfr.symm) (Nat.le_of_eq hlo.symm) hr (some a0) x1
/-! PolicyTree$FilterReader.isBetween(III)Z -/
theorem dX2_isBetween_0 : decode cX2_isBetween 0 = .ok (.iload_n 0, 1) := by decide +kernel
theorem dX2_isBetween_1 : decode cX2_isBetween 1 = .ok (.iload_n 1, 1) := by decide +kernel
theorem dX2_isBetween_2 : decode cX2_isBetween 2 = .ok (.if_icmp .lt 12, 3) := by decide +kernel
theorem dX2_isBetween_5 : decode cX2_isBetween 5 = .ok (.iload_n 0, 1) := by decide +kernel
theorem dX2_isBetween_6 : decode cX2_isBetween 6 = .ok (.iload_n 2, 1) := by decide +kernel
theorem dX2_isBetween_7 : decode cX2_isBetween 7 = .ok (.if_icmp .gt 7, 3) := by decide +kernel
theorem dX2_isBetween_10 : decode cX2_isBetween 10 = .ok (.iconst 1, 1) := by decide +kernel
theorem dX2_isBetween_11 : decode cX2_isBetween 11 = .ok (.goto 4, 3) := by decide +kernel
theorem dX2_isBetween_14 : decode cX2_isBetween 14 = .ok (.iconst 0, 1) := by decide +kernel
theorem dX2_isBetween_15 : decode cX2_isBetween 15 = .ok (.ireturn, 1) := by decide +kernel
def f_X2_isBetween_15 (sx0 : Int32) : Mo Int32 := rz .boolean sx0
set_option maxRecDepth 100000 in
set_option maxHeartbeats 4000000 in
theorem s_X2_isBetween_15 {X : Cg} (cx : Cx X cX2_isBetween RX2 3) (hfr : 0 ≤ (xR X).frames) (hlo : 0 ≤ (xR X).locals) (hr : (xM X).sig.returnType = (some .boolean)) (sx0 : Int32) : Sim X 3 (FiM X vI) 15 [] [.int sx0] (f_X2_isBetween_15 sx0) := by
  unfold f_X2_isBetween_15
  exact sm_zret cx hr dX2_isBetween_15
def f_X2_isBetween_14 : Mo Int32 := f_X2_isBetween_15 (0 : Int32)
set_option maxRecDepth 100000 in
set_option maxHeartbeats 4000000 in
theorem s_X2_isBetween_14 {X : Cg} (cx : Cx X cX2_isBetween RX2 3) (hfr : 0 ≤ (xR X).frames) (hlo : 0 ≤ (xR X).locals) (hr : (xM X).sig.returnType = (some .boolean)) : Sim X 3 (FiM X vI) 14 [] [] (f_X2_isBetween_14) := by
  unfold f_X2_isBetween_14
  refine sm_iconst (v := 0) cx dX2_isBetween_14 (by decide) ?_
  exact sm_lv [] rfl (s_X2_isBetween_15 cx hfr hlo hr (0 : Int32))
def f_X2_isBetween (x0 : Int32) (x1 : Int32) (x2 : Int32) : Mo Int32 := (if x0 < x1 then f_X2_isBetween_14 else (if x2 < x0 then f_X2_isBetween_14 else f_X2_isBetween_15 (1 : Int32)))
set_option maxRecDepth 100000 in
set_option maxHeartbeats 4000000 in
theorem s_X2_isBetween {X : Cg} (cx : Cx X cX2_isBetween RX2 3) (hfr : 0 ≤ (xR X).frames) (hlo : 0 ≤ (xR X).locals) (hr : (xM X).sig.returnType = (some .boolean)) (x0 : Int32) (x1 : Int32) (x2 : Int32) : Sim X 3 (FiM X vI) 0 [(0, .int x0), (1, .int x1), (2, .int x2)] [] (f_X2_isBetween x0 x1 x2) := by
  unfold f_X2_isBetween
  refine sm_iload_n cx 0 dX2_isBetween_0 rfl rfl ?_
  refine sm_iload_n cx 1 dX2_isBetween_1 rfl rfl ?_
  refine sm_icmp_lt (tgt := 14) cx dX2_isBetween_2 (by decide) ?_ ?_
  · exact sm_lv [] rfl (s_X2_isBetween_14 cx hfr hlo hr)
  · refine sm_iload_n cx 0 dX2_isBetween_5 rfl rfl ?_
    refine sm_iload_n cx 2 dX2_isBetween_6 rfl rfl ?_
    refine sm_icmp_gt (tgt := 14) cx dX2_isBetween_7 (by decide) ?_ ?_
    · exact sm_lv [] rfl (s_X2_isBetween_14 cx hfr hlo hr)
    · refine sm_iconst (v := 1) cx dX2_isBetween_10 (by decide) ?_
      refine sm_goto (tgt := 15) cx dX2_isBetween_11 (by decide) ?_
      exact sm_lv [] rfl (s_X2_isBetween_15 cx hfr hlo hr (1 : Int32))
set_option maxRecDepth 100000 in
set_option maxHeartbeats 4000000 in
theorem ct_X2_isBetween (Z : Nat → Nat) (x0 : Int32) (x1 : Int32) (x2 : Int32) : Ct yX2_isBetween cX2_isBetween 3 (some .boolean) 0 0 Z [.int x0, .int x1, .int x2] vI (f_X2_isBetween x0 x1 x2) := by
  refine ct_of (lv0 := [(0, .int x0), (1, .int x1), (2, .int x2)]) (by decide +kernel) (by simp [lg_sl, ct_i, ct_l, ct_r, rf_cat]) (by show _ = ([(0, .int x0), (1, .int x1), (2, .int x2)] : List (Nat × Value)); simp [lv_args, ct_i, ct_l, ct_r, rf_cat]) (fun X cx hZ hfr hlo hr hin => ?_)
  subst hZ
  exact s_X2_isBetween cx (Nat.le_of_eq hfr.symm) (Nat.le_of_eq hlo.symm) hr x0 x1 x2
/-! PolicyTree$FilterReader.takesWord(Ljava/lang/String;)Z -/
theorem dX2_takesWord_0 : decode cX2_takesWord 0 = .ok (.aload_n 0, 1) := by decide +kernel
theorem dX2_takesWord_1 : decode cX2_takesWord 1 = .ok (.invokevirtual 43, 3) := by decide +kernel
theorem dX2_takesWord_4 : decode cX2_takesWord 4 = .ok (.aload_n 0, 1) := by decide +kernel
theorem dX2_takesWord_5 : decode cX2_takesWord 5 = .ok (.getfield 31, 3) := by decide +kernel
theorem dX2_takesWord_8 : decode cX2_takesWord 8 = .ok (.istore_n 2, 1) := by decide +kernel
theorem dX2_takesWord_9 : decode cX2_takesWord 9 = .ok (.iload_n 2, 1) := by decide +kernel
theorem dX2_takesWord_10 : decode cX2_takesWord 10 = .ok (.aload_n 0, 1) := by decide +kernel
theorem dX2_takesWord_11 : decode cX2_takesWord 11 = .ok (.getfield 21, 3) := by decide +kernel
theorem dX2_takesWord_14 : decode cX2_takesWord 14 = .ok (.if_icmp .ge 27, 3) := by decide +kernel
theorem dX2_takesWord_17 : decode cX2_takesWord 17 = .ok (.aload_n 0, 1) := by decide +kernel
theorem dX2_takesWord_18 : decode cX2_takesWord 18 = .ok (.getfield 17, 3) := by decide +kernel
theorem dX2_takesWord_21 : decode cX2_takesWord 21 = .ok (.iload_n 2, 1) := by decide +kernel
theorem dX2_takesWord_22 : decode cX2_takesWord 22 = .ok (.invokevirtual 107, 3) := by decide +kernel
theorem dX2_takesWord_25 : decode cX2_takesWord 25 = .ok (.bipush 97, 2) := by decide +kernel
theorem dX2_takesWord_27 : decode cX2_takesWord 27 = .ok (.bipush 122, 2) := by decide +kernel
theorem dX2_takesWord_29 : decode cX2_takesWord 29 = .ok (.invokestatic 111, 3) := by decide +kernel
theorem dX2_takesWord_32 : decode cX2_takesWord 32 = .ok (.ifCond .eq 9, 3) := by decide +kernel
theorem dX2_takesWord_35 : decode cX2_takesWord 35 = .ok (.iinc 2 1, 3) := by decide +kernel
theorem dX2_takesWord_38 : decode cX2_takesWord 38 = .ok (.goto (-29), 3) := by decide +kernel
theorem dX2_takesWord_41 : decode cX2_takesWord 41 = .ok (.aload_n 0, 1) := by decide +kernel
theorem dX2_takesWord_42 : decode cX2_takesWord 42 = .ok (.getfield 34, 3) := by decide +kernel
theorem dX2_takesWord_45 : decode cX2_takesWord 45 = .ok (.ifCond .ne 16, 3) := by decide +kernel
theorem dX2_takesWord_48 : decode cX2_takesWord 48 = .ok (.iload_n 2, 1) := by decide +kernel
theorem dX2_takesWord_49 : decode cX2_takesWord 49 = .ok (.aload_n 0, 1) := by decide +kernel
theorem dX2_takesWord_50 : decode cX2_takesWord 50 = .ok (.getfield 31, 3) := by decide +kernel
theorem dX2_takesWord_53 : decode cX2_takesWord 53 = .ok (.isub, 1) := by decide +kernel
theorem dX2_takesWord_54 : decode cX2_takesWord 54 = .ok (.aload_n 1, 1) := by decide +kernel
theorem dX2_takesWord_55 : decode cX2_takesWord 55 = .ok (.invokevirtual 118, 3) := by decide +kernel
theorem dX2_takesWord_58 : decode cX2_takesWord 58 = .ok (.if_icmp .eq 5, 3) := by decide +kernel
theorem dX2_takesWord_61 : decode cX2_takesWord 61 = .ok (.iconst 0, 1) := by decide +kernel
theorem dX2_takesWord_62 : decode cX2_takesWord 62 = .ok (.ireturn, 1) := by decide +kernel
theorem dX2_takesWord_63 : decode cX2_takesWord 63 = .ok (.iconst 0, 1) := by decide +kernel
theorem dX2_takesWord_64 : decode cX2_takesWord 64 = .ok (.istore_n 3, 1) := by decide +kernel
theorem dX2_takesWord_65 : decode cX2_takesWord 65 = .ok (.iload_n 3, 1) := by decide +kernel
theorem dX2_takesWord_66 : decode cX2_takesWord 66 = .ok (.aload_n 1, 1) := by decide +kernel
theorem dX2_takesWord_67 : decode cX2_takesWord 67 = .ok (.invokevirtual 118, 3) := by decide +kernel
theorem dX2_takesWord_70 : decode cX2_takesWord 70 = .ok (.if_icmp .ge 32, 3) := by decide +kernel
theorem dX2_takesWord_73 : decode cX2_takesWord 73 = .ok (.aload_n 0, 1) := by decide +kernel
theorem dX2_takesWord_74 : decode cX2_takesWord 74 = .ok (.getfield 17, 3) := by decide +kernel
theorem dX2_takesWord_77 : decode cX2_takesWord 77 = .ok (.aload_n 0, 1) := by decide +kernel
theorem dX2_takesWord_78 : decode cX2_takesWord 78 = .ok (.getfield 31, 3) := by decide +kernel
theorem dX2_takesWord_81 : decode cX2_takesWord 81 = .ok (.iload_n 3, 1) := by decide +kernel
theorem dX2_takesWord_82 : decode cX2_takesWord 82 = .ok (.iadd, 1) := by decide +kernel
theorem dX2_takesWord_83 : decode cX2_takesWord 83 = .ok (.invokevirtual 107, 3) := by decide +kernel
theorem dX2_takesWord_86 : decode cX2_takesWord 86 = .ok (.aload_n 1, 1) := by decide +kernel
theorem dX2_takesWord_87 : decode cX2_takesWord 87 = .ok (.iload_n 3, 1) := by decide +kernel
theorem dX2_takesWord_88 : decode cX2_takesWord 88 = .ok (.invokevirtual 123, 3) := by decide +kernel
theorem dX2_takesWord_91 : decode cX2_takesWord 91 = .ok (.if_icmp .eq 5, 3) := by decide +kernel
theorem dX2_takesWord_94 : decode cX2_takesWord 94 = .ok (.iconst 0, 1) := by decide +kernel
theorem dX2_takesWord_95 : decode cX2_takesWord 95 = .ok (.ireturn, 1) := by decide +kernel
theorem dX2_takesWord_96 : decode cX2_takesWord 96 = .ok (.iinc 3 1, 3) := by decide +kernel
theorem dX2_takesWord_99 : decode cX2_takesWord 99 = .ok (.goto (-34), 3) := by decide +kernel
theorem dX2_takesWord_102 : decode cX2_takesWord 102 = .ok (.aload_n 0, 1) := by decide +kernel
theorem dX2_takesWord_103 : decode cX2_takesWord 103 = .ok (.iload_n 2, 1) := by decide +kernel
theorem dX2_takesWord_104 : decode cX2_takesWord 104 = .ok (.putfield 31, 3) := by decide +kernel
theorem dX2_takesWord_107 : decode cX2_takesWord 107 = .ok (.iconst 1, 1) := by decide +kernel
theorem dX2_takesWord_108 : decode cX2_takesWord 108 = .ok (.ireturn, 1) := by decide +kernel
def f_X2_takesWord_61 (Z : Nat → Nat) : Mo Int32 := rz .boolean (0 : Int32)
set_option maxRecDepth 100000 in
set_option maxHeartbeats 4000000 in
theorem s_X2_takesWord_61 {X : Cg} (cx : Cx X cX2_takesWord RX2 4) (hfr : 4 ≤ (xR X).frames) (hlo : 85 ≤ (xR X).locals) (hr : (xM X).sig.returnType = (some .boolean)) : Sim X 4 (FiM X vI) 61 [] [] (f_X2_takesWord_61 (xZ X)) := by
  unfold f_X2_takesWord_61
  refine sm_iconst (v := 0) cx dX2_takesWord_61 (by decide) ?_
  exact sm_zret cx hr dX2_takesWord_62
def f_X2_takesWord_65 (Z : Nat → Nat) (r0 : Option Nat) (r1 : Option Nat) (x2 : Int32) : Nat → Int32 → Mo Int32
  | 0, _ => mf
  | n + 1, x3 => mb (moS Z r1 (f_J0_length_8abf5 Z r1)) (fun v67 => (if v67 ≤ x3 then mb (pV 5 4 r0 (.int x2)) (fun _ => rz .boolean (1 : Int32)) else mb (gR 5 0 r0) (fun v74 => mb (gI 5 4 r0) (fun v78 => mb (mo 13 v74 (f_X10_byteAt v74 (v78 + x3))) (fun v83 => mb (moS Z r1 (f_J0_charAt_5068e Z r1 x3)) (fun v88 => (if v83 = v88 then (f_X2_takesWord_65 Z r0 r1 x2 n) (x3 + 1) else rz .boolean (0 : Int32))))))))
set_option maxRecDepth 100000 in
set_option maxHeartbeats 4000000 in
theorem s_X2_takesWord_65 {X : Cg} (cx : Cx X cX2_takesWord RX2 4) (hfr : 4 ≤ (xR X).frames) (hlo : 85 ≤ (xR X).locals) (hr : (xM X).sig.returnType = (some .boolean)) (r0 : Option Nat) (r1 : Option Nat) (x2 : Int32) : ∀ (n : Nat) (x3 : Int32), Sim X 4 (FiM X vI) 65 [(0, va_rf r0), (1, va_rf r1), (2, .int x2), (3, .int x3)] [] (f_X2_takesWord_65 (xZ X) r0 r1 x2 n x3) := by
  intro n
  induction n with
  | zero =>
    intro _
    exact sm_mf
  | succ n ih =>
    intro x3
    rw [f_X2_takesWord_65]
    refine sm_iload_n cx 3 dX2_takesWord_65 rfl rfl ?_
    refine sm_aload_n cx 1 dX2_takesWord_66 rfl rfl ?_
    refine sm_callW (toV := vI) cx [] cv_X2_118 (fun a h => ct_J0_length_8abf5 (xZ X) a h) (Nat.le_trans (by decide) hfr) (Nat.le_trans (by decide) hlo) rfl (cat_le _ (Nat.le_of_ble_eq_true rfl)) dX2_takesWord_67 (fun v67 => ?_)
    refine sm_icmp_ge (tgt := 102) cx dX2_takesWord_70 (by decide) ?_ ?_
    · refine sm_aload_n cx 0 dX2_takesWord_102 rfl rfl ?_
      refine sm_iload_n cx 2 dX2_takesWord_103 rfl rfl ?_
      refine sm_putV cx fl_X2_31 rfl rfl dX2_takesWord_104 ?_
      refine sm_iconst (v := 1) cx dX2_takesWord_107 (by decide) ?_
      exact sm_zret cx hr dX2_takesWord_108
    · refine sm_aload_n cx 0 dX2_takesWord_73 rfl rfl ?_
      refine sm_getR cx fl_X2_17 dX2_takesWord_74 (fun v74 => ?_)
      refine sm_aload_n cx 0 dX2_takesWord_77 rfl rfl ?_
      refine sm_getI cx fl_X2_31 dX2_takesWord_78 (fun v78 => ?_)
      refine sm_iload_n cx 3 dX2_takesWord_81 rfl rfl ?_
      refine sm_iadd cx dX2_takesWord_82 ?_
      refine sm_callV (T := TX10) (N := 2) (toV := vI) cx [.int (v78 + x3)] rfl cv_X2_107 (fun a h => ct_X10_byteAt (xZ X) a h (v78 + x3)) (Nat.le_trans (by decide) hfr) (Nat.le_trans (by decide) hlo) rfl (cat_le _ (Nat.le_of_ble_eq_true rfl)) dX2_takesWord_83 (fun v83 => ?_)
      refine sm_aload_n cx 1 dX2_takesWord_86 rfl rfl ?_
      refine sm_iload_n cx 3 dX2_takesWord_87 rfl rfl ?_
      refine sm_callW (toV := vI) cx [.int x3] cv_X2_123 (fun a h => ct_J0_charAt_5068e (xZ X) a h x3) (Nat.le_trans (by decide) hfr) (Nat.le_trans (by decide) hlo) rfl (cat_le _ (Nat.le_of_ble_eq_true rfl)) dX2_takesWord_88 (fun v88 => ?_)
      refine sm_icmp_eq (tgt := 96) cx dX2_takesWord_91 (by decide) ?_ ?_
      · refine sm_iinc cx 3 [(3, .int (x3 + 1)), (0, va_rf r0), (1, va_rf r1), (2, .int x2)] dX2_takesWord_96 rfl rfl (by decide) rfl (nc1 rfl) rfl ?_
        refine sm_goto (tgt := 65) cx dX2_takesWord_99 (by decide) ?_
        exact sm_lv [1, 2, 3, 0] rfl (ih (x3 + 1))
      · refine sm_iconst (v := 0) cx dX2_takesWord_94 (by decide) ?_
        exact sm_zret cx hr dX2_takesWord_95
def f_X2_takesWord_41 (Z : Nat → Nat) (r0 : Option Nat) (r1 : Option Nat) (x2 : Int32) : Mo Int32 := mb (gI 5 5 r0) (fun v42 => (if v42 = 0 then mb (gI 5 4 r0) (fun v50 => mb (moS Z r1 (f_J0_length_8abf5 Z r1)) (fun v55 => (if (x2 - v50) = v55 then f_X2_takesWord_65 Z r0 r1 x2 fuL (0 : Int32) else f_X2_takesWord_61 Z))) else f_X2_takesWord_61 Z))
set_option maxRecDepth 100000 in
set_option maxHeartbeats 4000000 in
theorem s_X2_takesWord_41 {X : Cg} (cx : Cx X cX2_takesWord RX2 4) (hfr : 4 ≤ (xR X).frames) (hlo : 85 ≤ (xR X).locals) (hr : (xM X).sig.returnType = (some .boolean)) (r0 : Option Nat) (r1 : Option Nat) (x2 : Int32) : Sim X 4 (FiM X vI) 41 [(0, va_rf r0), (1, va_rf r1), (2, .int x2)] [] (f_X2_takesWord_41 (xZ X) r0 r1 x2) := by
  unfold f_X2_takesWord_41
  refine sm_aload_n cx 0 dX2_takesWord_41 rfl rfl ?_
  refine sm_getI cx fl_X2_34 dX2_takesWord_42 (fun v42 => ?_)
  refine sm_if_ne (tgt := 61) cx dX2_takesWord_45 (by decide) ?_ ?_
  · exact sm_lv [] rfl (s_X2_takesWord_61 cx hfr hlo hr)
  · refine sm_iload_n cx 2 dX2_takesWord_48 rfl rfl ?_
    refine sm_aload_n cx 0 dX2_takesWord_49 rfl rfl ?_
    refine sm_getI cx fl_X2_31 dX2_takesWord_50 (fun v50 => ?_)
    refine sm_isub cx dX2_takesWord_53 ?_
    refine sm_aload_n cx 1 dX2_takesWord_54 rfl rfl ?_
    refine sm_callW (toV := vI) cx [] cv_X2_118 (fun a h => ct_J0_length_8abf5 (xZ X) a h) (Nat.le_trans (by decide) hfr) (Nat.le_trans (by decide) hlo) rfl (cat_le _ (Nat.le_of_ble_eq_true rfl)) dX2_takesWord_55 (fun v55 => ?_)
    refine sm_icmp_eq (tgt := 63) cx dX2_takesWord_58 (by decide) ?_ ?_
    · refine sm_iconst (v := 0) cx dX2_takesWord_63 (by decide) ?_
      refine sm_istore_n cx [(3, .int (0 : Int32)), (0, va_rf r0), (1, va_rf r1), (2, .int x2)] dX2_takesWord_64 rfl (by decide) rfl (nc1 rfl) rfl ?_
      exact sm_lv [1, 2, 3, 0] rfl (s_X2_takesWord_65 cx hfr hlo hr r0 r1 x2 fuL (0 : Int32))
    · exact sm_lv [] rfl (s_X2_takesWord_61 cx hfr hlo hr)
def f_X2_takesWord_9 (Z : Nat → Nat) (r0 : Option Nat) (r1 : Option Nat) : Nat → Int32 → Mo Int32
  | 0, _ => mf
  | n + 1, x2 => mb (gI 5 1 r0) (fun v11 => (if v11 ≤ x2 then f_X2_takesWord_41 Z r0 r1 x2 else mb (gR 5 0 r0) (fun v18 => mb (mo 13 v18 (f_X10_byteAt v18 x2)) (fun v22 => mb (f_X2_isBetween v22 (97 : Int32) (122 : Int32)) (fun v29 => (if v29 = 0 then f_X2_takesWord_41 Z r0 r1 x2 else (f_X2_takesWord_9 Z r0 r1 n) (x2 + 1)))))))
set_option maxRecDepth 100000 in
set_option maxHeartbeats 4000000 in
theorem s_X2_takesWord_9 {X : Cg} (cx : Cx X cX2_takesWord RX2 4) (hfr : 4 ≤ (xR X).frames) (hlo : 85 ≤ (xR X).locals) (hr : (xM X).sig.returnType = (some .boolean)) (r0 : Option Nat) (r1 : Option Nat) : ∀ (n : Nat) (x2 : Int32), Sim X 4 (FiM X vI) 9 [(0, va_rf r0), (1, va_rf r1), (2, .int x2)] [] (f_X2_takesWord_9 (xZ X) r0 r1 n x2) := by
  intro n
  induction n with
  | zero =>
    intro _
    exact sm_mf
  | succ n ih =>
    intro x2
    rw [f_X2_takesWord_9]
    refine sm_iload_n cx 2 dX2_takesWord_9 rfl rfl ?_
    refine sm_aload_n cx 0 dX2_takesWord_10 rfl rfl ?_
    refine sm_getI cx fl_X2_21 dX2_takesWord_11 (fun v11 => ?_)
    refine sm_icmp_ge (tgt := 41) cx dX2_takesWord_14 (by decide) ?_ ?_
    · exact sm_lv [0, 1, 2] rfl (s_X2_takesWord_41 cx hfr hlo hr r0 r1 x2)
    · refine sm_aload_n cx 0 dX2_takesWord_17 rfl rfl ?_
      refine sm_getR cx fl_X2_17 dX2_takesWord_18 (fun v18 => ?_)
      refine sm_iload_n cx 2 dX2_takesWord_21 rfl rfl ?_
      refine sm_callV (T := TX10) (N := 2) (toV := vI) cx [.int x2] rfl cv_X2_107 (fun a h => ct_X10_byteAt (xZ X) a h x2) (Nat.le_trans (by decide) hfr) (Nat.le_trans (by decide) hlo) rfl (cat_le _ (Nat.le_of_ble_eq_true rfl)) dX2_takesWord_22 (fun v22 => ?_)
      refine sm_bipush (v := 97) cx dX2_takesWord_25 (by decide) ?_
      refine sm_bipush (v := 122) cx dX2_takesWord_27 (by decide) ?_
      refine sm_callS (toV := vI) cx [.int v22, .int (97 : Int32), .int (122 : Int32)] cs_X2_111 (ct_X2_isBetween (xZ X) v22 (97 : Int32) (122 : Int32)) (Nat.le_trans (by decide) hfr) (Nat.le_trans (by decide) hlo) rfl (cat_le _ (Nat.le_of_ble_eq_true rfl)) dX2_takesWord_29 (fun v29 => ?_)
      refine sm_if_eq (tgt := 41) cx dX2_takesWord_32 (by decide) ?_ ?_
      · exact sm_lv [0, 1, 2] rfl (s_X2_takesWord_41 cx hfr hlo hr r0 r1 x2)
      · refine sm_iinc cx 2 [(2, .int (x2 + 1)), (0, va_rf r0), (1, va_rf r1)] dX2_takesWord_35 rfl rfl (by decide) rfl (nc1 (rf_cat _)) rfl ?_
        refine sm_goto (tgt := 9) cx dX2_takesWord_38 (by decide) ?_
        exact sm_lv [1, 2, 0] rfl (ih (x2 + 1))
def f_X2_takesWord (Z : Nat → Nat) (r0 : Option Nat) (r1 : Option Nat) : Mo Int32 := mb (mo 5 r0 (f_X2_skipBlanks r0)) (fun _ => mb (gI 5 4 r0) (fun v5 => f_X2_takesWord_9 Z r0 r1 fuL v5))
set_option maxRecDepth 100000 in
set_option maxHeartbeats 4000000 in
theorem s_X2_takesWord {X : Cg} (cx : Cx X cX2_takesWord RX2 4) (hfr : 4 ≤ (xR X).frames) (hlo : 85 ≤ (xR X).locals) (hr : (xM X).sig.returnType = (some .boolean)) (r0 : Option Nat) (r1 : Option Nat) : Sim X 4 (FiM X vI) 0 [(0, va_rf r0), (1, va_rf r1)] [] (f_X2_takesWord (xZ X) r0 r1) := by
  unfold f_X2_takesWord
  refine sm_aload_n cx 0 dX2_takesWord_0 rfl rfl ?_
  refine sm_callV (T := TX2) (N := 9) (toV := vV) cx [] rfl cv_X2_43 (fun a h => ct_X2_skipBlanks (xZ X) a h) (Nat.le_trans (by decide) hfr) (Nat.le_trans (by decide) hlo) rfl (cat_le _ (Nat.le_of_ble_eq_true rfl)) dX2_takesWord_1 (fun _ => ?_)
  refine sm_aload_n cx 0 dX2_takesWord_4 rfl rfl ?_
  refine sm_getI cx fl_X2_31 dX2_takesWord_5 (fun v5 => ?_)
  refine sm_istore_n cx [(2, .int v5), (0, va_rf r0), (1, va_rf r1)] dX2_takesWord_8 rfl (by decide) rfl (nc1 (rf_cat _)) rfl ?_
  exact sm_lv [1, 2, 0] rfl (s_X2_takesWord_9 cx hfr hlo hr r0 r1 fuL v5)
set_option maxRecDepth 100000 in
set_option maxHeartbeats 4000000 in
theorem ct_X2_takesWord (Z : Nat → Nat) {r0 : Option Nat} (a0 : Nat) (h0 : r0 = some a0) (r1 : Option Nat) : Ct yX2_takesWord cX2_takesWord 4 (some .boolean) 4 85 Z [.ref a0, va_rf r1] vI (f_X2_takesWord Z r0 r1) := by
  subst h0
  refine ct_of (lv0 := [(0, va_rf (some a0)), (1, va_rf r1)]) (by decide +kernel) (by simp [lg_sl, ct_i, ct_l, ct_r, rf_cat]) (by show _ = ([(0, Value.ref a0), (1, va_rf r1)] : List (Nat × Value)); simp [lv_args, ct_i, ct_l, ct_r, rf_cat]) (fun X cx hZ hfr hlo hr hin => ?_)
  subst hZ
  exact s_X2_takesWord cx (Nat.le_of_eq hfr.symm) (Nat.le_of_eq hlo.symm) hr (some a0) r1
/-! PolicyTree$FilterReader.addStep(II)V -/
theorem dX2_addStep_0 : decode cX2_addStep 0 = .ok (.aload_n 0, 1) := by decide +kernel
theorem dX2_addStep_1 : decode cX2_addStep 1 = .ok (.getfield 40, 3) := by decide +kernel
theorem dX2_addStep_4 : decode cX2_addStep 4 = .ok (.ifCond .lt 41, 3) := by decide +kernel
theorem dX2_addStep_7 : decode cX2_addStep 7 = .ok (.aload_n 0, 1) := by decide +kernel
theorem dX2_addStep_8 : decode cX2_addStep 8 = .ok (.getfield 40, 3) := by decide +kernel
theorem dX2_addStep_11 : decode cX2_addStep 11 = .ok (.aload_n 0, 1) := by decide +kernel
theorem dX2_addStep_12 : decode cX2_addStep 12 = .ok (.getfield 11, 3) := by decide +kernel
theorem dX2_addStep_15 : decode cX2_addStep 15 = .ok (.arraylength, 1) := by decide +kernel
theorem dX2_addStep_16 : decode cX2_addStep 16 = .ok (.if_icmp .ge 29, 3) := by decide +kernel
theorem dX2_addStep_19 : decode cX2_addStep 19 = .ok (.aload_n 0, 1) := by decide +kernel
theorem dX2_addStep_20 : decode cX2_addStep 20 = .ok (.getfield 11, 3) := by decide +kernel
theorem dX2_addStep_23 : decode cX2_addStep 23 = .ok (.aload_n 0, 1) := by decide +kernel
theorem dX2_addStep_24 : decode cX2_addStep 24 = .ok (.getfield 40, 3) := by decide +kernel
theorem dX2_addStep_27 : decode cX2_addStep 27 = .ok (.iload_n 1, 1) := by decide +kernel
theorem dX2_addStep_28 : decode cX2_addStep 28 = .ok (.sipush 256, 3) := by decide +kernel
theorem dX2_addStep_31 : decode cX2_addStep 31 = .ok (.imul, 1) := by decide +kernel
theorem dX2_addStep_32 : decode cX2_addStep 32 = .ok (.iload_n 2, 1) := by decide +kernel
theorem dX2_addStep_33 : decode cX2_addStep 33 = .ok (.iadd, 1) := by decide +kernel
theorem dX2_addStep_34 : decode cX2_addStep 34 = .ok (.iastore, 1) := by decide +kernel
theorem dX2_addStep_35 : decode cX2_addStep 35 = .ok (.aload_n 0, 1) := by decide +kernel
theorem dX2_addStep_36 : decode cX2_addStep 36 = .ok (.dup, 1) := by decide +kernel
theorem dX2_addStep_37 : decode cX2_addStep 37 = .ok (.getfield 40, 3) := by decide +kernel
theorem dX2_addStep_40 : decode cX2_addStep 40 = .ok (.iconst 1, 1) := by decide +kernel
theorem dX2_addStep_41 : decode cX2_addStep 41 = .ok (.iadd, 1) := by decide +kernel
theorem dX2_addStep_42 : decode cX2_addStep 42 = .ok (.putfield 40, 3) := by decide +kernel
theorem dX2_addStep_45 : decode cX2_addStep 45 = .ok (.return_, 1) := by decide +kernel
def f_X2_addStep_45 : Mo Unit := mp ()
set_option maxRecDepth 100000 in
set_option maxHeartbeats 4000000 in
theorem s_X2_addStep_45 {X : Cg} (cx : Cx X cX2_addStep RX2 3) (hfr : 0 ≤ (xR X).frames) (hlo : 0 ≤ (xR X).locals) (hr : (xM X).sig.returnType = none) : Sim X 3 (FiM X vV) 45 [] [] (f_X2_addStep_45) := by
  unfold f_X2_addStep_45
  exact sm_vret cx hr dX2_addStep_45
def f_X2_addStep (r0 : Option Nat) (x1 : Int32) (x2 : Int32) : Mo Unit := mb (gI 5 8 r0) (fun v1 => (if v1 < 0 then f_X2_addStep_45 else mb (gI 5 8 r0) (fun v8 => mb (gR 5 7 r0) (fun v12 => mb (aN 1 v12) (fun v15 => (if v15 ≤ v8 then f_X2_addStep_45 else mb (gR 5 7 r0) (fun v20 => mb (gI 5 8 r0) (fun v24 => mb (sI 1 v20 v24 ((x1 * (256 : Int32)) + x2)) (fun _ => mb (gI 5 8 r0) (fun v37 => mb (pV 5 8 r0 (.int (v37 + (1 : Int32)))) (fun _ => f_X2_addStep_45)))))))))))
set_option maxRecDepth 100000 in
set_option maxHeartbeats 4000000 in
theorem s_X2_addStep {X : Cg} (cx : Cx X cX2_addStep RX2 3) (hfr : 0 ≤ (xR X).frames) (hlo : 0 ≤ (xR X).locals) (hr : (xM X).sig.returnType = none) (r0 : Option Nat) (x1 : Int32) (x2 : Int32) : Sim X 3 (FiM X vV) 0 [(0, va_rf r0), (1, .int x1), (2, .int x2)] [] (f_X2_addStep r0 x1 x2) := by
  unfold f_X2_addStep
  refine sm_aload_n cx 0 dX2_addStep_0 rfl rfl ?_
  refine sm_getI cx fl_X2_40 dX2_addStep_1 (fun v1 => ?_)
  refine sm_if_lt (tgt := 45) cx dX2_addStep_4 (by decide) ?_ ?_
  · exact sm_lv [] rfl (s_X2_addStep_45 cx hfr hlo hr)
  · refine sm_aload_n cx 0 dX2_addStep_7 rfl rfl ?_
    refine sm_getI cx fl_X2_40 dX2_addStep_8 (fun v8 => ?_)
    refine sm_aload_n cx 0 dX2_addStep_11 rfl rfl ?_
    refine sm_getR cx fl_X2_11 dX2_addStep_12 (fun v12 => ?_)
    refine sm_alen cx 1 (by decide) dX2_addStep_15 (fun v15 => ?_)
    refine sm_icmp_ge (tgt := 45) cx dX2_addStep_16 (by decide) ?_ ?_
    · exact sm_lv [] rfl (s_X2_addStep_45 cx hfr hlo hr)
    · refine sm_aload_n cx 0 dX2_addStep_19 rfl rfl ?_
      refine sm_getR cx fl_X2_11 dX2_addStep_20 (fun v20 => ?_)
      refine sm_aload_n cx 0 dX2_addStep_23 rfl rfl ?_
      refine sm_getI cx fl_X2_40 dX2_addStep_24 (fun v24 => ?_)
      refine sm_iload_n cx 1 dX2_addStep_27 rfl rfl ?_
      refine sm_sipush (v := 256) cx dX2_addStep_28 (by decide) ?_
      refine sm_imul cx dX2_addStep_31 ?_
      refine sm_iload_n cx 2 dX2_addStep_32 rfl rfl ?_
      refine sm_iadd cx dX2_addStep_33 ?_
      refine sm_iast cx dX2_addStep_34 ?_
      refine sm_aload_n cx 0 dX2_addStep_35 rfl rfl ?_
      refine sm_dup cx dX2_addStep_36 (rf_cat _) ?_
      refine sm_getI cx fl_X2_40 dX2_addStep_37 (fun v37 => ?_)
      refine sm_iconst (v := 1) cx dX2_addStep_40 (by decide) ?_
      refine sm_iadd cx dX2_addStep_41 ?_
      refine sm_putV cx fl_X2_40 rfl rfl dX2_addStep_42 ?_
      exact sm_lv [] rfl (s_X2_addStep_45 cx hfr hlo hr)
set_option maxRecDepth 100000 in
set_option maxHeartbeats 4000000 in
theorem ct_X2_addStep (Z : Nat → Nat) {r0 : Option Nat} (a0 : Nat) (h0 : r0 = some a0) (x1 : Int32) (x2 : Int32) : Ct yX2_addStep cX2_addStep 3 none 0 0 Z [.ref a0, .int x1, .int x2] vV (f_X2_addStep r0 x1 x2) := by
  subst h0
  refine ct_of (lv0 := [(0, va_rf (some a0)), (1, .int x1), (2, .int x2)]) (by decide +kernel) (by simp [lg_sl, ct_i, ct_l, ct_r, rf_cat]) (by show _ = ([(0, Value.ref a0), (1, .int x1), (2, .int x2)] : List (Nat × Value)); simp [lv_args, ct_i, ct_l, ct_r, rf_cat]) (fun X cx hZ hfr hlo hr hin => ?_)
  subst hZ
  exact s_X2_addStep cx (Nat.le_of_eq hfr.symm) (Nat.le_of_eq hlo.symm) hr (some a0) x1 x2
/-! PolicyTree$FilterReader.blame(II)V -/
theorem dX2_blame_0 : decode cX2_blame 0 = .ok (.aload_n 0, 1) := by decide +kernel
theorem dX2_blame_1 : decode cX2_blame 1 = .ok (.getfield 34, 3) := by decide +kernel
theorem dX2_blame_4 : decode cX2_blame 4 = .ok (.ifCond .ne 13, 3) := by decide +kernel
theorem dX2_blame_7 : decode cX2_blame 7 = .ok (.aload_n 0, 1) := by decide +kernel
theorem dX2_blame_8 : decode cX2_blame 8 = .ok (.iload_n 1, 1) := by decide +kernel
theorem dX2_blame_9 : decode cX2_blame 9 = .ok (.putfield 34, 3) := by decide +kernel
theorem dX2_blame_12 : decode cX2_blame 12 = .ok (.aload_n 0, 1) := by decide +kernel
theorem dX2_blame_13 : decode cX2_blame 13 = .ok (.iload_n 2, 1) := by decide +kernel
theorem dX2_blame_14 : decode cX2_blame 14 = .ok (.putfield 37, 3) := by decide +kernel
theorem dX2_blame_17 : decode cX2_blame 17 = .ok (.return_, 1) := by decide +kernel
def f_X2_blame_17 : Mo Unit := mp ()
set_option maxRecDepth 100000 in
set_option maxHeartbeats 4000000 in
theorem s_X2_blame_17 {X : Cg} (cx : Cx X cX2_blame RX2 3) (hfr : 0 ≤ (xR X).frames) (hlo : 0 ≤ (xR X).locals) (hr : (xM X).sig.returnType = none) : Sim X 3 (FiM X vV) 17 [] [] (f_X2_blame_17) := by
  unfold f_X2_blame_17
  exact sm_vret cx hr dX2_blame_17
def f_X2_blame (r0 : Option Nat) (x1 : Int32) (x2 : Int32) : Mo Unit := mb (gI 5 5 r0) (fun v1 => (if v1 = 0 then mb (pV 5 5 r0 (.int x1)) (fun _ => mb (pV 5 6 r0 (.int x2)) (fun _ => f_X2_blame_17)) else f_X2_blame_17))
set_option maxRecDepth 100000 in
set_option maxHeartbeats 4000000 in
theorem s_X2_blame {X : Cg} (cx : Cx X cX2_blame RX2 3) (hfr : 0 ≤ (xR X).frames) (hlo : 0 ≤ (xR X).locals) (hr : (xM X).sig.returnType = none) (r0 : Option Nat) (x1 : Int32) (x2 : Int32) : Sim X 3 (FiM X vV) 0 [(0, va_rf r0), (1, .int x1), (2, .int x2)] [] (f_X2_blame r0 x1 x2) := by
  unfold f_X2_blame
  refine sm_aload_n cx 0 dX2_blame_0 rfl rfl ?_
  refine sm_getI cx fl_X2_34 dX2_blame_1 (fun v1 => ?_)
  refine sm_if_ne (tgt := 17) cx dX2_blame_4 (by decide) ?_ ?_
  · exact sm_lv [] rfl (s_X2_blame_17 cx hfr hlo hr)
  · refine sm_aload_n cx 0 dX2_blame_7 rfl rfl ?_
    refine sm_iload_n cx 1 dX2_blame_8 rfl rfl ?_
    refine sm_putV cx fl_X2_34 rfl rfl dX2_blame_9 ?_
    refine sm_aload_n cx 0 dX2_blame_12 rfl rfl ?_
    refine sm_iload_n cx 2 dX2_blame_13 rfl rfl ?_
    refine sm_putV cx fl_X2_37 rfl rfl dX2_blame_14 ?_
    exact sm_lv [] rfl (s_X2_blame_17 cx hfr hlo hr)
set_option maxRecDepth 100000 in
set_option maxHeartbeats 4000000 in
theorem ct_X2_blame (Z : Nat → Nat) {r0 : Option Nat} (a0 : Nat) (h0 : r0 = some a0) (x1 : Int32) (x2 : Int32) : Ct yX2_blame cX2_blame 3 none 0 0 Z [.ref a0, .int x1, .int x2] vV (f_X2_blame r0 x1 x2) := by
  subst h0
  refine ct_of (lv0 := [(0, va_rf (some a0)), (1, .int x1), (2, .int x2)]) (by decide +kernel) (by simp [lg_sl, ct_i, ct_l, ct_r, rf_cat]) (by show _ = ([(0, Value.ref a0), (1, .int x1), (2, .int x2)] : List (Nat × Value)); simp [lv_args, ct_i, ct_l, ct_r, rf_cat]) (fun X cx hZ hfr hlo hr hin => ?_)
  subst hZ
  exact s_X2_blame cx (Nat.le_of_eq hfr.symm) (Nat.le_of_eq hlo.symm) hr (some a0) x1 x2
/-! PolicyTree$FilterReader.mayOpen(II)Z -/
theorem dX2_mayOpen_0 : decode cX2_mayOpen 0 = .ok (.iload_n 1, 1) := by decide +kernel
theorem dX2_mayOpen_1 : decode cX2_mayOpen 1 = .ok (.bipush 10, 2) := by decide +kernel
theorem dX2_mayOpen_3 : decode cX2_mayOpen 3 = .ok (.if_icmp .lt 9, 3) := by decide +kernel
theorem dX2_mayOpen_6 : decode cX2_mayOpen 6 = .ok (.aload_n 0, 1) := by decide +kernel
theorem dX2_mayOpen_7 : decode cX2_mayOpen 7 = .ok (.iconst 3, 1) := by decide +kernel
theorem dX2_mayOpen_8 : decode cX2_mayOpen 8 = .ok (.iload_n 2, 1) := by decide +kernel
theorem dX2_mayOpen_9 : decode cX2_mayOpen 9 = .ok (.invokevirtual 50, 3) := by decide +kernel
theorem dX2_mayOpen_12 : decode cX2_mayOpen 12 = .ok (.aload_n 0, 1) := by decide +kernel
theorem dX2_mayOpen_13 : decode cX2_mayOpen 13 = .ok (.getfield 34, 3) := by decide +kernel
theorem dX2_mayOpen_16 : decode cX2_mayOpen 16 = .ok (.ifCond .ne 7, 3) := by decide +kernel
theorem dX2_mayOpen_19 : decode cX2_mayOpen 19 = .ok (.iconst 1, 1) := by decide +kernel
theorem dX2_mayOpen_20 : decode cX2_mayOpen 20 = .ok (.goto 4, 3) := by decide +kernel
theorem dX2_mayOpen_23 : decode cX2_mayOpen 23 = .ok (.iconst 0, 1) := by decide +kernel
theorem dX2_mayOpen_24 : decode cX2_mayOpen 24 = .ok (.ireturn, 1) := by decide +kernel
def f_X2_mayOpen_24 (sx0 : Int32) : Mo Int32 := rz .boolean sx0
set_option maxRecDepth 100000 in
set_option maxHeartbeats 4000000 in
theorem s_X2_mayOpen_24 {X : Cg} (cx : Cx X cX2_mayOpen RX2 3) (hfr : 1 ≤ (xR X).frames) (hlo : 22 ≤ (xR X).locals) (hr : (xM X).sig.returnType = (some .boolean)) (sx0 : Int32) : Sim X 3 (FiM X vI) 24 [] [.int sx0] (f_X2_mayOpen_24 sx0) := by
  unfold f_X2_mayOpen_24
  exact sm_zret cx hr dX2_mayOpen_24
def f_X2_mayOpen_12 (r0 : Option Nat) : Mo Int32 := mb (gI 5 5 r0) (fun v13 => (if v13 = 0 then f_X2_mayOpen_24 (1 : Int32) else f_X2_mayOpen_24 (0 : Int32)))
set_option maxRecDepth 100000 in
set_option maxHeartbeats 4000000 in
theorem s_X2_mayOpen_12 {X : Cg} (cx : Cx X cX2_mayOpen RX2 3) (hfr : 1 ≤ (xR X).frames) (hlo : 22 ≤ (xR X).locals) (hr : (xM X).sig.returnType = (some .boolean)) (r0 : Option Nat) : Sim X 3 (FiM X vI) 12 [(0, va_rf r0)] [] (f_X2_mayOpen_12 r0) := by
  unfold f_X2_mayOpen_12
  refine sm_aload_n cx 0 dX2_mayOpen_12 rfl rfl ?_
  refine sm_getI cx fl_X2_34 dX2_mayOpen_13 (fun v13 => ?_)
  refine sm_if_ne (tgt := 23) cx dX2_mayOpen_16 (by decide) ?_ ?_
  · refine sm_iconst (v := 0) cx dX2_mayOpen_23 (by decide) ?_
    exact sm_lv [] rfl (s_X2_mayOpen_24 cx hfr hlo hr (0 : Int32))
  · refine sm_iconst (v := 1) cx dX2_mayOpen_19 (by decide) ?_
    refine sm_goto (tgt := 24) cx dX2_mayOpen_20 (by decide) ?_
    exact sm_lv [] rfl (s_X2_mayOpen_24 cx hfr hlo hr (1 : Int32))
def f_X2_mayOpen (r0 : Option Nat) (x1 : Int32) (x2 : Int32) : Mo Int32 := (if x1 < (10 : Int32) then f_X2_mayOpen_12 r0 else mb (mo 5 r0 (f_X2_blame r0 (3 : Int32) x2)) (fun _ => f_X2_mayOpen_12 r0))
set_option maxRecDepth 100000 in
set_option maxHeartbeats 4000000 in
theorem s_X2_mayOpen {X : Cg} (cx : Cx X cX2_mayOpen RX2 3) (hfr : 1 ≤ (xR X).frames) (hlo : 22 ≤ (xR X).locals) (hr : (xM X).sig.returnType = (some .boolean)) (r0 : Option Nat) (x1 : Int32) (x2 : Int32) : Sim X 3 (FiM X vI) 0 [(0, va_rf r0), (1, .int x1), (2, .int x2)] [] (f_X2_mayOpen r0 x1 x2) := by
  unfold f_X2_mayOpen
  refine sm_iload_n cx 1 dX2_mayOpen_0 rfl rfl ?_
  refine sm_bipush (v := 10) cx dX2_mayOpen_1 (by decide) ?_
  refine sm_icmp_lt (tgt := 12) cx dX2_mayOpen_3 (by decide) ?_ ?_
  · exact sm_lv [0] rfl (s_X2_mayOpen_12 cx hfr hlo hr r0)
  · refine sm_aload_n cx 0 dX2_mayOpen_6 rfl rfl ?_
    refine sm_iconst (v := 3) cx dX2_mayOpen_7 (by decide) ?_
    refine sm_iload_n cx 2 dX2_mayOpen_8 rfl rfl ?_
    refine sm_callV (T := TX2) (N := 9) (toV := vV) cx [.int (3 : Int32), .int x2] rfl cv_X2_50 (fun a h => ct_X2_blame (xZ X) a h (3 : Int32) x2) (Nat.le_trans (by decide) hfr) (Nat.le_trans (by decide) hlo) rfl (cat_le _ (Nat.le_of_ble_eq_true rfl)) dX2_mayOpen_9 (fun _ => ?_)
    exact sm_lv [0] rfl (s_X2_mayOpen_12 cx hfr hlo hr r0)
set_option maxRecDepth 100000 in
set_option maxHeartbeats 4000000 in
theorem ct_X2_mayOpen (Z : Nat → Nat) {r0 : Option Nat} (a0 : Nat) (h0 : r0 = some a0) (x1 : Int32) (x2 : Int32) : Ct yX2_mayOpen cX2_mayOpen 3 (some .boolean) 1 22 Z [.ref a0, .int x1, .int x2] vI (f_X2_mayOpen r0 x1 x2) := by
  subst h0
  refine ct_of (lv0 := [(0, va_rf (some a0)), (1, .int x1), (2, .int x2)]) (by decide +kernel) (by simp [lg_sl, ct_i, ct_l, ct_r, rf_cat]) (by show _ = ([(0, Value.ref a0), (1, .int x1), (2, .int x2)] : List (Nat × Value)); simp [lv_args, ct_i, ct_l, ct_r, rf_cat]) (fun X cx hZ hfr hlo hr hin => ?_)
  subst hZ
  exact s_X2_mayOpen cx (Nat.le_of_eq hfr.symm) (Nat.le_of_eq hlo.symm) hr (some a0) x1 x2
/-! PolicyTree$FilterReader.readNumber(II)V -/
theorem dX2_readNumber_0 : decode cX2_readNumber 0 = .ok (.aload_n 0, 1) := by decide +kernel
theorem dX2_readNumber_1 : decode cX2_readNumber 1 = .ok (.invokevirtual 43, 3) := by decide +kernel
theorem dX2_readNumber_4 : decode cX2_readNumber 4 = .ok (.aload_n 0, 1) := by decide +kernel
theorem dX2_readNumber_5 : decode cX2_readNumber 5 = .ok (.getfield 31, 3) := by decide +kernel
theorem dX2_readNumber_8 : decode cX2_readNumber 8 = .ok (.istore_n 3, 1) := by decide +kernel
theorem dX2_readNumber_9 : decode cX2_readNumber 9 = .ok (.iconst 0, 1) := by decide +kernel
theorem dX2_readNumber_10 : decode cX2_readNumber 10 = .ok (.istore 4, 2) := by decide +kernel
theorem dX2_readNumber_12 : decode cX2_readNumber 12 = .ok (.aload_n 0, 1) := by decide +kernel
theorem dX2_readNumber_13 : decode cX2_readNumber 13 = .ok (.getfield 31, 3) := by decide +kernel
theorem dX2_readNumber_16 : decode cX2_readNumber 16 = .ok (.aload_n 0, 1) := by decide +kernel
theorem dX2_readNumber_17 : decode cX2_readNumber 17 = .ok (.getfield 21, 3) := by decide +kernel
theorem dX2_readNumber_20 : decode cX2_readNumber 20 = .ok (.if_icmp .ge 65, 3) := by decide +kernel
theorem dX2_readNumber_23 : decode cX2_readNumber 23 = .ok (.aload_n 0, 1) := by decide +kernel
theorem dX2_readNumber_24 : decode cX2_readNumber 24 = .ok (.getfield 17, 3) := by decide +kernel
theorem dX2_readNumber_27 : decode cX2_readNumber 27 = .ok (.aload_n 0, 1) := by decide +kernel
theorem dX2_readNumber_28 : decode cX2_readNumber 28 = .ok (.getfield 31, 3) := by decide +kernel
theorem dX2_readNumber_31 : decode cX2_readNumber 31 = .ok (.invokevirtual 107, 3) := by decide +kernel
theorem dX2_readNumber_34 : decode cX2_readNumber 34 = .ok (.bipush 48, 2) := by decide +kernel
theorem dX2_readNumber_36 : decode cX2_readNumber 36 = .ok (.bipush 57, 2) := by decide +kernel
theorem dX2_readNumber_38 : decode cX2_readNumber 38 = .ok (.invokestatic 111, 3) := by decide +kernel
theorem dX2_readNumber_41 : decode cX2_readNumber 41 = .ok (.ifCond .eq 44, 3) := by decide +kernel
theorem dX2_readNumber_44 : decode cX2_readNumber 44 = .ok (.iload 4, 2) := by decide +kernel
theorem dX2_readNumber_46 : decode cX2_readNumber 46 = .ok (.bipush 10, 2) := by decide +kernel
theorem dX2_readNumber_48 : decode cX2_readNumber 48 = .ok (.imul, 1) := by decide +kernel
theorem dX2_readNumber_49 : decode cX2_readNumber 49 = .ok (.aload_n 0, 1) := by decide +kernel
theorem dX2_readNumber_50 : decode cX2_readNumber 50 = .ok (.getfield 17, 3) := by decide +kernel
theorem dX2_readNumber_53 : decode cX2_readNumber 53 = .ok (.aload_n 0, 1) := by decide +kernel
theorem dX2_readNumber_54 : decode cX2_readNumber 54 = .ok (.getfield 31, 3) := by decide +kernel
theorem dX2_readNumber_57 : decode cX2_readNumber 57 = .ok (.invokevirtual 107, 3) := by decide +kernel
theorem dX2_readNumber_60 : decode cX2_readNumber 60 = .ok (.iadd, 1) := by decide +kernel
theorem dX2_readNumber_61 : decode cX2_readNumber 61 = .ok (.bipush 48, 2) := by decide +kernel
theorem dX2_readNumber_63 : decode cX2_readNumber 63 = .ok (.isub, 1) := by decide +kernel
theorem dX2_readNumber_64 : decode cX2_readNumber 64 = .ok (.sipush 255, 3) := by decide +kernel
theorem dX2_readNumber_67 : decode cX2_readNumber 67 = .ok (.invokestatic 115, 3) := by decide +kernel
theorem dX2_readNumber_70 : decode cX2_readNumber 70 = .ok (.istore 4, 2) := by decide +kernel
theorem dX2_readNumber_72 : decode cX2_readNumber 72 = .ok (.aload_n 0, 1) := by decide +kernel
theorem dX2_readNumber_73 : decode cX2_readNumber 73 = .ok (.dup, 1) := by decide +kernel
theorem dX2_readNumber_74 : decode cX2_readNumber 74 = .ok (.getfield 31, 3) := by decide +kernel
theorem dX2_readNumber_77 : decode cX2_readNumber 77 = .ok (.iconst 1, 1) := by decide +kernel
theorem dX2_readNumber_78 : decode cX2_readNumber 78 = .ok (.iadd, 1) := by decide +kernel
theorem dX2_readNumber_79 : decode cX2_readNumber 79 = .ok (.putfield 31, 3) := by decide +kernel
theorem dX2_readNumber_82 : decode cX2_readNumber 82 = .ok (.goto (-70), 3) := by decide +kernel
theorem dX2_readNumber_85 : decode cX2_readNumber 85 = .ok (.aload_n 0, 1) := by decide +kernel
theorem dX2_readNumber_86 : decode cX2_readNumber 86 = .ok (.getfield 31, 3) := by decide +kernel
theorem dX2_readNumber_89 : decode cX2_readNumber 89 = .ok (.iload_n 3, 1) := by decide +kernel
theorem dX2_readNumber_90 : decode cX2_readNumber 90 = .ok (.if_icmp .ne 15, 3) := by decide +kernel
theorem dX2_readNumber_93 : decode cX2_readNumber 93 = .ok (.aload_n 0, 1) := by decide +kernel
theorem dX2_readNumber_94 : decode cX2_readNumber 94 = .ok (.iconst 1, 1) := by decide +kernel
theorem dX2_readNumber_95 : decode cX2_readNumber 95 = .ok (.aload_n 0, 1) := by decide +kernel
theorem dX2_readNumber_96 : decode cX2_readNumber 96 = .ok (.getfield 31, 3) := by decide +kernel
theorem dX2_readNumber_99 : decode cX2_readNumber 99 = .ok (.invokevirtual 50, 3) := by decide +kernel
theorem dX2_readNumber_102 : decode cX2_readNumber 102 = .ok (.goto 25, 3) := by decide +kernel
theorem dX2_readNumber_105 : decode cX2_readNumber 105 = .ok (.iload 4, 2) := by decide +kernel
theorem dX2_readNumber_107 : decode cX2_readNumber 107 = .ok (.iload_n 2, 1) := by decide +kernel
theorem dX2_readNumber_108 : decode cX2_readNumber 108 = .ok (.if_icmp .lt 12, 3) := by decide +kernel
theorem dX2_readNumber_111 : decode cX2_readNumber 111 = .ok (.aload_n 0, 1) := by decide +kernel
theorem dX2_readNumber_112 : decode cX2_readNumber 112 = .ok (.iconst 2, 1) := by decide +kernel
theorem dX2_readNumber_113 : decode cX2_readNumber 113 = .ok (.iload_n 3, 1) := by decide +kernel
theorem dX2_readNumber_114 : decode cX2_readNumber 114 = .ok (.invokevirtual 50, 3) := by decide +kernel
theorem dX2_readNumber_117 : decode cX2_readNumber 117 = .ok (.goto 10, 3) := by decide +kernel
theorem dX2_readNumber_120 : decode cX2_readNumber 120 = .ok (.aload_n 0, 1) := by decide +kernel
theorem dX2_readNumber_121 : decode cX2_readNumber 121 = .ok (.iload_n 1, 1) := by decide +kernel
theorem dX2_readNumber_122 : decode cX2_readNumber 122 = .ok (.iload 4, 2) := by decide +kernel
theorem dX2_readNumber_124 : decode cX2_readNumber 124 = .ok (.invokevirtual 80, 3) := by decide +kernel
theorem dX2_readNumber_127 : decode cX2_readNumber 127 = .ok (.return_, 1) := by decide +kernel
def f_X2_readNumber_127 : Mo Unit := mp ()
set_option maxRecDepth 100000 in
set_option maxHeartbeats 4000000 in
theorem s_X2_readNumber_127 {X : Cg} (cx : Cx X cX2_readNumber RX2 5) (hfr : 2 ≤ (xR X).frames) (hlo : 41 ≤ (xR X).locals) (hr : (xM X).sig.returnType = none) : Sim X 5 (FiM X vV) 127 [] [] (f_X2_readNumber_127) := by
  unfold f_X2_readNumber_127
  exact sm_vret cx hr dX2_readNumber_127
def f_X2_readNumber_85 (r0 : Option Nat) (x1 : Int32) (x2 : Int32) (x3 : Int32) (x4 : Int32) : Mo Unit := mb (gI 5 4 r0) (fun v86 => (if v86 = x3 then mb (gI 5 4 r0) (fun v96 => mb (mo 5 r0 (f_X2_blame r0 (1 : Int32) v96)) (fun _ => f_X2_readNumber_127)) else (if x4 < x2 then mb (mo 5 r0 (f_X2_addStep r0 x1 x4)) (fun _ => f_X2_readNumber_127) else mb (mo 5 r0 (f_X2_blame r0 (2 : Int32) x3)) (fun _ => f_X2_readNumber_127))))
set_option maxRecDepth 100000 in
set_option maxHeartbeats 4000000 in
theorem s_X2_readNumber_85 {X : Cg} (cx : Cx X cX2_readNumber RX2 5) (hfr : 2 ≤ (xR X).frames) (hlo : 41 ≤ (xR X).locals) (hr : (xM X).sig.returnType = none) (r0 : Option Nat) (x1 : Int32) (x2 : Int32) (x3 : Int32) (x4 : Int32) : Sim X 5 (FiM X vV) 85 [(0, va_rf r0), (1, .int x1), (2, .int x2), (3, .int x3), (4, .int x4)] [] (f_X2_readNumber_85 r0 x1 x2 x3 x4) := by
  unfold f_X2_readNumber_85
  refine sm_aload_n cx 0 dX2_readNumber_85 rfl rfl ?_
  refine sm_getI cx fl_X2_31 dX2_readNumber_86 (fun v86 => ?_)
  refine sm_iload_n cx 3 dX2_readNumber_89 rfl rfl ?_
  refine sm_icmp_ne (tgt := 105) cx dX2_readNumber_90 (by decide) ?_ ?_
  · refine sm_iload cx 4 dX2_readNumber_105 rfl ?_
    refine sm_iload_n cx 2 dX2_readNumber_107 rfl rfl ?_
    refine sm_icmp_lt (tgt := 120) cx dX2_readNumber_108 (by decide) ?_ ?_
    · refine sm_aload_n cx 0 dX2_readNumber_120 rfl rfl ?_
      refine sm_iload_n cx 1 dX2_readNumber_121 rfl rfl ?_
      refine sm_iload cx 4 dX2_readNumber_122 rfl ?_
      refine sm_callV (T := TX2) (N := 9) (toV := vV) cx [.int x1, .int x4] rfl cv_X2_80 (fun a h => ct_X2_addStep (xZ X) a h x1 x4) (Nat.le_trans (by decide) hfr) (Nat.le_trans (by decide) hlo) rfl (cat_le _ (Nat.le_of_ble_eq_true rfl)) dX2_readNumber_124 (fun _ => ?_)
      exact sm_lv [] rfl (s_X2_readNumber_127 cx hfr hlo hr)
    · refine sm_aload_n cx 0 dX2_readNumber_111 rfl rfl ?_
      refine sm_iconst (v := 2) cx dX2_readNumber_112 (by decide) ?_
      refine sm_iload_n cx 3 dX2_readNumber_113 rfl rfl ?_
      refine sm_callV (T := TX2) (N := 9) (toV := vV) cx [.int (2 : Int32), .int x3] rfl cv_X2_50 (fun a h => ct_X2_blame (xZ X) a h (2 : Int32) x3) (Nat.le_trans (by decide) hfr) (Nat.le_trans (by decide) hlo) rfl (cat_le _ (Nat.le_of_ble_eq_true rfl)) dX2_readNumber_114 (fun _ => ?_)
      refine sm_goto (tgt := 127) cx dX2_readNumber_117 (by decide) ?_
      exact sm_lv [] rfl (s_X2_readNumber_127 cx hfr hlo hr)
  · refine sm_aload_n cx 0 dX2_readNumber_93 rfl rfl ?_
    refine sm_iconst (v := 1) cx dX2_readNumber_94 (by decide) ?_
    refine sm_aload_n cx 0 dX2_readNumber_95 rfl rfl ?_
    refine sm_getI cx fl_X2_31 dX2_readNumber_96 (fun v96 => ?_)
    refine sm_callV (T := TX2) (N := 9) (toV := vV) cx [.int (1 : Int32), .int v96] rfl cv_X2_50 (fun a h => ct_X2_blame (xZ X) a h (1 : Int32) v96) (Nat.le_trans (by decide) hfr) (Nat.le_trans (by decide) hlo) rfl (cat_le _ (Nat.le_of_ble_eq_true rfl)) dX2_readNumber_99 (fun _ => ?_)
    refine sm_goto (tgt := 127) cx dX2_readNumber_102 (by decide) ?_
    exact sm_lv [] rfl (s_X2_readNumber_127 cx hfr hlo hr)
def f_X2_readNumber_12 (r0 : Option Nat) (x1 : Int32) (x2 : Int32) (x3 : Int32) : Nat → Int32 → Mo Unit
  | 0, _ => mf
  | n + 1, x4 => mb (gI 5 4 r0) (fun v13 => mb (gI 5 1 r0) (fun v17 => (if v17 ≤ v13 then f_X2_readNumber_85 r0 x1 x2 x3 x4 else mb (gR 5 0 r0) (fun v24 => mb (gI 5 4 r0) (fun v28 => mb (mo 13 v24 (f_X10_byteAt v24 v28)) (fun v31 => mb (f_X2_isBetween v31 (48 : Int32) (57 : Int32)) (fun v38 => (if v38 = 0 then f_X2_readNumber_85 r0 x1 x2 x3 x4 else mb (gR 5 0 r0) (fun v50 => mb (gI 5 4 r0) (fun v54 => mb (mo 13 v50 (f_X10_byteAt v50 v54)) (fun v57 => mb (gI 5 4 r0) (fun v74 => mb (pV 5 4 r0 (.int (v74 + (1 : Int32)))) (fun _ => (f_X2_readNumber_12 r0 x1 x2 x3 n) (jMn (((x4 * (10 : Int32)) + v57) - (48 : Int32)) (255 : Int32)))))))))))))))
set_option maxRecDepth 100000 in
set_option maxHeartbeats 4000000 in
theorem s_X2_readNumber_12 {X : Cg} (cx : Cx X cX2_readNumber RX2 5) (hfr : 2 ≤ (xR X).frames) (hlo : 41 ≤ (xR X).locals) (hr : (xM X).sig.returnType = none) (r0 : Option Nat) (x1 : Int32) (x2 : Int32) (x3 : Int32) : ∀ (n : Nat) (x4 : Int32), Sim X 5 (FiM X vV) 12 [(0, va_rf r0), (1, .int x1), (2, .int x2), (3, .int x3), (4, .int x4)] [] (f_X2_readNumber_12 r0 x1 x2 x3 n x4) := by
  intro n
  induction n with
  | zero =>
    intro _
    exact sm_mf
  | succ n ih =>
    intro x4
    rw [f_X2_readNumber_12]
    refine sm_aload_n cx 0 dX2_readNumber_12 rfl rfl ?_
    refine sm_getI cx fl_X2_31 dX2_readNumber_13 (fun v13 => ?_)
    refine sm_aload_n cx 0 dX2_readNumber_16 rfl rfl ?_
    refine sm_getI cx fl_X2_21 dX2_readNumber_17 (fun v17 => ?_)
    refine sm_icmp_ge (tgt := 85) cx dX2_readNumber_20 (by decide) ?_ ?_
    · exact sm_lv [0, 1, 2, 3, 4] rfl (s_X2_readNumber_85 cx hfr hlo hr r0 x1 x2 x3 x4)
    · refine sm_aload_n cx 0 dX2_readNumber_23 rfl rfl ?_
      refine sm_getR cx fl_X2_17 dX2_readNumber_24 (fun v24 => ?_)
      refine sm_aload_n cx 0 dX2_readNumber_27 rfl rfl ?_
      refine sm_getI cx fl_X2_31 dX2_readNumber_28 (fun v28 => ?_)
      refine sm_callV (T := TX10) (N := 2) (toV := vI) cx [.int v28] rfl cv_X2_107 (fun a h => ct_X10_byteAt (xZ X) a h v28) (Nat.le_trans (by decide) hfr) (Nat.le_trans (by decide) hlo) rfl (cat_le _ (Nat.le_of_ble_eq_true rfl)) dX2_readNumber_31 (fun v31 => ?_)
      refine sm_bipush (v := 48) cx dX2_readNumber_34 (by decide) ?_
      refine sm_bipush (v := 57) cx dX2_readNumber_36 (by decide) ?_
      refine sm_callS (toV := vI) cx [.int v31, .int (48 : Int32), .int (57 : Int32)] cs_X2_111 (ct_X2_isBetween (xZ X) v31 (48 : Int32) (57 : Int32)) (Nat.le_trans (by decide) hfr) (Nat.le_trans (by decide) hlo) rfl (cat_le _ (Nat.le_of_ble_eq_true rfl)) dX2_readNumber_38 (fun v38 => ?_)
      refine sm_if_eq (tgt := 85) cx dX2_readNumber_41 (by decide) ?_ ?_
      · exact sm_lv [0, 1, 2, 3, 4] rfl (s_X2_readNumber_85 cx hfr hlo hr r0 x1 x2 x3 x4)
      · refine sm_iload cx 4 dX2_readNumber_44 rfl ?_
        refine sm_bipush (v := 10) cx dX2_readNumber_46 (by decide) ?_
        refine sm_imul cx dX2_readNumber_48 ?_
        refine sm_aload_n cx 0 dX2_readNumber_49 rfl rfl ?_
        refine sm_getR cx fl_X2_17 dX2_readNumber_50 (fun v50 => ?_)
        refine sm_aload_n cx 0 dX2_readNumber_53 rfl rfl ?_
        refine sm_getI cx fl_X2_31 dX2_readNumber_54 (fun v54 => ?_)
        refine sm_callV (T := TX10) (N := 2) (toV := vI) cx [.int v54] rfl cv_X2_107 (fun a h => ct_X10_byteAt (xZ X) a h v54) (Nat.le_trans (by decide) hfr) (Nat.le_trans (by decide) hlo) rfl (cat_le _ (Nat.le_of_ble_eq_true rfl)) dX2_readNumber_57 (fun v57 => ?_)
        refine sm_iadd cx dX2_readNumber_60 ?_
        refine sm_bipush (v := 48) cx dX2_readNumber_61 (by decide) ?_
        refine sm_isub cx dX2_readNumber_63 ?_
        refine sm_sipush (v := 255) cx dX2_readNumber_64 (by decide) ?_
        refine sm_mmin cx wd_4_181 wd_2_42 wd_1_13 wd_2_43 (Nat.le_trans (by decide) hfr) (Nat.le_trans (Nat.add_le_add_right (cat_le _ (Nat.le_of_ble_eq_true rfl)) 13) (Nat.le_trans (by decide) hlo)) dX2_readNumber_67 ?_
        refine sm_istore cx [(4, .int (jMn (((x4 * (10 : Int32)) + v57) - (48 : Int32)) (255 : Int32))), (0, va_rf r0), (1, .int x1), (2, .int x2), (3, .int x3)] dX2_readNumber_70 (by decide) rfl (nc1 rfl) rfl ?_
        refine sm_aload_n cx 1 dX2_readNumber_72 rfl rfl ?_
        refine sm_dup cx dX2_readNumber_73 (rf_cat _) ?_
        refine sm_getI cx fl_X2_31 dX2_readNumber_74 (fun v74 => ?_)
        refine sm_iconst (v := 1) cx dX2_readNumber_77 (by decide) ?_
        refine sm_iadd cx dX2_readNumber_78 ?_
        refine sm_putV cx fl_X2_31 rfl rfl dX2_readNumber_79 ?_
        refine sm_goto (tgt := 12) cx dX2_readNumber_82 (by decide) ?_
        exact sm_lv [1, 2, 3, 4, 0] rfl (ih (jMn (((x4 * (10 : Int32)) + v57) - (48 : Int32)) (255 : Int32)))
def f_X2_readNumber (r0 : Option Nat) (x1 : Int32) (x2 : Int32) : Mo Unit := mb (mo 5 r0 (f_X2_skipBlanks r0)) (fun _ => mb (gI 5 4 r0) (fun v5 => f_X2_readNumber_12 r0 x1 x2 v5 fuL (0 : Int32)))
set_option maxRecDepth 100000 in
set_option maxHeartbeats 4000000 in
theorem s_X2_readNumber {X : Cg} (cx : Cx X cX2_readNumber RX2 5) (hfr : 2 ≤ (xR X).frames) (hlo : 41 ≤ (xR X).locals) (hr : (xM X).sig.returnType = none) (r0 : Option Nat) (x1 : Int32) (x2 : Int32) : Sim X 5 (FiM X vV) 0 [(0, va_rf r0), (1, .int x1), (2, .int x2)] [] (f_X2_readNumber r0 x1 x2) := by
  unfold f_X2_readNumber
  refine sm_aload_n cx 0 dX2_readNumber_0 rfl rfl ?_
  refine sm_callV (T := TX2) (N := 9) (toV := vV) cx [] rfl cv_X2_43 (fun a h => ct_X2_skipBlanks (xZ X) a h) (Nat.le_trans (by decide) hfr) (Nat.le_trans (by decide) hlo) rfl (cat_le _ (Nat.le_of_ble_eq_true rfl)) dX2_readNumber_1 (fun _ => ?_)
  refine sm_aload_n cx 0 dX2_readNumber_4 rfl rfl ?_
  refine sm_getI cx fl_X2_31 dX2_readNumber_5 (fun v5 => ?_)
  refine sm_istore_n cx [(3, .int v5), (0, va_rf r0), (1, .int x1), (2, .int x2)] dX2_readNumber_8 rfl (by decide) rfl (nc1 rfl) rfl ?_
  refine sm_iconst (v := 0) cx dX2_readNumber_9 (by decide) ?_
  refine sm_istore cx [(4, .int (0 : Int32)), (3, .int v5), (0, va_rf r0), (1, .int x1), (2, .int x2)] dX2_readNumber_10 (by decide) rfl (nc1 rfl) rfl ?_
  exact sm_lv [2, 3, 4, 1, 0] rfl (s_X2_readNumber_12 cx hfr hlo hr r0 x1 x2 v5 fuL (0 : Int32))
set_option maxRecDepth 100000 in
set_option maxHeartbeats 4000000 in
theorem ct_X2_readNumber (Z : Nat → Nat) {r0 : Option Nat} (a0 : Nat) (h0 : r0 = some a0) (x1 : Int32) (x2 : Int32) : Ct yX2_readNumber cX2_readNumber 5 none 2 41 Z [.ref a0, .int x1, .int x2] vV (f_X2_readNumber r0 x1 x2) := by
  subst h0
  refine ct_of (lv0 := [(0, va_rf (some a0)), (1, .int x1), (2, .int x2)]) (by decide +kernel) (by simp [lg_sl, ct_i, ct_l, ct_r, rf_cat]) (by show _ = ([(0, Value.ref a0), (1, .int x1), (2, .int x2)] : List (Nat × Value)); simp [lv_args, ct_i, ct_l, ct_r, rf_cat]) (fun X cx hZ hfr hlo hr hin => ?_)
  subst hZ
  exact s_X2_readNumber cx (Nat.le_of_eq hfr.symm) (Nat.le_of_eq hlo.symm) hr (some a0) x1 x2
/-! PolicyTree$FilterReader.readOne(I)V -/
theorem dX2_readOne_0 : decode cX2_readOne 0 = .ok (.aload_n 0, 1) := by decide +kernel
theorem dX2_readOne_1 : decode cX2_readOne 1 = .ok (.invokevirtual 43, 3) := by decide +kernel
theorem dX2_readOne_4 : decode cX2_readOne 4 = .ok (.aload_n 0, 1) := by decide +kernel
theorem dX2_readOne_5 : decode cX2_readOne 5 = .ok (.getfield 31, 3) := by decide +kernel
theorem dX2_readOne_8 : decode cX2_readOne 8 = .ok (.istore_n 2, 1) := by decide +kernel
theorem dX2_readOne_9 : decode cX2_readOne 9 = .ok (.aload_n 0, 1) := by decide +kernel
theorem dX2_readOne_10 : decode cX2_readOne 10 = .ok (.bipush 40, 2) := by decide +kernel
theorem dX2_readOne_12 : decode cX2_readOne 12 = .ok (.invokevirtual 88, 3) := by decide +kernel
theorem dX2_readOne_15 : decode cX2_readOne 15 = .ok (.ifCond .eq 44, 3) := by decide +kernel
theorem dX2_readOne_18 : decode cX2_readOne 18 = .ok (.aload_n 0, 1) := by decide +kernel
theorem dX2_readOne_19 : decode cX2_readOne 19 = .ok (.iload_n 1, 1) := by decide +kernel
theorem dX2_readOne_20 : decode cX2_readOne 20 = .ok (.iload_n 2, 1) := by decide +kernel
theorem dX2_readOne_21 : decode cX2_readOne 21 = .ok (.invokevirtual 92, 3) := by decide +kernel
theorem dX2_readOne_24 : decode cX2_readOne 24 = .ok (.ifCond .eq 139, 3) := by decide +kernel
theorem dX2_readOne_27 : decode cX2_readOne 27 = .ok (.aload_n 0, 1) := by decide +kernel
theorem dX2_readOne_28 : decode cX2_readOne 28 = .ok (.iload_n 1, 1) := by decide +kernel
theorem dX2_readOne_29 : decode cX2_readOne 29 = .ok (.iconst 1, 1) := by decide +kernel
theorem dX2_readOne_30 : decode cX2_readOne 30 = .ok (.iadd, 1) := by decide +kernel
theorem dX2_readOne_31 : decode cX2_readOne 31 = .ok (.invokevirtual 46, 3) := by decide +kernel
theorem dX2_readOne_34 : decode cX2_readOne 34 = .ok (.aload_n 0, 1) := by decide +kernel
theorem dX2_readOne_35 : decode cX2_readOne 35 = .ok (.invokevirtual 43, 3) := by decide +kernel
theorem dX2_readOne_38 : decode cX2_readOne 38 = .ok (.aload_n 0, 1) := by decide +kernel
theorem dX2_readOne_39 : decode cX2_readOne 39 = .ok (.bipush 41, 2) := by decide +kernel
theorem dX2_readOne_41 : decode cX2_readOne 41 = .ok (.invokevirtual 88, 3) := by decide +kernel
theorem dX2_readOne_44 : decode cX2_readOne 44 = .ok (.ifCond .ne 119, 3) := by decide +kernel
theorem dX2_readOne_47 : decode cX2_readOne 47 = .ok (.aload_n 0, 1) := by decide +kernel
theorem dX2_readOne_48 : decode cX2_readOne 48 = .ok (.iconst 1, 1) := by decide +kernel
theorem dX2_readOne_49 : decode cX2_readOne 49 = .ok (.aload_n 0, 1) := by decide +kernel
theorem dX2_readOne_50 : decode cX2_readOne 50 = .ok (.getfield 31, 3) := by decide +kernel
theorem dX2_readOne_53 : decode cX2_readOne 53 = .ok (.invokevirtual 50, 3) := by decide +kernel
theorem dX2_readOne_56 : decode cX2_readOne 56 = .ok (.goto 107, 3) := by decide +kernel
theorem dX2_readOne_59 : decode cX2_readOne 59 = .ok (.aload_n 0, 1) := by decide +kernel
theorem dX2_readOne_60 : decode cX2_readOne 60 = .ok (.ldc 96, 2) := by decide +kernel
theorem dX2_readOne_62 : decode cX2_readOne 62 = .ok (.invokevirtual 76, 3) := by decide +kernel
theorem dX2_readOne_65 : decode cX2_readOne 65 = .ok (.ifCond .eq 28, 3) := by decide +kernel
theorem dX2_readOne_68 : decode cX2_readOne 68 = .ok (.aload_n 0, 1) := by decide +kernel
theorem dX2_readOne_69 : decode cX2_readOne 69 = .ok (.iload_n 1, 1) := by decide +kernel
theorem dX2_readOne_70 : decode cX2_readOne 70 = .ok (.iload_n 2, 1) := by decide +kernel
theorem dX2_readOne_71 : decode cX2_readOne 71 = .ok (.invokevirtual 92, 3) := by decide +kernel
theorem dX2_readOne_74 : decode cX2_readOne 74 = .ok (.ifCond .eq 89, 3) := by decide +kernel
theorem dX2_readOne_77 : decode cX2_readOne 77 = .ok (.aload_n 0, 1) := by decide +kernel
theorem dX2_readOne_78 : decode cX2_readOne 78 = .ok (.iload_n 1, 1) := by decide +kernel
theorem dX2_readOne_79 : decode cX2_readOne 79 = .ok (.iconst 1, 1) := by decide +kernel
theorem dX2_readOne_80 : decode cX2_readOne 80 = .ok (.iadd, 1) := by decide +kernel
theorem dX2_readOne_81 : decode cX2_readOne 81 = .ok (.invokevirtual 83, 3) := by decide +kernel
theorem dX2_readOne_84 : decode cX2_readOne 84 = .ok (.aload_n 0, 1) := by decide +kernel
theorem dX2_readOne_85 : decode cX2_readOne 85 = .ok (.iconst 3, 1) := by decide +kernel
theorem dX2_readOne_86 : decode cX2_readOne 86 = .ok (.iconst 0, 1) := by decide +kernel
theorem dX2_readOne_87 : decode cX2_readOne 87 = .ok (.invokevirtual 80, 3) := by decide +kernel
theorem dX2_readOne_90 : decode cX2_readOne 90 = .ok (.goto 73, 3) := by decide +kernel
theorem dX2_readOne_93 : decode cX2_readOne 93 = .ok (.aload_n 0, 1) := by decide +kernel
theorem dX2_readOne_94 : decode cX2_readOne 94 = .ok (.ldc 98, 2) := by decide +kernel
theorem dX2_readOne_96 : decode cX2_readOne 96 = .ok (.invokevirtual 76, 3) := by decide +kernel
theorem dX2_readOne_99 : decode cX2_readOne 99 = .ok (.ifCond .eq 15, 3) := by decide +kernel
theorem dX2_readOne_102 : decode cX2_readOne 102 = .ok (.aload_n 0, 1) := by decide +kernel
theorem dX2_readOne_103 : decode cX2_readOne 103 = .ok (.iconst 0, 1) := by decide +kernel
theorem dX2_readOne_104 : decode cX2_readOne 104 = .ok (.aload_n 0, 1) := by decide +kernel
theorem dX2_readOne_105 : decode cX2_readOne 105 = .ok (.getfield 25, 3) := by decide +kernel
theorem dX2_readOne_108 : decode cX2_readOne 108 = .ok (.invokevirtual 100, 3) := by decide +kernel
theorem dX2_readOne_111 : decode cX2_readOne 111 = .ok (.goto 52, 3) := by decide +kernel
theorem dX2_readOne_114 : decode cX2_readOne 114 = .ok (.aload_n 0, 1) := by decide +kernel
theorem dX2_readOne_115 : decode cX2_readOne 115 = .ok (.ldc 103, 2) := by decide +kernel
theorem dX2_readOne_117 : decode cX2_readOne 117 = .ok (.invokevirtual 76, 3) := by decide +kernel
theorem dX2_readOne_120 : decode cX2_readOne 120 = .ok (.ifCond .eq 13, 3) := by decide +kernel
theorem dX2_readOne_123 : decode cX2_readOne 123 = .ok (.aload_n 0, 1) := by decide +kernel
theorem dX2_readOne_124 : decode cX2_readOne 124 = .ok (.iconst 1, 1) := by decide +kernel
theorem dX2_readOne_125 : decode cX2_readOne 125 = .ok (.bipush 8, 2) := by decide +kernel
theorem dX2_readOne_127 : decode cX2_readOne 127 = .ok (.invokevirtual 100, 3) := by decide +kernel
theorem dX2_readOne_130 : decode cX2_readOne 130 = .ok (.goto 33, 3) := by decide +kernel
theorem dX2_readOne_133 : decode cX2_readOne 133 = .ok (.aload_n 0, 1) := by decide +kernel
theorem dX2_readOne_134 : decode cX2_readOne 134 = .ok (.ldc 105, 2) := by decide +kernel
theorem dX2_readOne_136 : decode cX2_readOne 136 = .ok (.invokevirtual 76, 3) := by decide +kernel
theorem dX2_readOne_139 : decode cX2_readOne 139 = .ok (.ifCond .eq 15, 3) := by decide +kernel
theorem dX2_readOne_142 : decode cX2_readOne 142 = .ok (.aload_n 0, 1) := by decide +kernel
theorem dX2_readOne_143 : decode cX2_readOne 143 = .ok (.iconst 2, 1) := by decide +kernel
theorem dX2_readOne_144 : decode cX2_readOne 144 = .ok (.aload_n 0, 1) := by decide +kernel
theorem dX2_readOne_145 : decode cX2_readOne 145 = .ok (.getfield 28, 3) := by decide +kernel
theorem dX2_readOne_148 : decode cX2_readOne 148 = .ok (.invokevirtual 100, 3) := by decide +kernel
theorem dX2_readOne_151 : decode cX2_readOne 151 = .ok (.goto 12, 3) := by decide +kernel
theorem dX2_readOne_154 : decode cX2_readOne 154 = .ok (.aload_n 0, 1) := by decide +kernel
theorem dX2_readOne_155 : decode cX2_readOne 155 = .ok (.iconst 1, 1) := by decide +kernel
theorem dX2_readOne_156 : decode cX2_readOne 156 = .ok (.aload_n 0, 1) := by decide +kernel
theorem dX2_readOne_157 : decode cX2_readOne 157 = .ok (.getfield 31, 3) := by decide +kernel
theorem dX2_readOne_160 : decode cX2_readOne 160 = .ok (.invokevirtual 50, 3) := by decide +kernel
theorem dX2_readOne_163 : decode cX2_readOne 163 = .ok (.return_, 1) := by decide +kernel
def f_X2_readOne_163 (Z : Nat → Nat) (g1 : Option Nat → Int32 → Mo Unit) (g2 : Option Nat → Int32 → Mo Unit) : Mo Unit := mp ()
set_option maxRecDepth 100000 in
set_option maxHeartbeats 4000000 in
theorem s_X2_readOne_163 {X : Cg} (cx : Cx X cX2_readOne RX2 3) (hfr : 5 ≤ (xR X).frames) (hlo : 108 ≤ (xR X).locals) (hr : (xM X).sig.returnType = none) {g1 : Option Nat → Int32 → Mo Unit} {fo1 lo1 : Nat} (c1 : ∀ {r9 : Option Nat} (a9 : Nat), r9 = some a9 → ∀ (y0 : Int32), Ct yX2_readEither cX2_readEither 3 none fo1 lo1 (xZ X) [.ref a9, .int y0] vV (g1 r9 y0)) (hfo1 : fo1 + 1 ≤ (xR X).frames) (hlo1 : 8 + (3 + 11) + lo1 ≤ (xR X).locals) {g2 : Option Nat → Int32 → Mo Unit} {fo2 lo2 : Nat} (c2 : ∀ {r9 : Option Nat} (a9 : Nat), r9 = some a9 → ∀ (y0 : Int32), Ct yX2_readOne cX2_readOne 3 none fo2 lo2 (xZ X) [.ref a9, .int y0] vV (g2 r9 y0)) (hfo2 : fo2 + 1 ≤ (xR X).frames) (hlo2 : 8 + (3 + 11) + lo2 ≤ (xR X).locals) : Sim X 3 (FiM X vV) 163 [] [] (f_X2_readOne_163 (xZ X) g1 g2) := by
  unfold f_X2_readOne_163
  exact sm_vret cx hr dX2_readOne_163
def f_X2_readOne (Z : Nat → Nat) (g1 : Option Nat → Int32 → Mo Unit) (g2 : Option Nat → Int32 → Mo Unit) (r0 : Option Nat) (x1 : Int32) : Mo Unit := mb (mo 5 r0 (f_X2_skipBlanks r0)) (fun _ => mb (gI 5 4 r0) (fun v5 => mb (mo 5 r0 (f_X2_takesByte r0 (40 : Int32))) (fun v12 => (if v12 = 0 then mb (mo 5 r0 (f_X2_takesWord Z r0 (some (Z 10)))) (fun v62 => (if v62 = 0 then mb (mo 5 r0 (f_X2_takesWord Z r0 (some (Z 11)))) (fun v96 => (if v96 = 0 then mb (mo 5 r0 (f_X2_takesWord Z r0 (some (Z 12)))) (fun v117 => (if v117 = 0 then mb (mo 5 r0 (f_X2_takesWord Z r0 (some (Z 13)))) (fun v136 => (if v136 = 0 then mb (gI 5 4 r0) (fun v157 => mb (mo 5 r0 (f_X2_blame r0 (1 : Int32) v157)) (fun _ => f_X2_readOne_163 Z g1 g2)) else mb (gI 5 3 r0) (fun v145 => mb (mo 5 r0 (f_X2_readNumber r0 (2 : Int32) v145)) (fun _ => f_X2_readOne_163 Z g1 g2)))) else mb (mo 5 r0 (f_X2_readNumber r0 (1 : Int32) (8 : Int32))) (fun _ => f_X2_readOne_163 Z g1 g2))) else mb (gI 5 2 r0) (fun v105 => mb (mo 5 r0 (f_X2_readNumber r0 (0 : Int32) v105)) (fun _ => f_X2_readOne_163 Z g1 g2)))) else mb (mo 5 r0 (f_X2_mayOpen r0 x1 v5)) (fun v71 => (if v71 = 0 then f_X2_readOne_163 Z g1 g2 else mb (mo 5 r0 (g2 r0 (x1 + (1 : Int32)))) (fun _ => mb (mo 5 r0 (f_X2_addStep r0 (3 : Int32) (0 : Int32))) (fun _ => f_X2_readOne_163 Z g1 g2)))))) else mb (mo 5 r0 (f_X2_mayOpen r0 x1 v5)) (fun v21 => (if v21 = 0 then f_X2_readOne_163 Z g1 g2 else mb (mo 5 r0 (g1 r0 (x1 + (1 : Int32)))) (fun _ => mb (mo 5 r0 (f_X2_skipBlanks r0)) (fun _ => mb (mo 5 r0 (f_X2_takesByte r0 (41 : Int32))) (fun v41 => (if v41 = 0 then mb (gI 5 4 r0) (fun v50 => mb (mo 5 r0 (f_X2_blame r0 (1 : Int32) v50)) (fun _ => f_X2_readOne_163 Z g1 g2)) else f_X2_readOne_163 Z g1 g2))))))))))
set_option maxRecDepth 100000 in
set_option maxHeartbeats 4000000 in
theorem s_X2_readOne {X : Cg} (cx : Cx X cX2_readOne RX2 3) (hfr : 5 ≤ (xR X).frames) (hlo : 108 ≤ (xR X).locals) (hr : (xM X).sig.returnType = none) {g1 : Option Nat → Int32 → Mo Unit} {fo1 lo1 : Nat} (c1 : ∀ {r9 : Option Nat} (a9 : Nat), r9 = some a9 → ∀ (y0 : Int32), Ct yX2_readEither cX2_readEither 3 none fo1 lo1 (xZ X) [.ref a9, .int y0] vV (g1 r9 y0)) (hfo1 : fo1 + 1 ≤ (xR X).frames) (hlo1 : 8 + (3 + 11) + lo1 ≤ (xR X).locals) {g2 : Option Nat → Int32 → Mo Unit} {fo2 lo2 : Nat} (c2 : ∀ {r9 : Option Nat} (a9 : Nat), r9 = some a9 → ∀ (y0 : Int32), Ct yX2_readOne cX2_readOne 3 none fo2 lo2 (xZ X) [.ref a9, .int y0] vV (g2 r9 y0)) (hfo2 : fo2 + 1 ≤ (xR X).frames) (hlo2 : 8 + (3 + 11) + lo2 ≤ (xR X).locals) (r0 : Option Nat) (x1 : Int32) : Sim X 3 (FiM X vV) 0 [(0, va_rf r0), (1, .int x1)] [] (f_X2_readOne (xZ X) g1 g2 r0 x1) := by
  unfold f_X2_readOne
  refine sm_aload_n cx 0 dX2_readOne_0 rfl rfl ?_
  refine sm_callV (T := TX2) (N := 9) (toV := vV) cx [] rfl cv_X2_43 (fun a h => ct_X2_skipBlanks (xZ X) a h) (Nat.le_trans (by decide) hfr) (Nat.le_trans (by decide) hlo) rfl (cat_le _ (Nat.le_of_ble_eq_true rfl)) dX2_readOne_1 (fun _ => ?_)
  refine sm_aload_n cx 0 dX2_readOne_4 rfl rfl ?_
  refine sm_getI cx fl_X2_31 dX2_readOne_5 (fun v5 => ?_)
  refine sm_istore_n cx [(2, .int v5), (0, va_rf r0), (1, .int x1)] dX2_readOne_8 rfl (by decide) rfl (nc1 rfl) rfl ?_
  refine sm_aload_n cx 1 dX2_readOne_9 rfl rfl ?_
  refine sm_bipush (v := 40) cx dX2_readOne_10 (by decide) ?_
  refine sm_callV (T := TX2) (N := 9) (toV := vI) cx [.int (40 : Int32)] rfl cv_X2_88 (fun a h => ct_X2_takesByte (xZ X) a h (40 : Int32)) (Nat.le_trans (by decide) hfr) (Nat.le_trans (by decide) hlo) rfl (cat_le _ (Nat.le_of_ble_eq_true rfl)) dX2_readOne_12 (fun v12 => ?_)
  refine sm_if_eq (tgt := 59) cx dX2_readOne_15 (by decide) ?_ ?_
  · refine sm_aload_n cx 1 dX2_readOne_59 rfl rfl ?_
    refine sm_ldcS cx ("PolicyTree$FilterReader", 96, "not", 0) (List.mem_of_getElem? (i := 0) rfl) rfl rfl dX2_readOne_60 ?_
    refine sm_callV (T := TX2) (N := 9) (toV := vI) cx [va_rf (some ((xZ X) 10))] rfl cv_X2_76 (fun a h => ct_X2_takesWord (xZ X) a h (some ((xZ X) 10))) (Nat.le_trans (by decide) hfr) (Nat.le_trans (by decide) hlo) rfl (cat_le _ (Nat.le_of_ble_eq_true rfl)) dX2_readOne_62 (fun v62 => ?_)
    refine sm_if_eq (tgt := 93) cx dX2_readOne_65 (by decide) ?_ ?_
    · refine sm_aload_n cx 1 dX2_readOne_93 rfl rfl ?_
      refine sm_ldcS cx ("PolicyTree$FilterReader", 98, "group", 1) (List.mem_of_getElem? (i := 1) rfl) rfl rfl dX2_readOne_94 ?_
      refine sm_callV (T := TX2) (N := 9) (toV := vI) cx [va_rf (some ((xZ X) 11))] rfl cv_X2_76 (fun a h => ct_X2_takesWord (xZ X) a h (some ((xZ X) 11))) (Nat.le_trans (by decide) hfr) (Nat.le_trans (by decide) hlo) rfl (cat_le _ (Nat.le_of_ble_eq_true rfl)) dX2_readOne_96 (fun v96 => ?_)
      refine sm_if_eq (tgt := 114) cx dX2_readOne_99 (by decide) ?_ ?_
      · refine sm_aload_n cx 1 dX2_readOne_114 rfl rfl ?_
        refine sm_ldcS cx ("PolicyTree$FilterReader", 103, "fact", 2) (List.mem_of_getElem? (i := 2) rfl) rfl rfl dX2_readOne_115 ?_
        refine sm_callV (T := TX2) (N := 9) (toV := vI) cx [va_rf (some ((xZ X) 12))] rfl cv_X2_76 (fun a h => ct_X2_takesWord (xZ X) a h (some ((xZ X) 12))) (Nat.le_trans (by decide) hfr) (Nat.le_trans (by decide) hlo) rfl (cat_le _ (Nat.le_of_ble_eq_true rfl)) dX2_readOne_117 (fun v117 => ?_)
        refine sm_if_eq (tgt := 133) cx dX2_readOne_120 (by decide) ?_ ?_
        · refine sm_aload_n cx 1 dX2_readOne_133 rfl rfl ?_
          refine sm_ldcS cx ("PolicyTree$FilterReader", 105, "node", 3) (List.mem_of_getElem? (i := 3) rfl) rfl rfl dX2_readOne_134 ?_
          refine sm_callV (T := TX2) (N := 9) (toV := vI) cx [va_rf (some ((xZ X) 13))] rfl cv_X2_76 (fun a h => ct_X2_takesWord (xZ X) a h (some ((xZ X) 13))) (Nat.le_trans (by decide) hfr) (Nat.le_trans (by decide) hlo) rfl (cat_le _ (Nat.le_of_ble_eq_true rfl)) dX2_readOne_136 (fun v136 => ?_)
          refine sm_if_eq (tgt := 154) cx dX2_readOne_139 (by decide) ?_ ?_
          · refine sm_aload_n cx 1 dX2_readOne_154 rfl rfl ?_
            refine sm_iconst (v := 1) cx dX2_readOne_155 (by decide) ?_
            refine sm_aload_n cx 1 dX2_readOne_156 rfl rfl ?_
            refine sm_getI cx fl_X2_31 dX2_readOne_157 (fun v157 => ?_)
            refine sm_callV (T := TX2) (N := 9) (toV := vV) cx [.int (1 : Int32), .int v157] rfl cv_X2_50 (fun a h => ct_X2_blame (xZ X) a h (1 : Int32) v157) (Nat.le_trans (by decide) hfr) (Nat.le_trans (by decide) hlo) rfl (cat_le _ (Nat.le_of_ble_eq_true rfl)) dX2_readOne_160 (fun _ => ?_)
            exact sm_lv [] rfl (s_X2_readOne_163 cx hfr hlo hr c1 hfo1 hlo1 c2 hfo2 hlo2)
          · refine sm_aload_n cx 1 dX2_readOne_142 rfl rfl ?_
            refine sm_iconst (v := 2) cx dX2_readOne_143 (by decide) ?_
            refine sm_aload_n cx 1 dX2_readOne_144 rfl rfl ?_
            refine sm_getI cx fl_X2_28 dX2_readOne_145 (fun v145 => ?_)
            refine sm_callV (T := TX2) (N := 9) (toV := vV) cx [.int (2 : Int32), .int v145] rfl cv_X2_100 (fun a h => ct_X2_readNumber (xZ X) a h (2 : Int32) v145) (Nat.le_trans (by decide) hfr) (Nat.le_trans (by decide) hlo) rfl (cat_le _ (Nat.le_of_ble_eq_true rfl)) dX2_readOne_148 (fun _ => ?_)
            refine sm_goto (tgt := 163) cx dX2_readOne_151 (by decide) ?_
            exact sm_lv [] rfl (s_X2_readOne_163 cx hfr hlo hr c1 hfo1 hlo1 c2 hfo2 hlo2)
        · refine sm_aload_n cx 1 dX2_readOne_123 rfl rfl ?_
          refine sm_iconst (v := 1) cx dX2_readOne_124 (by decide) ?_
          refine sm_bipush (v := 8) cx dX2_readOne_125 (by decide) ?_
          refine sm_callV (T := TX2) (N := 9) (toV := vV) cx [.int (1 : Int32), .int (8 : Int32)] rfl cv_X2_100 (fun a h => ct_X2_readNumber (xZ X) a h (1 : Int32) (8 : Int32)) (Nat.le_trans (by decide) hfr) (Nat.le_trans (by decide) hlo) rfl (cat_le _ (Nat.le_of_ble_eq_true rfl)) dX2_readOne_127 (fun _ => ?_)
          refine sm_goto (tgt := 163) cx dX2_readOne_130 (by decide) ?_
          exact sm_lv [] rfl (s_X2_readOne_163 cx hfr hlo hr c1 hfo1 hlo1 c2 hfo2 hlo2)
      · refine sm_aload_n cx 1 dX2_readOne_102 rfl rfl ?_
        refine sm_iconst (v := 0) cx dX2_readOne_103 (by decide) ?_
        refine sm_aload_n cx 1 dX2_readOne_104 rfl rfl ?_
        refine sm_getI cx fl_X2_25 dX2_readOne_105 (fun v105 => ?_)
        refine sm_callV (T := TX2) (N := 9) (toV := vV) cx [.int (0 : Int32), .int v105] rfl cv_X2_100 (fun a h => ct_X2_readNumber (xZ X) a h (0 : Int32) v105) (Nat.le_trans (by decide) hfr) (Nat.le_trans (by decide) hlo) rfl (cat_le _ (Nat.le_of_ble_eq_true rfl)) dX2_readOne_108 (fun _ => ?_)
        refine sm_goto (tgt := 163) cx dX2_readOne_111 (by decide) ?_
        exact sm_lv [] rfl (s_X2_readOne_163 cx hfr hlo hr c1 hfo1 hlo1 c2 hfo2 hlo2)
    · refine sm_aload_n cx 1 dX2_readOne_68 rfl rfl ?_
      refine sm_iload_n cx 2 dX2_readOne_69 rfl rfl ?_
      refine sm_iload_n cx 0 dX2_readOne_70 rfl rfl ?_
      refine sm_callV (T := TX2) (N := 9) (toV := vI) cx [.int x1, .int v5] rfl cv_X2_92 (fun a h => ct_X2_mayOpen (xZ X) a h x1 v5) (Nat.le_trans (by decide) hfr) (Nat.le_trans (by decide) hlo) rfl (cat_le _ (Nat.le_of_ble_eq_true rfl)) dX2_readOne_71 (fun v71 => ?_)
      refine sm_if_eq (tgt := 163) cx dX2_readOne_74 (by decide) ?_ ?_
      · exact sm_lv [] rfl (s_X2_readOne_163 cx hfr hlo hr c1 hfo1 hlo1 c2 hfo2 hlo2)
      · refine sm_aload_n cx 1 dX2_readOne_77 rfl rfl ?_
        refine sm_iload_n cx 2 dX2_readOne_78 rfl rfl ?_
        refine sm_iconst (v := 1) cx dX2_readOne_79 (by decide) ?_
        refine sm_iadd cx dX2_readOne_80 ?_
        refine sm_callV (T := TX2) (N := 9) (toV := vV) cx [.int (x1 + (1 : Int32))] rfl cv_X2_83 (fun a h => c2 a h (x1 + (1 : Int32))) hfo2 hlo2 rfl (cat_le _ (Nat.le_of_ble_eq_true rfl)) dX2_readOne_81 (fun _ => ?_)
        refine sm_aload_n cx 1 dX2_readOne_84 rfl rfl ?_
        refine sm_iconst (v := 3) cx dX2_readOne_85 (by decide) ?_
        refine sm_iconst (v := 0) cx dX2_readOne_86 (by decide) ?_
        refine sm_callV (T := TX2) (N := 9) (toV := vV) cx [.int (3 : Int32), .int (0 : Int32)] rfl cv_X2_80 (fun a h => ct_X2_addStep (xZ X) a h (3 : Int32) (0 : Int32)) (Nat.le_trans (by decide) hfr) (Nat.le_trans (by decide) hlo) rfl (cat_le _ (Nat.le_of_ble_eq_true rfl)) dX2_readOne_87 (fun _ => ?_)
        refine sm_goto (tgt := 163) cx dX2_readOne_90 (by decide) ?_
        exact sm_lv [] rfl (s_X2_readOne_163 cx hfr hlo hr c1 hfo1 hlo1 c2 hfo2 hlo2)
  · refine sm_aload_n cx 1 dX2_readOne_18 rfl rfl ?_
    refine sm_iload_n cx 2 dX2_readOne_19 rfl rfl ?_
    refine sm_iload_n cx 0 dX2_readOne_20 rfl rfl ?_
    refine sm_callV (T := TX2) (N := 9) (toV := vI) cx [.int x1, .int v5] rfl cv_X2_92 (fun a h => ct_X2_mayOpen (xZ X) a h x1 v5) (Nat.le_trans (by decide) hfr) (Nat.le_trans (by decide) hlo) rfl (cat_le _ (Nat.le_of_ble_eq_true rfl)) dX2_readOne_21 (fun v21 => ?_)
    refine sm_if_eq (tgt := 163) cx dX2_readOne_24 (by decide) ?_ ?_
    · exact sm_lv [] rfl (s_X2_readOne_163 cx hfr hlo hr c1 hfo1 hlo1 c2 hfo2 hlo2)
    · refine sm_aload_n cx 1 dX2_readOne_27 rfl rfl ?_
      refine sm_iload_n cx 2 dX2_readOne_28 rfl rfl ?_
      refine sm_iconst (v := 1) cx dX2_readOne_29 (by decide) ?_
      refine sm_iadd cx dX2_readOne_30 ?_
      refine sm_callV (T := TX2) (N := 9) (toV := vV) cx [.int (x1 + (1 : Int32))] rfl cv_X2_46 (fun a h => c1 a h (x1 + (1 : Int32))) hfo1 hlo1 rfl (cat_le _ (Nat.le_of_ble_eq_true rfl)) dX2_readOne_31 (fun _ => ?_)
      refine sm_aload_n cx 1 dX2_readOne_34 rfl rfl ?_
      refine sm_callV (T := TX2) (N := 9) (toV := vV) cx [] rfl cv_X2_43 (fun a h => ct_X2_skipBlanks (xZ X) a h) (Nat.le_trans (by decide) hfr) (Nat.le_trans (by decide) hlo) rfl (cat_le _ (Nat.le_of_ble_eq_true rfl)) dX2_readOne_35 (fun _ => ?_)
      refine sm_aload_n cx 1 dX2_readOne_38 rfl rfl ?_
      refine sm_bipush (v := 41) cx dX2_readOne_39 (by decide) ?_
      refine sm_callV (T := TX2) (N := 9) (toV := vI) cx [.int (41 : Int32)] rfl cv_X2_88 (fun a h => ct_X2_takesByte (xZ X) a h (41 : Int32)) (Nat.le_trans (by decide) hfr) (Nat.le_trans (by decide) hlo) rfl (cat_le _ (Nat.le_of_ble_eq_true rfl)) dX2_readOne_41 (fun v41 => ?_)
      refine sm_if_ne (tgt := 163) cx dX2_readOne_44 (by decide) ?_ ?_
      · exact sm_lv [] rfl (s_X2_readOne_163 cx hfr hlo hr c1 hfo1 hlo1 c2 hfo2 hlo2)
      · refine sm_aload_n cx 1 dX2_readOne_47 rfl rfl ?_
        refine sm_iconst (v := 1) cx dX2_readOne_48 (by decide) ?_
        refine sm_aload_n cx 1 dX2_readOne_49 rfl rfl ?_
        refine sm_getI cx fl_X2_31 dX2_readOne_50 (fun v50 => ?_)
        refine sm_callV (T := TX2) (N := 9) (toV := vV) cx [.int (1 : Int32), .int v50] rfl cv_X2_50 (fun a h => ct_X2_blame (xZ X) a h (1 : Int32) v50) (Nat.le_trans (by decide) hfr) (Nat.le_trans (by decide) hlo) rfl (cat_le _ (Nat.le_of_ble_eq_true rfl)) dX2_readOne_53 (fun _ => ?_)
        refine sm_goto (tgt := 163) cx dX2_readOne_56 (by decide) ?_
        exact sm_lv [] rfl (s_X2_readOne_163 cx hfr hlo hr c1 hfo1 hlo1 c2 hfo2 hlo2)
/-! PolicyTree$FilterReader.readBoth(I)V -/
theorem dX2_readBoth_0 : decode cX2_readBoth 0 = .ok (.aload_n 0, 1) := by decide +kernel
theorem dX2_readBoth_1 : decode cX2_readBoth 1 = .ok (.iload_n 1, 1) := by decide +kernel
theorem dX2_readBoth_2 : decode cX2_readBoth 2 = .ok (.invokevirtual 83, 3) := by decide +kernel
theorem dX2_readBoth_5 : decode cX2_readBoth 5 = .ok (.iconst 0, 1) := by decide +kernel
theorem dX2_readBoth_6 : decode cX2_readBoth 6 = .ok (.istore_n 2, 1) := by decide +kernel
theorem dX2_readBoth_7 : decode cX2_readBoth 7 = .ok (.iload_n 2, 1) := by decide +kernel
theorem dX2_readBoth_8 : decode cX2_readBoth 8 = .ok (.sipush 200, 3) := by decide +kernel
theorem dX2_readBoth_11 : decode cX2_readBoth 11 = .ok (.if_icmp .ge 29, 3) := by decide +kernel
theorem dX2_readBoth_14 : decode cX2_readBoth 14 = .ok (.aload_n 0, 1) := by decide +kernel
theorem dX2_readBoth_15 : decode cX2_readBoth 15 = .ok (.ldc 86, 2) := by decide +kernel
theorem dX2_readBoth_17 : decode cX2_readBoth 17 = .ok (.invokevirtual 76, 3) := by decide +kernel
theorem dX2_readBoth_20 : decode cX2_readBoth 20 = .ok (.ifCond .eq 20, 3) := by decide +kernel
theorem dX2_readBoth_23 : decode cX2_readBoth 23 = .ok (.aload_n 0, 1) := by decide +kernel
theorem dX2_readBoth_24 : decode cX2_readBoth 24 = .ok (.iload_n 1, 1) := by decide +kernel
theorem dX2_readBoth_25 : decode cX2_readBoth 25 = .ok (.invokevirtual 83, 3) := by decide +kernel
theorem dX2_readBoth_28 : decode cX2_readBoth 28 = .ok (.aload_n 0, 1) := by decide +kernel
theorem dX2_readBoth_29 : decode cX2_readBoth 29 = .ok (.iconst 4, 1) := by decide +kernel
theorem dX2_readBoth_30 : decode cX2_readBoth 30 = .ok (.iconst 0, 1) := by decide +kernel
theorem dX2_readBoth_31 : decode cX2_readBoth 31 = .ok (.invokevirtual 80, 3) := by decide +kernel
theorem dX2_readBoth_34 : decode cX2_readBoth 34 = .ok (.iinc 2 1, 3) := by decide +kernel
theorem dX2_readBoth_37 : decode cX2_readBoth 37 = .ok (.goto (-30), 3) := by decide +kernel
theorem dX2_readBoth_40 : decode cX2_readBoth 40 = .ok (.return_, 1) := by decide +kernel
def f_X2_readBoth_40 (Z : Nat → Nat) (g1 : Option Nat → Int32 → Mo Unit) : Mo Unit := mp ()
set_option maxRecDepth 100000 in
set_option maxHeartbeats 4000000 in
theorem s_X2_readBoth_40 {X : Cg} (cx : Cx X cX2_readBoth RX2 3) (hfr : 5 ≤ (xR X).frames) (hlo : 108 ≤ (xR X).locals) (hr : (xM X).sig.returnType = none) {g1 : Option Nat → Int32 → Mo Unit} {fo1 lo1 : Nat} (c1 : ∀ {r9 : Option Nat} (a9 : Nat), r9 = some a9 → ∀ (y0 : Int32), Ct yX2_readOne cX2_readOne 3 none fo1 lo1 (xZ X) [.ref a9, .int y0] vV (g1 r9 y0)) (hfo1 : fo1 + 1 ≤ (xR X).frames) (hlo1 : 8 + (3 + 11) + lo1 ≤ (xR X).locals) : Sim X 3 (FiM X vV) 40 [] [] (f_X2_readBoth_40 (xZ X) g1) := by
  unfold f_X2_readBoth_40
  exact sm_vret cx hr dX2_readBoth_40
def f_X2_readBoth_7 (Z : Nat → Nat) (g1 : Option Nat → Int32 → Mo Unit) (r0 : Option Nat) (x1 : Int32) : Nat → Int32 → Mo Unit
  | 0, _ => mf
  | n + 1, x2 => (if (200 : Int32) ≤ x2 then f_X2_readBoth_40 Z g1 else mb (mo 5 r0 (f_X2_takesWord Z r0 (some (Z 14)))) (fun v17 => (if v17 = 0 then f_X2_readBoth_40 Z g1 else mb (mo 5 r0 (g1 r0 x1)) (fun _ => mb (mo 5 r0 (f_X2_addStep r0 (4 : Int32) (0 : Int32))) (fun _ => (f_X2_readBoth_7 Z g1 r0 x1 n) (x2 + 1))))))
set_option maxRecDepth 100000 in
set_option maxHeartbeats 4000000 in
theorem s_X2_readBoth_7 {X : Cg} (cx : Cx X cX2_readBoth RX2 3) (hfr : 5 ≤ (xR X).frames) (hlo : 108 ≤ (xR X).locals) (hr : (xM X).sig.returnType = none) {g1 : Option Nat → Int32 → Mo Unit} {fo1 lo1 : Nat} (c1 : ∀ {r9 : Option Nat} (a9 : Nat), r9 = some a9 → ∀ (y0 : Int32), Ct yX2_readOne cX2_readOne 3 none fo1 lo1 (xZ X) [.ref a9, .int y0] vV (g1 r9 y0)) (hfo1 : fo1 + 1 ≤ (xR X).frames) (hlo1 : 8 + (3 + 11) + lo1 ≤ (xR X).locals) (r0 : Option Nat) (x1 : Int32) : ∀ (n : Nat) (x2 : Int32), Sim X 3 (FiM X vV) 7 [(0, va_rf r0), (1, .int x1), (2, .int x2)] [] (f_X2_readBoth_7 (xZ X) g1 r0 x1 n x2) := by
  intro n
  induction n with
  | zero =>
    intro _
    exact sm_mf
  | succ n ih =>
    intro x2
    rw [f_X2_readBoth_7]
    refine sm_iload_n cx 2 dX2_readBoth_7 rfl rfl ?_
    refine sm_sipush (v := 200) cx dX2_readBoth_8 (by decide) ?_
    refine sm_icmp_ge (tgt := 40) cx dX2_readBoth_11 (by decide) ?_ ?_
    · exact sm_lv [] rfl (s_X2_readBoth_40 cx hfr hlo hr c1 hfo1 hlo1)
    · refine sm_aload_n cx 0 dX2_readBoth_14 rfl rfl ?_
      refine sm_ldcS cx ("PolicyTree$FilterReader", 86, "and", 4) (List.mem_of_getElem? (i := 4) rfl) rfl rfl dX2_readBoth_15 ?_
      refine sm_callV (T := TX2) (N := 9) (toV := vI) cx [va_rf (some ((xZ X) 14))] rfl cv_X2_76 (fun a h => ct_X2_takesWord (xZ X) a h (some ((xZ X) 14))) (Nat.le_trans (by decide) hfr) (Nat.le_trans (by decide) hlo) rfl (cat_le _ (Nat.le_of_ble_eq_true rfl)) dX2_readBoth_17 (fun v17 => ?_)
      refine sm_if_eq (tgt := 40) cx dX2_readBoth_20 (by decide) ?_ ?_
      · exact sm_lv [] rfl (s_X2_readBoth_40 cx hfr hlo hr c1 hfo1 hlo1)
      · refine sm_aload_n cx 0 dX2_readBoth_23 rfl rfl ?_
        refine sm_iload_n cx 1 dX2_readBoth_24 rfl rfl ?_
        refine sm_callV (T := TX2) (N := 9) (toV := vV) cx [.int x1] rfl cv_X2_83 (fun a h => c1 a h x1) hfo1 hlo1 rfl (cat_le _ (Nat.le_of_ble_eq_true rfl)) dX2_readBoth_25 (fun _ => ?_)
        refine sm_aload_n cx 0 dX2_readBoth_28 rfl rfl ?_
        refine sm_iconst (v := 4) cx dX2_readBoth_29 (by decide) ?_
        refine sm_iconst (v := 0) cx dX2_readBoth_30 (by decide) ?_
        refine sm_callV (T := TX2) (N := 9) (toV := vV) cx [.int (4 : Int32), .int (0 : Int32)] rfl cv_X2_80 (fun a h => ct_X2_addStep (xZ X) a h (4 : Int32) (0 : Int32)) (Nat.le_trans (by decide) hfr) (Nat.le_trans (by decide) hlo) rfl (cat_le _ (Nat.le_of_ble_eq_true rfl)) dX2_readBoth_31 (fun _ => ?_)
        refine sm_iinc cx 2 [(2, .int (x2 + 1)), (0, va_rf r0), (1, .int x1)] dX2_readBoth_34 rfl rfl (by decide) rfl (nc1 rfl) rfl ?_
        refine sm_goto (tgt := 7) cx dX2_readBoth_37 (by decide) ?_
        exact sm_lv [1, 2, 0] rfl (ih (x2 + 1))
def f_X2_readBoth (Z : Nat → Nat) (g1 : Option Nat → Int32 → Mo Unit) (r0 : Option Nat) (x1 : Int32) : Mo Unit := mb (mo 5 r0 (g1 r0 x1)) (fun _ => f_X2_readBoth_7 Z g1 r0 x1 fuL (0 : Int32))
set_option maxRecDepth 100000 in
set_option maxHeartbeats 4000000 in
theorem s_X2_readBoth {X : Cg} (cx : Cx X cX2_readBoth RX2 3) (hfr : 5 ≤ (xR X).frames) (hlo : 108 ≤ (xR X).locals) (hr : (xM X).sig.returnType = none) {g1 : Option Nat → Int32 → Mo Unit} {fo1 lo1 : Nat} (c1 : ∀ {r9 : Option Nat} (a9 : Nat), r9 = some a9 → ∀ (y0 : Int32), Ct yX2_readOne cX2_readOne 3 none fo1 lo1 (xZ X) [.ref a9, .int y0] vV (g1 r9 y0)) (hfo1 : fo1 + 1 ≤ (xR X).frames) (hlo1 : 8 + (3 + 11) + lo1 ≤ (xR X).locals) (r0 : Option Nat) (x1 : Int32) : Sim X 3 (FiM X vV) 0 [(0, va_rf r0), (1, .int x1)] [] (f_X2_readBoth (xZ X) g1 r0 x1) := by
  unfold f_X2_readBoth
  refine sm_aload_n cx 0 dX2_readBoth_0 rfl rfl ?_
  refine sm_iload_n cx 1 dX2_readBoth_1 rfl rfl ?_
  refine sm_callV (T := TX2) (N := 9) (toV := vV) cx [.int x1] rfl cv_X2_83 (fun a h => c1 a h x1) hfo1 hlo1 rfl (cat_le _ (Nat.le_of_ble_eq_true rfl)) dX2_readBoth_2 (fun _ => ?_)
  refine sm_iconst (v := 0) cx dX2_readBoth_5 (by decide) ?_
  refine sm_istore_n cx [(2, .int (0 : Int32)), (0, va_rf r0), (1, .int x1)] dX2_readBoth_6 rfl (by decide) rfl (nc1 rfl) rfl ?_
  exact sm_lv [1, 2, 0] rfl (s_X2_readBoth_7 cx hfr hlo hr c1 hfo1 hlo1 r0 x1 fuL (0 : Int32))
/-! PolicyTree$FilterReader.readEither(I)V -/
theorem dX2_readEither_0 : decode cX2_readEither 0 = .ok (.aload_n 0, 1) := by decide +kernel
theorem dX2_readEither_1 : decode cX2_readEither 1 = .ok (.iload_n 1, 1) := by decide +kernel
theorem dX2_readEither_2 : decode cX2_readEither 2 = .ok (.invokevirtual 71, 3) := by decide +kernel
theorem dX2_readEither_5 : decode cX2_readEither 5 = .ok (.iconst 0, 1) := by decide +kernel
theorem dX2_readEither_6 : decode cX2_readEither 6 = .ok (.istore_n 2, 1) := by decide +kernel
theorem dX2_readEither_7 : decode cX2_readEither 7 = .ok (.iload_n 2, 1) := by decide +kernel
theorem dX2_readEither_8 : decode cX2_readEither 8 = .ok (.sipush 200, 3) := by decide +kernel
theorem dX2_readEither_11 : decode cX2_readEither 11 = .ok (.if_icmp .ge 29, 3) := by decide +kernel
theorem dX2_readEither_14 : decode cX2_readEither 14 = .ok (.aload_n 0, 1) := by decide +kernel
theorem dX2_readEither_15 : decode cX2_readEither 15 = .ok (.ldc 74, 2) := by decide +kernel
theorem dX2_readEither_17 : decode cX2_readEither 17 = .ok (.invokevirtual 76, 3) := by decide +kernel
theorem dX2_readEither_20 : decode cX2_readEither 20 = .ok (.ifCond .eq 20, 3) := by decide +kernel
theorem dX2_readEither_23 : decode cX2_readEither 23 = .ok (.aload_n 0, 1) := by decide +kernel
theorem dX2_readEither_24 : decode cX2_readEither 24 = .ok (.iload_n 1, 1) := by decide +kernel
theorem dX2_readEither_25 : decode cX2_readEither 25 = .ok (.invokevirtual 71, 3) := by decide +kernel
theorem dX2_readEither_28 : decode cX2_readEither 28 = .ok (.aload_n 0, 1) := by decide +kernel
theorem dX2_readEither_29 : decode cX2_readEither 29 = .ok (.iconst 5, 1) := by decide +kernel
theorem dX2_readEither_30 : decode cX2_readEither 30 = .ok (.iconst 0, 1) := by decide +kernel
theorem dX2_readEither_31 : decode cX2_readEither 31 = .ok (.invokevirtual 80, 3) := by decide +kernel
theorem dX2_readEither_34 : decode cX2_readEither 34 = .ok (.iinc 2 1, 3) := by decide +kernel
theorem dX2_readEither_37 : decode cX2_readEither 37 = .ok (.goto (-30), 3) := by decide +kernel
theorem dX2_readEither_40 : decode cX2_readEither 40 = .ok (.return_, 1) := by decide +kernel
def f_X2_readEither_40 (Z : Nat → Nat) (g1 : Option Nat → Int32 → Mo Unit) : Mo Unit := mp ()
set_option maxRecDepth 100000 in
set_option maxHeartbeats 4000000 in
theorem s_X2_readEither_40 {X : Cg} (cx : Cx X cX2_readEither RX2 3) (hfr : 5 ≤ (xR X).frames) (hlo : 108 ≤ (xR X).locals) (hr : (xM X).sig.returnType = none) {g1 : Option Nat → Int32 → Mo Unit} {fo1 lo1 : Nat} (c1 : ∀ {r9 : Option Nat} (a9 : Nat), r9 = some a9 → ∀ (y0 : Int32), Ct yX2_readBoth cX2_readBoth 3 none fo1 lo1 (xZ X) [.ref a9, .int y0] vV (g1 r9 y0)) (hfo1 : fo1 + 1 ≤ (xR X).frames) (hlo1 : 8 + (3 + 11) + lo1 ≤ (xR X).locals) : Sim X 3 (FiM X vV) 40 [] [] (f_X2_readEither_40 (xZ X) g1) := by
  unfold f_X2_readEither_40
  exact sm_vret cx hr dX2_readEither_40
def f_X2_readEither_7 (Z : Nat → Nat) (g1 : Option Nat → Int32 → Mo Unit) (r0 : Option Nat) (x1 : Int32) : Nat → Int32 → Mo Unit
  | 0, _ => mf
  | n + 1, x2 => (if (200 : Int32) ≤ x2 then f_X2_readEither_40 Z g1 else mb (mo 5 r0 (f_X2_takesWord Z r0 (some (Z 15)))) (fun v17 => (if v17 = 0 then f_X2_readEither_40 Z g1 else mb (mo 5 r0 (g1 r0 x1)) (fun _ => mb (mo 5 r0 (f_X2_addStep r0 (5 : Int32) (0 : Int32))) (fun _ => (f_X2_readEither_7 Z g1 r0 x1 n) (x2 + 1))))))
set_option maxRecDepth 100000 in
set_option maxHeartbeats 4000000 in
theorem s_X2_readEither_7 {X : Cg} (cx : Cx X cX2_readEither RX2 3) (hfr : 5 ≤ (xR X).frames) (hlo : 108 ≤ (xR X).locals) (hr : (xM X).sig.returnType = none) {g1 : Option Nat → Int32 → Mo Unit} {fo1 lo1 : Nat} (c1 : ∀ {r9 : Option Nat} (a9 : Nat), r9 = some a9 → ∀ (y0 : Int32), Ct yX2_readBoth cX2_readBoth 3 none fo1 lo1 (xZ X) [.ref a9, .int y0] vV (g1 r9 y0)) (hfo1 : fo1 + 1 ≤ (xR X).frames) (hlo1 : 8 + (3 + 11) + lo1 ≤ (xR X).locals) (r0 : Option Nat) (x1 : Int32) : ∀ (n : Nat) (x2 : Int32), Sim X 3 (FiM X vV) 7 [(0, va_rf r0), (1, .int x1), (2, .int x2)] [] (f_X2_readEither_7 (xZ X) g1 r0 x1 n x2) := by
  intro n
  induction n with
  | zero =>
    intro _
    exact sm_mf
  | succ n ih =>
    intro x2
    rw [f_X2_readEither_7]
    refine sm_iload_n cx 2 dX2_readEither_7 rfl rfl ?_
    refine sm_sipush (v := 200) cx dX2_readEither_8 (by decide) ?_
    refine sm_icmp_ge (tgt := 40) cx dX2_readEither_11 (by decide) ?_ ?_
    · exact sm_lv [] rfl (s_X2_readEither_40 cx hfr hlo hr c1 hfo1 hlo1)
    · refine sm_aload_n cx 0 dX2_readEither_14 rfl rfl ?_
      refine sm_ldcS cx ("PolicyTree$FilterReader", 74, "or", 5) (List.mem_of_getElem? (i := 5) rfl) rfl rfl dX2_readEither_15 ?_
      refine sm_callV (T := TX2) (N := 9) (toV := vI) cx [va_rf (some ((xZ X) 15))] rfl cv_X2_76 (fun a h => ct_X2_takesWord (xZ X) a h (some ((xZ X) 15))) (Nat.le_trans (by decide) hfr) (Nat.le_trans (by decide) hlo) rfl (cat_le _ (Nat.le_of_ble_eq_true rfl)) dX2_readEither_17 (fun v17 => ?_)
      refine sm_if_eq (tgt := 40) cx dX2_readEither_20 (by decide) ?_ ?_
      · exact sm_lv [] rfl (s_X2_readEither_40 cx hfr hlo hr c1 hfo1 hlo1)
      · refine sm_aload_n cx 0 dX2_readEither_23 rfl rfl ?_
        refine sm_iload_n cx 1 dX2_readEither_24 rfl rfl ?_
        refine sm_callV (T := TX2) (N := 9) (toV := vV) cx [.int x1] rfl cv_X2_71 (fun a h => c1 a h x1) hfo1 hlo1 rfl (cat_le _ (Nat.le_of_ble_eq_true rfl)) dX2_readEither_25 (fun _ => ?_)
        refine sm_aload_n cx 0 dX2_readEither_28 rfl rfl ?_
        refine sm_iconst (v := 5) cx dX2_readEither_29 (by decide) ?_
        refine sm_iconst (v := 0) cx dX2_readEither_30 (by decide) ?_
        refine sm_callV (T := TX2) (N := 9) (toV := vV) cx [.int (5 : Int32), .int (0 : Int32)] rfl cv_X2_80 (fun a h => ct_X2_addStep (xZ X) a h (5 : Int32) (0 : Int32)) (Nat.le_trans (by decide) hfr) (Nat.le_trans (by decide) hlo) rfl (cat_le _ (Nat.le_of_ble_eq_true rfl)) dX2_readEither_31 (fun _ => ?_)
        refine sm_iinc cx 2 [(2, .int (x2 + 1)), (0, va_rf r0), (1, .int x1)] dX2_readEither_34 rfl rfl (by decide) rfl (nc1 rfl) rfl ?_
        refine sm_goto (tgt := 7) cx dX2_readEither_37 (by decide) ?_
        exact sm_lv [1, 2, 0] rfl (ih (x2 + 1))
def f_X2_readEither (Z : Nat → Nat) (g1 : Option Nat → Int32 → Mo Unit) (r0 : Option Nat) (x1 : Int32) : Mo Unit := mb (mo 5 r0 (g1 r0 x1)) (fun _ => f_X2_readEither_7 Z g1 r0 x1 fuL (0 : Int32))
set_option maxRecDepth 100000 in
set_option maxHeartbeats 4000000 in
theorem s_X2_readEither {X : Cg} (cx : Cx X cX2_readEither RX2 3) (hfr : 5 ≤ (xR X).frames) (hlo : 108 ≤ (xR X).locals) (hr : (xM X).sig.returnType = none) {g1 : Option Nat → Int32 → Mo Unit} {fo1 lo1 : Nat} (c1 : ∀ {r9 : Option Nat} (a9 : Nat), r9 = some a9 → ∀ (y0 : Int32), Ct yX2_readBoth cX2_readBoth 3 none fo1 lo1 (xZ X) [.ref a9, .int y0] vV (g1 r9 y0)) (hfo1 : fo1 + 1 ≤ (xR X).frames) (hlo1 : 8 + (3 + 11) + lo1 ≤ (xR X).locals) (r0 : Option Nat) (x1 : Int32) : Sim X 3 (FiM X vV) 0 [(0, va_rf r0), (1, .int x1)] [] (f_X2_readEither (xZ X) g1 r0 x1) := by
  unfold f_X2_readEither
  refine sm_aload_n cx 0 dX2_readEither_0 rfl rfl ?_
  refine sm_iload_n cx 1 dX2_readEither_1 rfl rfl ?_
  refine sm_callV (T := TX2) (N := 9) (toV := vV) cx [.int x1] rfl cv_X2_71 (fun a h => c1 a h x1) hfo1 hlo1 rfl (cat_le _ (Nat.le_of_ble_eq_true rfl)) dX2_readEither_2 (fun _ => ?_)
  refine sm_iconst (v := 0) cx dX2_readEither_5 (by decide) ?_
  refine sm_istore_n cx [(2, .int (0 : Int32)), (0, va_rf r0), (1, .int x1)] dX2_readEither_6 rfl (by decide) rfl (nc1 rfl) rfl ?_
  exact sm_lv [1, 2, 0] rfl (s_X2_readEither_7 cx hfr hlo hr c1 hfo1 hlo1 r0 x1 fuL (0 : Int32))
def r_X2_readOne (Z : Nat → Nat) : Nat → Option Nat → Int32 → Mo Unit
  | 0, _, _ => mf
  | d + 1, r0, x1 => f_X2_readOne Z (fun r x1 => f_X2_readEither Z (fun r x1 => f_X2_readBoth Z (r_X2_readOne Z d) r x1) r x1) (r_X2_readOne Z d) r0 x1
def r_X2_readBoth (Z : Nat → Nat) (d : Nat) (r0 : Option Nat) (x1 : Int32) : Mo Unit := f_X2_readBoth Z (r_X2_readOne Z d) r0 x1
def r_X2_readEither (Z : Nat → Nat) (d : Nat) (r0 : Option Nat) (x1 : Int32) : Mo Unit := f_X2_readEither Z (r_X2_readBoth Z d) r0 x1
theorem ct_X2_readBoth_of (Z : Nat → Nat) (d : Nat) {r0 : Option Nat} (a0 : Nat) (h0 : r0 = some a0) (x1 : Int32) (ih : ∀ {r0 : Option Nat} (a0 : Nat), r0 = some a0 → ∀ (x1 : Int32), Ct yX2_readOne cX2_readOne 3 none (20 + 3 * d) (300 + 66 * d) Z [.ref a0, .int x1] vV (r_X2_readOne Z d r0 x1)) : Ct yX2_readBoth cX2_readBoth 3 none (20 + 3 * d + 1) (300 + 66 * d + 22) Z [.ref a0, .int x1] vV (f_X2_readBoth Z (r_X2_readOne Z d) r0 x1) := by
    subst h0
    refine ct_of (lv0 := [(0, va_rf (some a0)), (1, .int x1)]) (by decide +kernel) (by simp [lg_sl, ct_i, ct_l, ct_r, rf_cat]) (by show _ = ([(0, Value.ref a0), (1, .int x1)] : List (Nat × Value)); simp [lv_args, ct_i, ct_l, ct_r, rf_cat]) (fun X cx hZ hfr hlo hr hin => ?_)
    subst hZ
    exact s_X2_readBoth cx (by rw [hfr]; omega) (by rw [hlo]; omega) hr (fun a h x1 => ih a h x1) (by rw [hfr]; omega) (by rw [hlo]; omega) (some a0) x1
theorem ct_X2_readEither_of (Z : Nat → Nat) (d : Nat) {r0 : Option Nat} (a0 : Nat) (h0 : r0 = some a0) (x1 : Int32) (ih : ∀ {r0 : Option Nat} (a0 : Nat), r0 = some a0 → ∀ (x1 : Int32), Ct yX2_readOne cX2_readOne 3 none (20 + 3 * d) (300 + 66 * d) Z [.ref a0, .int x1] vV (r_X2_readOne Z d r0 x1)) : Ct yX2_readEither cX2_readEither 3 none (20 + 3 * d + 2) (300 + 66 * d + 44) Z [.ref a0, .int x1] vV (f_X2_readEither Z (r_X2_readBoth Z d) r0 x1) := by
    subst h0
    refine ct_of (lv0 := [(0, va_rf (some a0)), (1, .int x1)]) (by decide +kernel) (by simp [lg_sl, ct_i, ct_l, ct_r, rf_cat]) (by show _ = ([(0, Value.ref a0), (1, .int x1)] : List (Nat × Value)); simp [lv_args, ct_i, ct_l, ct_r, rf_cat]) (fun X cx hZ hfr hlo hr hin => ?_)
    subst hZ
    exact s_X2_readEither cx (by rw [hfr]; omega) (by rw [hlo]; omega) hr (fun a h x1 => ct_X2_readBoth_of (xZ X) d a h x1 ih) (by rw [hfr]; omega) (by rw [hlo]; omega) (some a0) x1
theorem ct_r_X2_readOne (Z : Nat → Nat) : ∀ (d : Nat) {r0 : Option Nat} (a0 : Nat), r0 = some a0 → ∀ (x1 : Int32), Ct yX2_readOne cX2_readOne 3 none (20 + 3 * d) (300 + 66 * d) Z [.ref a0, .int x1] vV (r_X2_readOne Z d r0 x1) := by
  intro d
  induction d with
  | zero =>
    intro r0 a0 h0 x1 l D cy A h r h' c n hf
    rw [r_X2_readOne] at hf
    cases hf
  | succ d ih =>
    intro r0 a0 h0 x1
    subst h0
    rw [r_X2_readOne]
    refine ct_of (lv0 := [(0, va_rf (some a0)), (1, .int x1)]) (by decide +kernel) (by simp [lg_sl, ct_i, ct_l, ct_r, rf_cat]) (by show _ = ([(0, Value.ref a0), (1, .int x1)] : List (Nat × Value)); simp [lv_args, ct_i, ct_l, ct_r, rf_cat]) (fun X cx hZ hfr hlo hr hin => ?_)
    subst hZ
    exact s_X2_readOne cx (by rw [hfr]; omega) (by rw [hlo]; omega) hr (fun a h x1 => ct_X2_readEither_of (xZ X) d a h x1 ih) (by rw [hfr]; omega) (by rw [hlo]; omega) (fun a h x1 => ih a h x1) (by rw [hfr]; omega) (by rw [hlo]; omega) (some a0) x1
def f_X2_readEitherC (Z : Nat → Nat) (r0 : Option Nat) (x1 : Int32) : Mo Unit := r_X2_readEither Z 16 r0 x1
theorem ct_X2_readEitherC (Z : Nat → Nat) {r0 : Option Nat} (a0 : Nat) (h0 : r0 = some a0) (x1 : Int32) : Ct yX2_readEither cX2_readEither 3 none 70 1400 Z [.ref a0, .int x1] vV (f_X2_readEitherC Z r0 x1) := ct_X2_readEither_of Z 16 a0 h0 x1 (ct_r_X2_readOne Z 16)
/-! PolicyTree$FilterReader.read(III)I -/
theorem dX2_read_0 : decode cX2_read 0 = .ok (.aload_n 0, 1) := by decide +kernel
theorem dX2_read_1 : decode cX2_read 1 = .ok (.iload_n 1, 1) := by decide +kernel
theorem dX2_read_2 : decode cX2_read 2 = .ok (.putfield 21, 3) := by decide +kernel
theorem dX2_read_5 : decode cX2_read 5 = .ok (.aload_n 0, 1) := by decide +kernel
theorem dX2_read_6 : decode cX2_read 6 = .ok (.iload_n 2, 1) := by decide +kernel
theorem dX2_read_7 : decode cX2_read 7 = .ok (.putfield 25, 3) := by decide +kernel
theorem dX2_read_10 : decode cX2_read 10 = .ok (.aload_n 0, 1) := by decide +kernel
theorem dX2_read_11 : decode cX2_read 11 = .ok (.iload_n 3, 1) := by decide +kernel
theorem dX2_read_12 : decode cX2_read 12 = .ok (.putfield 28, 3) := by decide +kernel
theorem dX2_read_15 : decode cX2_read 15 = .ok (.aload_n 0, 1) := by decide +kernel
theorem dX2_read_16 : decode cX2_read 16 = .ok (.iconst 0, 1) := by decide +kernel
theorem dX2_read_17 : decode cX2_read 17 = .ok (.putfield 31, 3) := by decide +kernel
theorem dX2_read_20 : decode cX2_read 20 = .ok (.aload_n 0, 1) := by decide +kernel
theorem dX2_read_21 : decode cX2_read 21 = .ok (.iconst 0, 1) := by decide +kernel
theorem dX2_read_22 : decode cX2_read 22 = .ok (.putfield 34, 3) := by decide +kernel
theorem dX2_read_25 : decode cX2_read 25 = .ok (.aload_n 0, 1) := by decide +kernel
theorem dX2_read_26 : decode cX2_read 26 = .ok (.iconst (-1), 1) := by decide +kernel
theorem dX2_read_27 : decode cX2_read 27 = .ok (.putfield 37, 3) := by decide +kernel
theorem dX2_read_30 : decode cX2_read 30 = .ok (.aload_n 0, 1) := by decide +kernel
theorem dX2_read_31 : decode cX2_read 31 = .ok (.iconst 0, 1) := by decide +kernel
theorem dX2_read_32 : decode cX2_read 32 = .ok (.putfield 40, 3) := by decide +kernel
theorem dX2_read_35 : decode cX2_read 35 = .ok (.aload_n 0, 1) := by decide +kernel
theorem dX2_read_36 : decode cX2_read 36 = .ok (.invokevirtual 43, 3) := by decide +kernel
theorem dX2_read_39 : decode cX2_read 39 = .ok (.aload_n 0, 1) := by decide +kernel
theorem dX2_read_40 : decode cX2_read 40 = .ok (.getfield 31, 3) := by decide +kernel
theorem dX2_read_43 : decode cX2_read 43 = .ok (.aload_n 0, 1) := by decide +kernel
theorem dX2_read_44 : decode cX2_read 44 = .ok (.getfield 21, 3) := by decide +kernel
theorem dX2_read_47 : decode cX2_read 47 = .ok (.if_icmp .ge 32, 3) := by decide +kernel
theorem dX2_read_50 : decode cX2_read 50 = .ok (.aload_n 0, 1) := by decide +kernel
theorem dX2_read_51 : decode cX2_read 51 = .ok (.iconst 0, 1) := by decide +kernel
theorem dX2_read_52 : decode cX2_read 52 = .ok (.invokevirtual 46, 3) := by decide +kernel
theorem dX2_read_55 : decode cX2_read 55 = .ok (.aload_n 0, 1) := by decide +kernel
theorem dX2_read_56 : decode cX2_read 56 = .ok (.invokevirtual 43, 3) := by decide +kernel
theorem dX2_read_59 : decode cX2_read 59 = .ok (.aload_n 0, 1) := by decide +kernel
theorem dX2_read_60 : decode cX2_read 60 = .ok (.getfield 31, 3) := by decide +kernel
theorem dX2_read_63 : decode cX2_read 63 = .ok (.aload_n 0, 1) := by decide +kernel
theorem dX2_read_64 : decode cX2_read 64 = .ok (.getfield 21, 3) := by decide +kernel
theorem dX2_read_67 : decode cX2_read 67 = .ok (.if_icmp .ge 12, 3) := by decide +kernel
theorem dX2_read_70 : decode cX2_read 70 = .ok (.aload_n 0, 1) := by decide +kernel
theorem dX2_read_71 : decode cX2_read 71 = .ok (.iconst 1, 1) := by decide +kernel
theorem dX2_read_72 : decode cX2_read 72 = .ok (.aload_n 0, 1) := by decide +kernel
theorem dX2_read_73 : decode cX2_read 73 = .ok (.getfield 31, 3) := by decide +kernel
theorem dX2_read_76 : decode cX2_read 76 = .ok (.invokevirtual 50, 3) := by decide +kernel
theorem dX2_read_79 : decode cX2_read 79 = .ok (.aload_n 0, 1) := by decide +kernel
theorem dX2_read_80 : decode cX2_read 80 = .ok (.getfield 34, 3) := by decide +kernel
theorem dX2_read_83 : decode cX2_read 83 = .ok (.ireturn, 1) := by decide +kernel
def f_X2_read_79 (Z : Nat → Nat) (r0 : Option Nat) : Mo Int32 := mb (gI 5 5 r0) (fun v80 => mp v80)
set_option maxRecDepth 100000 in
set_option maxHeartbeats 4000000 in
theorem s_X2_read_79 {X : Cg} (cx : Cx X cX2_read RX2 4) (hfr : 71 ≤ (xR X).frames) (hlo : 1422 ≤ (xR X).locals) (hr : (xM X).sig.returnType = (some .int)) (r0 : Option Nat) : Sim X 4 (FiM X vI) 79 [(0, va_rf r0)] [] (f_X2_read_79 (xZ X) r0) := by
  unfold f_X2_read_79
  refine sm_aload_n cx 0 dX2_read_79 rfl rfl ?_
  refine sm_getI cx fl_X2_34 dX2_read_80 (fun v80 => ?_)
  exact sm_iret cx hr dX2_read_83
def f_X2_read (Z : Nat → Nat) (r0 : Option Nat) (x1 : Int32) (x2 : Int32) (x3 : Int32) : Mo Int32 := mb (pV 5 1 r0 (.int x1)) (fun _ => mb (pV 5 2 r0 (.int x2)) (fun _ => mb (pV 5 3 r0 (.int x3)) (fun _ => mb (pV 5 4 r0 (.int (0 : Int32))) (fun _ => mb (pV 5 5 r0 (.int (0 : Int32))) (fun _ => mb (pV 5 6 r0 (.int (-1 : Int32))) (fun _ => mb (pV 5 8 r0 (.int (0 : Int32))) (fun _ => mb (mo 5 r0 (f_X2_skipBlanks r0)) (fun _ => mb (gI 5 4 r0) (fun v40 => mb (gI 5 1 r0) (fun v44 => (if v44 ≤ v40 then f_X2_read_79 Z r0 else mb (mo 5 r0 (f_X2_readEitherC Z r0 (0 : Int32))) (fun _ => mb (mo 5 r0 (f_X2_skipBlanks r0)) (fun _ => mb (gI 5 4 r0) (fun v60 => mb (gI 5 1 r0) (fun v64 => (if v64 ≤ v60 then f_X2_read_79 Z r0 else mb (gI 5 4 r0) (fun v73 => mb (mo 5 r0 (f_X2_blame r0 (1 : Int32) v73)) (fun _ => f_X2_read_79 Z r0))))))))))))))))))
set_option maxRecDepth 100000 in
set_option maxHeartbeats 4000000 in
theorem s_X2_read {X : Cg} (cx : Cx X cX2_read RX2 4) (hfr : 71 ≤ (xR X).frames) (hlo : 1422 ≤ (xR X).locals) (hr : (xM X).sig.returnType = (some .int)) (r0 : Option Nat) (x1 : Int32) (x2 : Int32) (x3 : Int32) : Sim X 4 (FiM X vI) 0 [(0, va_rf r0), (1, .int x1), (2, .int x2), (3, .int x3)] [] (f_X2_read (xZ X) r0 x1 x2 x3) := by
  unfold f_X2_read
  refine sm_aload_n cx 0 dX2_read_0 rfl rfl ?_
  refine sm_iload_n cx 1 dX2_read_1 rfl rfl ?_
  refine sm_putV cx fl_X2_21 rfl rfl dX2_read_2 ?_
  refine sm_aload_n cx 0 dX2_read_5 rfl rfl ?_
  refine sm_iload_n cx 2 dX2_read_6 rfl rfl ?_
  refine sm_putV cx fl_X2_25 rfl rfl dX2_read_7 ?_
  refine sm_aload_n cx 0 dX2_read_10 rfl rfl ?_
  refine sm_iload_n cx 3 dX2_read_11 rfl rfl ?_
  refine sm_putV cx fl_X2_28 rfl rfl dX2_read_12 ?_
  refine sm_aload_n cx 0 dX2_read_15 rfl rfl ?_
  refine sm_iconst (v := 0) cx dX2_read_16 (by decide) ?_
  refine sm_putV cx fl_X2_31 rfl rfl dX2_read_17 ?_
  refine sm_aload_n cx 0 dX2_read_20 rfl rfl ?_
  refine sm_iconst (v := 0) cx dX2_read_21 (by decide) ?_
  refine sm_putV cx fl_X2_34 rfl rfl dX2_read_22 ?_
  refine sm_aload_n cx 0 dX2_read_25 rfl rfl ?_
  refine sm_iconst (v := -1) cx dX2_read_26 (by decide) ?_
  refine sm_putV cx fl_X2_37 rfl rfl dX2_read_27 ?_
  refine sm_aload_n cx 0 dX2_read_30 rfl rfl ?_
  refine sm_iconst (v := 0) cx dX2_read_31 (by decide) ?_
  refine sm_putV cx fl_X2_40 rfl rfl dX2_read_32 ?_
  refine sm_aload_n cx 0 dX2_read_35 rfl rfl ?_
  refine sm_callV (T := TX2) (N := 9) (toV := vV) cx [] rfl cv_X2_43 (fun a h => ct_X2_skipBlanks (xZ X) a h) (Nat.le_trans (by decide) hfr) (Nat.le_trans (by decide) hlo) rfl (cat_le _ (Nat.le_of_ble_eq_true rfl)) dX2_read_36 (fun _ => ?_)
  refine sm_aload_n cx 0 dX2_read_39 rfl rfl ?_
  refine sm_getI cx fl_X2_31 dX2_read_40 (fun v40 => ?_)
  refine sm_aload_n cx 0 dX2_read_43 rfl rfl ?_
  refine sm_getI cx fl_X2_21 dX2_read_44 (fun v44 => ?_)
  refine sm_icmp_ge (tgt := 79) cx dX2_read_47 (by decide) ?_ ?_
  · exact sm_lv [0] rfl (s_X2_read_79 cx hfr hlo hr r0)
  · refine sm_aload_n cx 0 dX2_read_50 rfl rfl ?_
    refine sm_iconst (v := 0) cx dX2_read_51 (by decide) ?_
    refine sm_callV (T := TX2) (N := 9) (toV := vV) cx [.int (0 : Int32)] rfl cv_X2_46 (fun a h => ct_X2_readEitherC (xZ X) a h (0 : Int32)) (Nat.le_trans (by decide) hfr) (Nat.le_trans (by decide) hlo) rfl (cat_le _ (Nat.le_of_ble_eq_true rfl)) dX2_read_52 (fun _ => ?_)
    refine sm_aload_n cx 0 dX2_read_55 rfl rfl ?_
    refine sm_callV (T := TX2) (N := 9) (toV := vV) cx [] rfl cv_X2_43 (fun a h => ct_X2_skipBlanks (xZ X) a h) (Nat.le_trans (by decide) hfr) (Nat.le_trans (by decide) hlo) rfl (cat_le _ (Nat.le_of_ble_eq_true rfl)) dX2_read_56 (fun _ => ?_)
    refine sm_aload_n cx 0 dX2_read_59 rfl rfl ?_
    refine sm_getI cx fl_X2_31 dX2_read_60 (fun v60 => ?_)
    refine sm_aload_n cx 0 dX2_read_63 rfl rfl ?_
    refine sm_getI cx fl_X2_21 dX2_read_64 (fun v64 => ?_)
    refine sm_icmp_ge (tgt := 79) cx dX2_read_67 (by decide) ?_ ?_
    · exact sm_lv [0] rfl (s_X2_read_79 cx hfr hlo hr r0)
    · refine sm_aload_n cx 0 dX2_read_70 rfl rfl ?_
      refine sm_iconst (v := 1) cx dX2_read_71 (by decide) ?_
      refine sm_aload_n cx 0 dX2_read_72 rfl rfl ?_
      refine sm_getI cx fl_X2_31 dX2_read_73 (fun v73 => ?_)
      refine sm_callV (T := TX2) (N := 9) (toV := vV) cx [.int (1 : Int32), .int v73] rfl cv_X2_50 (fun a h => ct_X2_blame (xZ X) a h (1 : Int32) v73) (Nat.le_trans (by decide) hfr) (Nat.le_trans (by decide) hlo) rfl (cat_le _ (Nat.le_of_ble_eq_true rfl)) dX2_read_76 (fun _ => ?_)
      exact sm_lv [0] rfl (s_X2_read_79 cx hfr hlo hr r0)
set_option maxRecDepth 100000 in
set_option maxHeartbeats 4000000 in
theorem ct_X2_read (Z : Nat → Nat) {r0 : Option Nat} (a0 : Nat) (h0 : r0 = some a0) (x1 : Int32) (x2 : Int32) (x3 : Int32) : Ct yX2_read cX2_read 4 (some .int) 71 1422 Z [.ref a0, .int x1, .int x2, .int x3] vI (f_X2_read Z r0 x1 x2 x3) := by
  subst h0
  refine ct_of (lv0 := [(0, va_rf (some a0)), (1, .int x1), (2, .int x2), (3, .int x3)]) (by decide +kernel) (by simp [lg_sl, ct_i, ct_l, ct_r, rf_cat]) (by show _ = ([(0, Value.ref a0), (1, .int x1), (2, .int x2), (3, .int x3)] : List (Nat × Value)); simp [lv_args, ct_i, ct_l, ct_r, rf_cat]) (fun X cx hZ hfr hlo hr hin => ?_)
  subst hZ
  exact s_X2_read cx (Nat.le_of_eq hfr.symm) (Nat.le_of_eq hlo.symm) hr (some a0) x1 x2 x3
