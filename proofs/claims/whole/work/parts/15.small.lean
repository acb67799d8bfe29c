theorem inT_X0 : ∀ w ∈ u_ws RX0 TX0 2, w ∈ TB := by
  intro w h
  obtain ⟨k, hk, rfl⟩ := List.mem_map.mp h
  have hk := List.mem_range.mp hk
  match k, hk with
  | 0, _ => exact wd_4_40
  | 1, _ => exact wd_4_42
  | k + 2, hk => exact absurd hk (by omega)
theorem inT_X3 : ∀ w ∈ u_ws RX3 TX3 3, w ∈ TB := by
  intro w h
  obtain ⟨k, hk, rfl⟩ := List.mem_map.mp h
  have hk := List.mem_range.mp hk
  match k, hk with
  | 0, _ => exact wd_1_78
  | 1, _ => exact wd_1_80
  | 2, _ => exact wd_1_82
  | k + 3, hk => exact absurd hk (by omega)
theorem inT_X5 : ∀ w ∈ u_ws RX5 TX5 3, w ∈ TB := by
  intro w h
  obtain ⟨k, hk, rfl⟩ := List.mem_map.mp h
  have hk := List.mem_range.mp hk
  match k, hk with
  | 0, _ => exact wd_3_181
  | 1, _ => exact wd_3_183
  | 2, _ => exact wd_3_185
  | k + 3, hk => exact absurd hk (by omega)
theorem inT_X6 : ∀ w ∈ u_ws RX6 TX6 4, w ∈ TB := by
  intro w h
  obtain ⟨k, hk, rfl⟩ := List.mem_map.mp h
  have hk := List.mem_range.mp hk
  match k, hk with
  | 0, _ => exact wd_1_214
  | 1, _ => exact wd_1_216
  | 2, _ => exact wd_1_218
  | 3, _ => exact wd_1_220
  | k + 4, hk => exact absurd hk (by omega)
theorem inT_X4 : ∀ w ∈ u_ws RX4 TX4 7, w ∈ TB := by
  intro w h
  obtain ⟨k, hk, rfl⟩ := List.mem_map.mp h
  have hk := List.mem_range.mp hk
  match k, hk with
  | 0, _ => exact wd_5_0
  | 1, _ => exact wd_5_2
  | 2, _ => exact wd_5_4
  | 3, _ => exact wd_5_6
  | 4, _ => exact wd_5_8
  | 5, _ => exact wd_5_10
  | 6, _ => exact wd_5_12
  | k + 7, hk => exact absurd hk (by omega)
theorem inT_X10 : ∀ w ∈ u_ws RX10 TX10 2, w ∈ TB := by
  intro w h
  obtain ⟨k, hk, rfl⟩ := List.mem_map.mp h
  have hk := List.mem_range.mp hk
  match k, hk with
  | 0, _ => exact wd_1_95
  | 1, _ => exact wd_1_97
  | k + 2, hk => exact absurd hk (by omega)
theorem inT_X9 : ∀ w ∈ u_ws RX9 TX9 6, w ∈ TB := by
  intro w h
  obtain ⟨k, hk, rfl⟩ := List.mem_map.mp h
  have hk := List.mem_range.mp hk
  match k, hk with
  | 0, _ => exact wd_1_156
  | 1, _ => exact wd_1_158
  | 2, _ => exact wd_1_160
  | 3, _ => exact wd_1_162
  | 4, _ => exact wd_1_164
  | 5, _ => exact wd_1_166
  | k + 6, hk => exact absurd hk (by omega)
theorem inT_X1 : ∀ w ∈ u_ws RX1 TX1 1, w ∈ TB := by
  intro w h
  obtain ⟨k, hk, rfl⟩ := List.mem_map.mp h
  have hk := List.mem_range.mp hk
  match k, hk with
  | 0, _ => exact wd_4_217
  | k + 1, hk => exact absurd hk (by omega)
theorem fl_X0_9 : FldOk RX0 9 3 0 (.array .int) true true := ⟨RX0, TX0, 2, "PolicyTree$Bundle", tyX0, rfl, by decide, inT_X0, tyX0_ok, nmX0, wd_4_38, Or.inl rfl, tyX0_ok 0 (by decide), rfl, fun _ => rfl⟩
theorem fl_X0_15 : FldOk RX0 15 3 1 .int false true := ⟨RX0, TX0, 2, "PolicyTree$Bundle", tyX0, rfl, by decide, inT_X0, tyX0_ok, nmX0, wd_4_39, Or.inl rfl, tyX0_ok 1 (by decide), rfl, fun _ => rfl⟩
theorem fl_X3_9 : FldOk RX3 9 6 0 (.array .long) true true := ⟨RX3, TX3, 3, "PolicyTree$Groups", tyX3, rfl, by decide, inT_X3, tyX3_ok, nmX3, wd_1_75, Or.inl rfl, tyX3_ok 0 (by decide), rfl, fun _ => rfl⟩
theorem fl_X3_15 : FldOk RX3 15 6 1 (.array .int) true true := ⟨RX3, TX3, 3, "PolicyTree$Groups", tyX3, rfl, by decide, inT_X3, tyX3_ok, nmX3, wd_1_76, Or.inl rfl, tyX3_ok 1 (by decide), rfl, fun _ => rfl⟩
theorem fl_X3_19 : FldOk RX3 19 6 2 .int false true := ⟨RX3, TX3, 3, "PolicyTree$Groups", tyX3, rfl, by decide, inT_X3, tyX3_ok, nmX3, wd_1_77, Or.inl rfl, tyX3_ok 2 (by decide), rfl, fun _ => rfl⟩
theorem fl_X5_7 : FldOk RX5 7 8 0 (.object "PolicyTree$Node") true true := ⟨RX5, TX5, 3, "PolicyTree$Machine", tyX5, rfl, by decide, inT_X5, tyX5_ok, nmX5, wd_3_176, Or.inl rfl, tyX5_ok 0 (by decide), rfl, fun _ => rfl⟩
theorem fl_X5_13 : FldOk RX5 13 8 1 .int false true := ⟨RX5, TX5, 3, "PolicyTree$Machine", tyX5, rfl, by decide, inT_X5, tyX5_ok, nmX5, wd_3_179, Or.inl rfl, tyX5_ok 1 (by decide), rfl, fun _ => rfl⟩
theorem fl_X5_17 : FldOk RX5 17 8 2 .int false true := ⟨RX5, TX5, 3, "PolicyTree$Machine", tyX5, rfl, by decide, inT_X5, tyX5_ok, nmX5, wd_3_180, Or.inl rfl, tyX5_ok 2 (by decide), rfl, fun _ => rfl⟩
theorem fl_X6_10 : FldOk RX6 10 9 3 (.object "java/util/ArrayList") true true := ⟨RX6, TX6, 4, "PolicyTree$Node", tyX6, rfl, by decide, inT_X6, tyX6_ok, nmX6, wd_1_213, Or.inl rfl, tyX6_ok 3 (by decide), rfl, fun _ => rfl⟩
theorem fl_X6_16 : FldOk RX6 16 9 0 .int true true := ⟨RX6, TX6, 4, "PolicyTree$Node", tyX6, rfl, by decide, inT_X6, tyX6_ok, nmX6, wd_1_206, Or.inl rfl, tyX6_ok 0 (by decide), rfl, fun _ => rfl⟩
theorem fl_X6_20 : FldOk RX6 20 9 1 (.object "PolicyTree$Node") false true := ⟨RX6, TX6, 4, "PolicyTree$Node", tyX6, rfl, by decide, inT_X6, tyX6_ok, nmX6, wd_1_208, Or.inl rfl, tyX6_ok 1 (by decide), rfl, fun _ => rfl⟩
theorem fl_X6_34 : FldOk RX6 34 7 3 .int true false := ⟨RX4, TX4, 7, "PolicyTree$Link", tyX4, rfl, by decide, inT_X4, tyX4_ok, nmX4, wd_4_233, Or.inl rfl, tyX4_ok 3 (by decide), rfl, fun h => nomatch h⟩
theorem fl_X10_11 : FldOk RX10 11 13 0 (.array .byte) true true := ⟨RX10, TX10, 2, "PolicyTree$Tape", tyX10, rfl, by decide, inT_X10, tyX10_ok, nmX10, wd_1_93, Or.inl rfl, tyX10_ok 0 (by decide), rfl, fun _ => rfl⟩
theorem fl_X10_15 : FldOk RX10 15 13 1 .int false true := ⟨RX10, TX10, 2, "PolicyTree$Tape", tyX10, rfl, by decide, inT_X10, tyX10_ok, nmX10, wd_1_94, Or.inl rfl, tyX10_ok 1 (by decide), rfl, fun _ => rfl⟩
theorem fl_X4_7 : FldOk RX4 7 7 0 .int true true := ⟨RX4, TX4, 7, "PolicyTree$Link", tyX4, rfl, by decide, inT_X4, tyX4_ok, nmX4, wd_4_224, Or.inl rfl, tyX4_ok 0 (by decide), rfl, fun _ => rfl⟩
theorem fl_X4_13 : FldOk RX4 13 7 1 (.object "PolicyTree$Node") true true := ⟨RX4, TX4, 7, "PolicyTree$Link", tyX4, rfl, by decide, inT_X4, tyX4_ok, nmX4, wd_4_226, Or.inl rfl, tyX4_ok 1 (by decide), rfl, fun _ => rfl⟩
theorem fl_X4_17 : FldOk RX4 17 7 2 (.object "PolicyTree$Bundle") true true := ⟨RX4, TX4, 7, "PolicyTree$Link", tyX4, rfl, by decide, inT_X4, tyX4_ok, nmX4, wd_4_228, Or.inl rfl, tyX4_ok 2 (by decide), rfl, fun _ => rfl⟩
theorem fl_X4_21 : FldOk RX4 21 7 3 .int true true := ⟨RX4, TX4, 7, "PolicyTree$Link", tyX4, rfl, by decide, inT_X4, tyX4_ok, nmX4, wd_4_232, Or.inl rfl, tyX4_ok 3 (by decide), rfl, fun _ => rfl⟩
theorem fl_X4_24 : FldOk RX4 24 7 4 .boolean true true := ⟨RX4, TX4, 7, "PolicyTree$Link", tyX4, rfl, by decide, inT_X4, tyX4_ok, nmX4, wd_4_234, Or.inl rfl, tyX4_ok 4 (by decide), rfl, fun _ => rfl⟩
theorem fl_X4_28 : FldOk RX4 28 7 5 (.object "PolicyTree$Filter") true true := ⟨RX4, TX4, 7, "PolicyTree$Link", tyX4, rfl, by decide, inT_X4, tyX4_ok, nmX4, wd_4_236, Or.inl rfl, tyX4_ok 5 (by decide), rfl, fun _ => rfl⟩
theorem fl_X4_32 : FldOk RX4 32 7 6 .boolean false true := ⟨RX4, TX4, 7, "PolicyTree$Link", tyX4, rfl, by decide, inT_X4, tyX4_ok, nmX4, wd_4_238, Or.inl rfl, tyX4_ok 6 (by decide), rfl, fun _ => rfl⟩
theorem fl_X9_11 : FldOk RX9 11 12 0 (.array .long) true true := ⟨RX9, TX9, 6, "PolicyTree$Standing", tyX9, rfl, by decide, inT_X9, tyX9_ok, nmX9, wd_1_149, Or.inl rfl, tyX9_ok 0 (by decide), rfl, fun _ => rfl⟩
theorem fl_X9_15 : FldOk RX9 15 12 1 (.array .long) true true := ⟨RX9, TX9, 6, "PolicyTree$Standing", tyX9, rfl, by decide, inT_X9, tyX9_ok, nmX9, wd_1_151, Or.inl rfl, tyX9_ok 1 (by decide), rfl, fun _ => rfl⟩
theorem fl_X9_24 : FldOk RX9 24 12 2 .int false true := ⟨RX9, TX9, 6, "PolicyTree$Standing", tyX9, rfl, by decide, inT_X9, tyX9_ok, nmX9, wd_1_152, Or.inl rfl, tyX9_ok 2 (by decide), rfl, fun _ => rfl⟩
theorem fl_X9_31 : FldOk RX9 31 12 3 .int false true := ⟨RX9, TX9, 6, "PolicyTree$Standing", tyX9, rfl, by decide, inT_X9, tyX9_ok, nmX9, wd_1_153, Or.inl rfl, tyX9_ok 3 (by decide), rfl, fun _ => rfl⟩
theorem fl_X9_34 : FldOk RX9 34 12 4 .int false true := ⟨RX9, TX9, 6, "PolicyTree$Standing", tyX9, rfl, by decide, inT_X9, tyX9_ok, nmX9, wd_1_154, Or.inl rfl, tyX9_ok 4 (by decide), rfl, fun _ => rfl⟩
theorem fl_X9_37 : FldOk RX9 37 12 5 .long false true := ⟨RX9, TX9, 6, "PolicyTree$Standing", tyX9, rfl, by decide, inT_X9, tyX9_ok, nmX9, wd_1_155, Or.inl rfl, tyX9_ok 5 (by decide), rfl, fun _ => rfl⟩
theorem fl_X1_7 : FldOk RX1 7 4 0 (.array .int) true true := ⟨RX1, TX1, 1, "PolicyTree$Filter", tyX1, rfl, by decide, inT_X1, tyX1_ok, nmX1, wd_4_216, Or.inl rfl, tyX1_ok 0 (by decide), rfl, fun _ => rfl⟩
theorem fl_X1_13 : FldOk RX1 13 12 0 (.array .long) true false := ⟨RX9, TX9, 6, "PolicyTree$Standing", tyX9, rfl, by decide, inT_X9, tyX9_ok, nmX9, wd_1_150, Or.inl rfl, tyX9_ok 0 (by decide), rfl, fun h => nomatch h⟩
theorem cv_X0_19 : CalV RX0 19 RX0 yX0_tells cX0_tells 2 (some .boolean) 1 := ⟨wd_V wd_4_56 wd_3_144 wd_3_145 wd_1_26 wd_3_146, rfl, by decide +kernel, by decide +kernel, by decide +kernel⟩
theorem cv_X0_23 : CalV RX0 23 RX0 yX0_valueOf cX0_valueOf 2 (some .int) 1 := ⟨wd_V wd_2_151 wd_2_152 wd_2_153 wd_1_26 wd_2_154, rfl, by decide +kernel, by decide +kernel, by decide +kernel⟩
theorem cv_X3_25 : CalV RX3 25 RX3 yX3_groupsAround cX3_groupsAround 4 (some .int) 1 := ⟨wd_V wd_3_52 wd_3_54 wp_1_8 wd_1_5 wd_3_55, rfl, by decide +kernel, by decide +kernel, by decide +kernel⟩
theorem nw_X6_7 : NewOk RX6 7 2 [.int 0, .null, .int 0] := ⟨RJx4a65c, TJx4a65c, tyJx4a65c, rfl, inT_Jx4a65c, tyJx4a65c_ok, wd_1_204, wd_1_44, wd_1_4, fun j hj => by
  match j, hj with
  | 0, _ => rfl
  | 1, _ => rfl
  | 2, _ => rfl
  | j + 3, hj => exact absurd hj (by simp only [List.length_cons, List.length_nil]; omega)⟩
theorem ci_X6_9 : CalI RX6 9 yJx4a65c_init_da8c8 cJx4a65c_init_da8c8 1 0 := ⟨⟨wd_1_4, wd_1_46, wd_1_47⟩, Or.inl wd_1_205, rfl, by decide +kernel, by decide +kernel, by decide +kernel⟩
theorem cv_X6_24 : CalV RX6 24 RJx4a65c yJx4a65c_size_8abf5 cJx4a65c_size_8abf5 1 (some .int) 0 := ⟨wd_V wd_3_92 wd_2_121 wd_2_122 wd_1_4 wd_2_123, rfl, by decide +kernel, by decide +kernel, by decide +kernel⟩
theorem cv_X6_28 : CalV RX6 28 RJx4a65c yJx4a65c_get_915e3 cJx4a65c_get_915e3 2 (some (.object "java/lang/Object")) 1 := ⟨wd_V wd_3_97 wd_2_129 wd_2_130 wd_1_4 wd_2_131, rfl, by decide +kernel, by decide +kernel, by decide +kernel⟩
theorem cv_X6_37 : CalV RX6 37 RJx4a65c yJx4a65c_add_7a177 cJx4a65c_add_7a177 5 none 2 := ⟨wd_V wd_5_19 wd_5_20 wd_5_21 wd_1_4 wd_5_22, rfl, by decide +kernel, by decide +kernel, by decide +kernel⟩
theorem cv_X6_41 : CalV RX6 41 RJx4a65c yJx4a65c_remove_915e3 cJx4a65c_remove_915e3 4 (some (.object "java/lang/Object")) 1 := ⟨wd_V wd_6_11 wd_6_12 wd_6_13 wd_1_4 wd_6_14, rfl, by decide +kernel, by decide +kernel, by decide +kernel⟩
theorem cv_X4_35 : CalV RX4 35 RX0 yX0_differs cX0_differs 5 (some .boolean) 2 := ⟨wd_V wd_2_147 wd_2_148 wd_2_149 wd_1_26 wd_2_150, rfl, by decide +kernel, by decide +kernel, by decide +kernel⟩
theorem cv_X9_18 : CalV RX9 18 RX5 yX5_knownFacts cX5_knownFacts 1 (some .int) 0 := ⟨wd_V wd_3_69 wd_3_70 wd_3_71 wd_1_24 wd_3_72, rfl, by decide +kernel, by decide +kernel, by decide +kernel⟩
theorem cv_X9_28 : CalV RX9 28 RX5 yX5_yesFacts cX5_yesFacts 1 (some .int) 0 := ⟨wd_V wd_3_73 wd_3_74 wd_3_75 wd_1_24 wd_3_76, rfl, by decide +kernel, by decide +kernel, by decide +kernel⟩
theorem cs_X9_41 : CalS RX9 41 yX9_spread cX9_spread 1 (some .long) 1 := ⟨wd_S wd_3_111 wd_3_112 wd_1_9 wd_3_113, by decide +kernel, by decide +kernel, by decide +kernel⟩
theorem cv_X1_19 : CalV RX1 19 RX9 yX9_weighAtom cX9_weighAtom 3 (some .long) 2 := ⟨wd_V wd_3_122 wd_3_123 wd_3_124 wd_1_9 wd_3_125, rfl, by decide +kernel, by decide +kernel, by decide +kernel⟩
/-! PolicyTree$Bundle.<init>()V -/
theorem dX0_init_0 : decode cX0_init 0 = .ok (.aload_n 0, 1) := by decide +kernel
theorem dX0_init_1 : decode cX0_init 1 = .ok (.invokespecial 3, 3) := by decide +kernel
theorem dX0_init_4 : decode cX0_init 4 = .ok (.aload_n 0, 1) := by decide +kernel
theorem dX0_init_5 : decode cX0_init 5 = .ok (.bipush 12, 2) := by decide +kernel
theorem dX0_init_7 : decode cX0_init 7 = .ok (.newarray .int, 2) := by decide +kernel
theorem dX0_init_9 : decode cX0_init 9 = .ok (.putfield 9, 3) := by decide +kernel
theorem dX0_init_12 : decode cX0_init 12 = .ok (.return_, 1) := by decide +kernel
def f_X0_init (r0 : Option Nat) : Mo Unit := mb (mo 3 r0 (mp ())) (fun _ => mb (nA 1 (12 : Int32)) (fun v7 => mb (pV 3 0 r0 (va_rf v7)) (fun _ => mp ())))
set_option maxRecDepth 100000 in
set_option maxHeartbeats 4000000 in
theorem s_X0_init {X : Cg} (cx : Cx X cX0_init RX0 1) (hfr : 1 ≤ (xR X).frames) (hlo : 12 ≤ (xR X).locals) (hr : (xM X).sig.returnType = none) (hin : (xM X).name = "<init>") (r0 : Option Nat) : Sim X 1 (FiM X vV) 0 [(0, va_rf r0)] [] (f_X0_init r0) := by
  unfold f_X0_init
  refine sm_aload_n cx 0 dX0_init_0 rfl rfl ?_
  refine sm_obj (ci := 3) cx wd_4_37 wd_1_41 wd_1_42 (Nat.le_trans (by decide) hfr) (Nat.le_trans (by decide) hlo) dX0_init_1 rfl ?_
  refine sm_aload_n cx 0 dX0_init_4 rfl rfl ?_
  refine sm_bipush (v := 12) cx dX0_init_5 (by decide) ?_
  refine sm_newa1 cx dX0_init_7 (fun v7 => ?_)
  refine sm_putF cx hin fl_X0_9 (nr_ra _) (ft_ra _) dX0_init_9 ?_
  exact sm_vret cx hr dX0_init_12
set_option maxRecDepth 100000 in
set_option maxHeartbeats 4000000 in
theorem ct_X0_init (Z : Nat → Nat) {r0 : Option Nat} (a0 : Nat) (h0 : r0 = some a0) : Ct yX0_init cX0_init 1 none 1 12 Z [.ref a0] vV (f_X0_init r0) := by
  subst h0
  refine ct_of (lv0 := [(0, va_rf (some a0))]) (by decide +kernel) (by simp [lg_sl, ct_i, ct_l, ct_r, rf_cat]) (by show _ = ([(0, Value.ref a0)] : List (Nat × Value)); simp [lv_args, ct_i, ct_l, ct_r, rf_cat]) (fun X cx hZ hfr hlo hr hin => ?_)
  subst hZ
  exact s_X0_init cx (Nat.le_of_eq hfr.symm) (Nat.le_of_eq hlo.symm) hr hin (some a0)
/-! PolicyTree$Bundle.toldSettings()I -/
theorem dX0_toldSettings_0 : decode cX0_toldSettings 0 = .ok (.aload_n 0, 1) := by decide +kernel
theorem dX0_toldSettings_1 : decode cX0_toldSettings 1 = .ok (.getfield 15, 3) := by decide +kernel
theorem dX0_toldSettings_4 : decode cX0_toldSettings 4 = .ok (.ireturn, 1) := by decide +kernel
def f_X0_toldSettings (r0 : Option Nat) : Mo Int32 := mb (gI 3 1 r0) (fun v1 => mp v1)
set_option maxRecDepth 100000 in
set_option maxHeartbeats 4000000 in
theorem s_X0_toldSettings {X : Cg} (cx : Cx X cX0_toldSettings RX0 1) (hfr : 0 ≤ (xR X).frames) (hlo : 0 ≤ (xR X).locals) (hr : (xM X).sig.returnType = (some .int)) (r0 : Option Nat) : Sim X 1 (FiM X vI) 0 [(0, va_rf r0)] [] (f_X0_toldSettings r0) := by
  unfold f_X0_toldSettings
  refine sm_aload_n cx 0 dX0_toldSettings_0 rfl rfl ?_
  refine sm_getI cx fl_X0_15 dX0_toldSettings_1 (fun v1 => ?_)
  exact sm_iret cx hr dX0_toldSettings_4
set_option maxRecDepth 100000 in
set_option maxHeartbeats 4000000 in
theorem ct_X0_toldSettings (Z : Nat → Nat) {r0 : Option Nat} (a0 : Nat) (h0 : r0 = some a0) : Ct yX0_toldSettings cX0_toldSettings 1 (some .int) 0 0 Z [.ref a0] vI (f_X0_toldSettings r0) := by
  subst h0
  refine ct_of (lv0 := [(0, va_rf (some a0))]) (by decide +kernel) (by simp [lg_sl, ct_i, ct_l, ct_r, rf_cat]) (by show _ = ([(0, Value.ref a0)] : List (Nat × Value)); simp [lv_args, ct_i, ct_l, ct_r, rf_cat]) (fun X cx hZ hfr hlo hr hin => ?_)
  subst hZ
  exact s_X0_toldSettings cx (Nat.le_of_eq hfr.symm) (Nat.le_of_eq hlo.symm) hr (some a0)
/-! PolicyTree$Bundle.tells(I)Z -/
theorem dX0_tells_0 : decode cX0_tells 0 = .ok (.aload_n 0, 1) := by decide +kernel
theorem dX0_tells_1 : decode cX0_tells 1 = .ok (.getfield 15, 3) := by decide +kernel
theorem dX0_tells_4 : decode cX0_tells 4 = .ok (.iload_n 1, 1) := by decide +kernel
theorem dX0_tells_5 : decode cX0_tells 5 = .ok (.iushr, 1) := by decide +kernel
theorem dX0_tells_6 : decode cX0_tells 6 = .ok (.iconst 1, 1) := by decide +kernel
theorem dX0_tells_7 : decode cX0_tells 7 = .ok (.iand, 1) := by decide +kernel
theorem dX0_tells_8 : decode cX0_tells 8 = .ok (.ifCond .eq 7, 3) := by decide +kernel
theorem dX0_tells_11 : decode cX0_tells 11 = .ok (.iconst 1, 1) := by decide +kernel
theorem dX0_tells_12 : decode cX0_tells 12 = .ok (.goto 4, 3) := by decide +kernel
theorem dX0_tells_15 : decode cX0_tells 15 = .ok (.iconst 0, 1) := by decide +kernel
theorem dX0_tells_16 : decode cX0_tells 16 = .ok (.ireturn, 1) := by decide +kernel
def f_X0_tells_16 (sx0 : Int32) : Mo Int32 := rz .boolean sx0
set_option maxRecDepth 100000 in
set_option maxHeartbeats 4000000 in
theorem s_X0_tells_16 {X : Cg} (cx : Cx X cX0_tells RX0 2) (hfr : 0 ≤ (xR X).frames) (hlo : 0 ≤ (xR X).locals) (hr : (xM X).sig.returnType = (some .boolean)) (sx0 : Int32) : Sim X 2 (FiM X vI) 16 [] [.int sx0] (f_X0_tells_16 sx0) := by
  unfold f_X0_tells_16
  exact sm_zret cx hr dX0_tells_16
def f_X0_tells (r0 : Option Nat) (x1 : Int32) : Mo Int32 := mb (gI 3 1 r0) (fun v1 => (if ((jSh v1 x1) &&& (1 : Int32)) = 0 then f_X0_tells_16 (0 : Int32) else f_X0_tells_16 (1 : Int32)))
set_option maxRecDepth 100000 in
set_option maxHeartbeats 4000000 in
theorem s_X0_tells {X : Cg} (cx : Cx X cX0_tells RX0 2) (hfr : 0 ≤ (xR X).frames) (hlo : 0 ≤ (xR X).locals) (hr : (xM X).sig.returnType = (some .boolean)) (r0 : Option Nat) (x1 : Int32) : Sim X 2 (FiM X vI) 0 [(0, va_rf r0), (1, .int x1)] [] (f_X0_tells r0 x1) := by
  unfold f_X0_tells
  refine sm_aload_n cx 0 dX0_tells_0 rfl rfl ?_
  refine sm_getI cx fl_X0_15 dX0_tells_1 (fun v1 => ?_)
  refine sm_iload_n cx 1 dX0_tells_4 rfl rfl ?_
  refine sm_iushr cx dX0_tells_5 ?_
  refine sm_iconst (v := 1) cx dX0_tells_6 (by decide) ?_
  refine sm_iand cx dX0_tells_7 ?_
  refine sm_if_eq (tgt := 15) cx dX0_tells_8 (by decide) ?_ ?_
  · refine sm_iconst (v := 0) cx dX0_tells_15 (by decide) ?_
    exact sm_lv [] rfl (s_X0_tells_16 cx hfr hlo hr (0 : Int32))
  · refine sm_iconst (v := 1) cx dX0_tells_11 (by decide) ?_
    refine sm_goto (tgt := 16) cx dX0_tells_12 (by decide) ?_
    exact sm_lv [] rfl (s_X0_tells_16 cx hfr hlo hr (1 : Int32))
set_option maxRecDepth 100000 in
set_option maxHeartbeats 4000000 in
theorem ct_X0_tells (Z : Nat → Nat) {r0 : Option Nat} (a0 : Nat) (h0 : r0 = some a0) (x1 : Int32) : Ct yX0_tells cX0_tells 2 (some .boolean) 0 0 Z [.ref a0, .int x1] vI (f_X0_tells r0 x1) := by
  subst h0
  refine ct_of (lv0 := [(0, va_rf (some a0)), (1, .int x1)]) (by decide +kernel) (by simp [lg_sl, ct_i, ct_l, ct_r, rf_cat]) (by show _ = ([(0, Value.ref a0), (1, .int x1)] : List (Nat × Value)); simp [lv_args, ct_i, ct_l, ct_r, rf_cat]) (fun X cx hZ hfr hlo hr hin => ?_)
  subst hZ
  exact s_X0_tells cx (Nat.le_of_eq hfr.symm) (Nat.le_of_eq hlo.symm) hr (some a0) x1
/-! PolicyTree$Bundle.valueOf(I)I -/
theorem dX0_valueOf_0 : decode cX0_valueOf 0 = .ok (.iload_n 1, 1) := by decide +kernel
theorem dX0_valueOf_1 : decode cX0_valueOf 1 = .ok (.ifCond .lt 21, 3) := by decide +kernel
theorem dX0_valueOf_4 : decode cX0_valueOf 4 = .ok (.iload_n 1, 1) := by decide +kernel
theorem dX0_valueOf_5 : decode cX0_valueOf 5 = .ok (.aload_n 0, 1) := by decide +kernel
theorem dX0_valueOf_6 : decode cX0_valueOf 6 = .ok (.getfield 9, 3) := by decide +kernel
theorem dX0_valueOf_9 : decode cX0_valueOf 9 = .ok (.arraylength, 1) := by decide +kernel
theorem dX0_valueOf_10 : decode cX0_valueOf 10 = .ok (.if_icmp .ge 12, 3) := by decide +kernel
theorem dX0_valueOf_13 : decode cX0_valueOf 13 = .ok (.aload_n 0, 1) := by decide +kernel
theorem dX0_valueOf_14 : decode cX0_valueOf 14 = .ok (.getfield 9, 3) := by decide +kernel
theorem dX0_valueOf_17 : decode cX0_valueOf 17 = .ok (.iload_n 1, 1) := by decide +kernel
theorem dX0_valueOf_18 : decode cX0_valueOf 18 = .ok (.iaload, 1) := by decide +kernel
theorem dX0_valueOf_19 : decode cX0_valueOf 19 = .ok (.goto 4, 3) := by decide +kernel
theorem dX0_valueOf_22 : decode cX0_valueOf 22 = .ok (.iconst 0, 1) := by decide +kernel
theorem dX0_valueOf_23 : decode cX0_valueOf 23 = .ok (.ireturn, 1) := by decide +kernel
def f_X0_valueOf_23 (sx0 : Int32) : Mo Int32 := mp sx0
set_option maxRecDepth 100000 in
set_option maxHeartbeats 4000000 in
theorem s_X0_valueOf_23 {X : Cg} (cx : Cx X cX0_valueOf RX0 2) (hfr : 0 ≤ (xR X).frames) (hlo : 0 ≤ (xR X).locals) (hr : (xM X).sig.returnType = (some .int)) (sx0 : Int32) : Sim X 2 (FiM X vI) 23 [] [.int sx0] (f_X0_valueOf_23 sx0) := by
  unfold f_X0_valueOf_23
  exact sm_iret cx hr dX0_valueOf_23
def f_X0_valueOf_22 : Mo Int32 := f_X0_valueOf_23 (0 : Int32)
set_option maxRecDepth 100000 in
set_option maxHeartbeats 4000000 in
theorem s_X0_valueOf_22 {X : Cg} (cx : Cx X cX0_valueOf RX0 2) (hfr : 0 ≤ (xR X).frames) (hlo : 0 ≤ (xR X).locals) (hr : (xM X).sig.returnType = (some .int)) : Sim X 2 (FiM X vI) 22 [] [] (f_X0_valueOf_22) := by
  unfold f_X0_valueOf_22
  refine sm_iconst (v := 0) cx dX0_valueOf_22 (by decide) ?_
  exact sm_lv [] rfl (s_X0_valueOf_23 cx hfr hlo hr (0 : Int32))
def f_X0_valueOf (r0 : Option Nat) (x1 : Int32) : Mo Int32 := (if x1 < 0 then f_X0_valueOf_22 else mb (gR 3 0 r0) (fun v6 => mb (aN 1 v6) (fun v9 => (if v9 ≤ x1 then f_X0_valueOf_22 else mb (gR 3 0 r0) (fun v14 => mb (aI 1 v14 x1) (fun v18 => f_X0_valueOf_23 v18))))))
set_option maxRecDepth 100000 in
set_option maxHeartbeats 4000000 in
theorem s_X0_valueOf {X : Cg} (cx : Cx X cX0_valueOf RX0 2) (hfr : 0 ≤ (xR X).frames) (hlo : 0 ≤ (xR X).locals) (hr : (xM X).sig.returnType = (some .int)) (r0 : Option Nat) (x1 : Int32) : Sim X 2 (FiM X vI) 0 [(0, va_rf r0), (1, .int x1)] [] (f_X0_valueOf r0 x1) := by
  unfold f_X0_valueOf
  refine sm_iload_n cx 1 dX0_valueOf_0 rfl rfl ?_
  refine sm_if_lt (tgt := 22) cx dX0_valueOf_1 (by decide) ?_ ?_
  · exact sm_lv [] rfl (s_X0_valueOf_22 cx hfr hlo hr)
  · refine sm_iload_n cx 1 dX0_valueOf_4 rfl rfl ?_
    refine sm_aload_n cx 0 dX0_valueOf_5 rfl rfl ?_
    refine sm_getR cx fl_X0_9 dX0_valueOf_6 (fun v6 => ?_)
    refine sm_alen cx 1 (by decide) dX0_valueOf_9 (fun v9 => ?_)
    refine sm_icmp_ge (tgt := 22) cx dX0_valueOf_10 (by decide) ?_ ?_
    · exact sm_lv [] rfl (s_X0_valueOf_22 cx hfr hlo hr)
    · refine sm_aload_n cx 0 dX0_valueOf_13 rfl rfl ?_
      refine sm_getR cx fl_X0_9 dX0_valueOf_14 (fun v14 => ?_)
      refine sm_iload_n cx 1 dX0_valueOf_17 rfl rfl ?_
      refine sm_iald cx dX0_valueOf_18 (fun v18 => ?_)
      refine sm_goto (tgt := 23) cx dX0_valueOf_19 (by decide) ?_
      exact sm_lv [] rfl (s_X0_valueOf_23 cx hfr hlo hr v18)
set_option maxRecDepth 100000 in
set_option maxHeartbeats 4000000 in
theorem ct_X0_valueOf (Z : Nat → Nat) {r0 : Option Nat} (a0 : Nat) (h0 : r0 = some a0) (x1 : Int32) : Ct yX0_valueOf cX0_valueOf 2 (some .int) 0 0 Z [.ref a0, .int x1] vI (f_X0_valueOf r0 x1) := by
  subst h0
  refine ct_of (lv0 := [(0, va_rf (some a0)), (1, .int x1)]) (by decide +kernel) (by simp [lg_sl, ct_i, ct_l, ct_r, rf_cat]) (by show _ = ([(0, Value.ref a0), (1, .int x1)] : List (Nat × Value)); simp [lv_args, ct_i, ct_l, ct_r, rf_cat]) (fun X cx hZ hfr hlo hr hin => ?_)
  subst hZ
  exact s_X0_valueOf cx (Nat.le_of_eq hfr.symm) (Nat.le_of_eq hlo.symm) hr (some a0) x1
/-! PolicyTree$Bundle.put(II)Z -/
theorem dX0_put_0 : decode cX0_put 0 = .ok (.iload_n 1, 1) := by decide +kernel
theorem dX0_put_1 : decode cX0_put 1 = .ok (.ifCond .lt 30, 3) := by decide +kernel
theorem dX0_put_4 : decode cX0_put 4 = .ok (.iload_n 1, 1) := by decide +kernel
theorem dX0_put_5 : decode cX0_put 5 = .ok (.aload_n 0, 1) := by decide +kernel
theorem dX0_put_6 : decode cX0_put 6 = .ok (.getfield 9, 3) := by decide +kernel
theorem dX0_put_9 : decode cX0_put 9 = .ok (.arraylength, 1) := by decide +kernel
theorem dX0_put_10 : decode cX0_put 10 = .ok (.if_icmp .ge 21, 3) := by decide +kernel
theorem dX0_put_13 : decode cX0_put 13 = .ok (.aload_n 0, 1) := by decide +kernel
theorem dX0_put_14 : decode cX0_put 14 = .ok (.iload_n 1, 1) := by decide +kernel
theorem dX0_put_15 : decode cX0_put 15 = .ok (.invokevirtual 19, 3) := by decide +kernel
theorem dX0_put_18 : decode cX0_put 18 = .ok (.ifCond .eq 15, 3) := by decide +kernel
theorem dX0_put_21 : decode cX0_put 21 = .ok (.aload_n 0, 1) := by decide +kernel
theorem dX0_put_22 : decode cX0_put 22 = .ok (.getfield 9, 3) := by decide +kernel
theorem dX0_put_25 : decode cX0_put 25 = .ok (.iload_n 1, 1) := by decide +kernel
theorem dX0_put_26 : decode cX0_put 26 = .ok (.iaload, 1) := by decide +kernel
theorem dX0_put_27 : decode cX0_put 27 = .ok (.iload_n 2, 1) := by decide +kernel
theorem dX0_put_28 : decode cX0_put 28 = .ok (.if_icmp .ne 5, 3) := by decide +kernel
theorem dX0_put_31 : decode cX0_put 31 = .ok (.iconst 0, 1) := by decide +kernel
theorem dX0_put_32 : decode cX0_put 32 = .ok (.ireturn, 1) := by decide +kernel
theorem dX0_put_33 : decode cX0_put 33 = .ok (.aload_n 0, 1) := by decide +kernel
theorem dX0_put_34 : decode cX0_put 34 = .ok (.getfield 9, 3) := by decide +kernel
theorem dX0_put_37 : decode cX0_put 37 = .ok (.iload_n 1, 1) := by decide +kernel
theorem dX0_put_38 : decode cX0_put 38 = .ok (.iload_n 2, 1) := by decide +kernel
theorem dX0_put_39 : decode cX0_put 39 = .ok (.iastore, 1) := by decide +kernel
theorem dX0_put_40 : decode cX0_put 40 = .ok (.aload_n 0, 1) := by decide +kernel
theorem dX0_put_41 : decode cX0_put 41 = .ok (.dup, 1) := by decide +kernel
theorem dX0_put_42 : decode cX0_put 42 = .ok (.getfield 15, 3) := by decide +kernel
theorem dX0_put_45 : decode cX0_put 45 = .ok (.iconst 1, 1) := by decide +kernel
theorem dX0_put_46 : decode cX0_put 46 = .ok (.iload_n 1, 1) := by decide +kernel
theorem dX0_put_47 : decode cX0_put 47 = .ok (.ishl, 1) := by decide +kernel
theorem dX0_put_48 : decode cX0_put 48 = .ok (.ior, 1) := by decide +kernel
theorem dX0_put_49 : decode cX0_put 49 = .ok (.putfield 15, 3) := by decide +kernel
theorem dX0_put_52 : decode cX0_put 52 = .ok (.iconst 1, 1) := by decide +kernel
theorem dX0_put_53 : decode cX0_put 53 = .ok (.ireturn, 1) := by decide +kernel
def f_X0_put_31 : Mo Int32 := rz .boolean (0 : Int32)
set_option maxRecDepth 100000 in
set_option maxHeartbeats 4000000 in
theorem s_X0_put_31 {X : Cg} (cx : Cx X cX0_put RX0 3) (hfr : 1 ≤ (xR X).frames) (hlo : 21 ≤ (xR X).locals) (hr : (xM X).sig.returnType = (some .boolean)) : Sim X 3 (FiM X vI) 31 [] [] (f_X0_put_31) := by
  unfold f_X0_put_31
  refine sm_iconst (v := 0) cx dX0_put_31 (by decide) ?_
  exact sm_zret cx hr dX0_put_32
def f_X0_put_33 (r0 : Option Nat) (x1 : Int32) (x2 : Int32) : Mo Int32 := mb (gR 3 0 r0) (fun v34 => mb (sI 1 v34 x1 x2) (fun _ => mb (gI 3 1 r0) (fun v42 => mb (pV 3 1 r0 (.int (v42 ||| ((1 : Int32) <<< (x1 &&& 31))))) (fun _ => rz .boolean (1 : Int32)))))
set_option maxRecDepth 100000 in
set_option maxHeartbeats 4000000 in
theorem s_X0_put_33 {X : Cg} (cx : Cx X cX0_put RX0 3) (hfr : 1 ≤ (xR X).frames) (hlo : 21 ≤ (xR X).locals) (hr : (xM X).sig.returnType = (some .boolean)) (r0 : Option Nat) (x1 : Int32) (x2 : Int32) : Sim X 3 (FiM X vI) 33 [(0, va_rf r0), (1, .int x1), (2, .int x2)] [] (f_X0_put_33 r0 x1 x2) := by
  unfold f_X0_put_33
  refine sm_aload_n cx 0 dX0_put_33 rfl rfl ?_
  refine sm_getR cx fl_X0_9 dX0_put_34 (fun v34 => ?_)
  refine sm_iload_n cx 1 dX0_put_37 rfl rfl ?_
  refine sm_iload_n cx 2 dX0_put_38 rfl rfl ?_
  refine sm_iast cx dX0_put_39 ?_
  refine sm_aload_n cx 0 dX0_put_40 rfl rfl ?_
  refine sm_dup cx dX0_put_41 (rf_cat _) ?_
  refine sm_getI cx fl_X0_15 dX0_put_42 (fun v42 => ?_)
  refine sm_iconst (v := 1) cx dX0_put_45 (by decide) ?_
  refine sm_iload_n cx 1 dX0_put_46 rfl rfl ?_
  refine sm_ishl cx dX0_put_47 ?_
  refine sm_ior cx dX0_put_48 ?_
  refine sm_putV cx fl_X0_15 rfl rfl dX0_put_49 ?_
  refine sm_iconst (v := 1) cx dX0_put_52 (by decide) ?_
  exact sm_zret cx hr dX0_put_53
def f_X0_put (r0 : Option Nat) (x1 : Int32) (x2 : Int32) : Mo Int32 := (if x1 < 0 then f_X0_put_31 else mb (gR 3 0 r0) (fun v6 => mb (aN 1 v6) (fun v9 => (if v9 ≤ x1 then f_X0_put_31 else mb (mo 3 r0 (f_X0_tells r0 x1)) (fun v15 => (if v15 = 0 then f_X0_put_33 r0 x1 x2 else mb (gR 3 0 r0) (fun v22 => mb (aI 1 v22 x1) (fun v26 => (if v26 = x2 then f_X0_put_31 else f_X0_put_33 r0 x1 x2)))))))))
set_option maxRecDepth 100000 in
set_option maxHeartbeats 4000000 in
theorem s_X0_put {X : Cg} (cx : Cx X cX0_put RX0 3) (hfr : 1 ≤ (xR X).frames) (hlo : 21 ≤ (xR X).locals) (hr : (xM X).sig.returnType = (some .boolean)) (r0 : Option Nat) (x1 : Int32) (x2 : Int32) : Sim X 3 (FiM X vI) 0 [(0, va_rf r0), (1, .int x1), (2, .int x2)] [] (f_X0_put r0 x1 x2) := by
  unfold f_X0_put
  refine sm_iload_n cx 1 dX0_put_0 rfl rfl ?_
  refine sm_if_lt (tgt := 31) cx dX0_put_1 (by decide) ?_ ?_
  · exact sm_lv [] rfl (s_X0_put_31 cx hfr hlo hr)
  · refine sm_iload_n cx 1 dX0_put_4 rfl rfl ?_
    refine sm_aload_n cx 0 dX0_put_5 rfl rfl ?_
    refine sm_getR cx fl_X0_9 dX0_put_6 (fun v6 => ?_)
    refine sm_alen cx 1 (by decide) dX0_put_9 (fun v9 => ?_)
    refine sm_icmp_ge (tgt := 31) cx dX0_put_10 (by decide) ?_ ?_
    · exact sm_lv [] rfl (s_X0_put_31 cx hfr hlo hr)
    · refine sm_aload_n cx 0 dX0_put_13 rfl rfl ?_
      refine sm_iload_n cx 1 dX0_put_14 rfl rfl ?_
      refine sm_callV (T := TX0) (N := 2) (toV := vI) cx [.int x1] rfl cv_X0_19 (fun a h => ct_X0_tells (xZ X) a h x1) (Nat.le_trans (by decide) hfr) (Nat.le_trans (by decide) hlo) rfl (cat_le _ (Nat.le_of_ble_eq_true rfl)) dX0_put_15 (fun v15 => ?_)
      refine sm_if_eq (tgt := 33) cx dX0_put_18 (by decide) ?_ ?_
      · exact sm_lv [0, 1, 2] rfl (s_X0_put_33 cx hfr hlo hr r0 x1 x2)
      · refine sm_aload_n cx 0 dX0_put_21 rfl rfl ?_
        refine sm_getR cx fl_X0_9 dX0_put_22 (fun v22 => ?_)
        refine sm_iload_n cx 1 dX0_put_25 rfl rfl ?_
        refine sm_iald cx dX0_put_26 (fun v26 => ?_)
        refine sm_iload_n cx 2 dX0_put_27 rfl rfl ?_
        refine sm_icmp_ne (tgt := 33) cx dX0_put_28 (by decide) ?_ ?_
        · exact sm_lv [0, 1, 2] rfl (s_X0_put_33 cx hfr hlo hr r0 x1 x2)
        · exact sm_lv [] rfl (s_X0_put_31 cx hfr hlo hr)
set_option maxRecDepth 100000 in
set_option maxHeartbeats 4000000 in
theorem ct_X0_put (Z : Nat → Nat) {r0 : Option Nat} (a0 : Nat) (h0 : r0 = some a0) (x1 : Int32) (x2 : Int32) : Ct yX0_put cX0_put 3 (some .boolean) 1 21 Z [.ref a0, .int x1, .int x2] vI (f_X0_put r0 x1 x2) := by
  subst h0
  refine ct_of (lv0 := [(0, va_rf (some a0)), (1, .int x1), (2, .int x2)]) (by decide +kernel) (by simp [lg_sl, ct_i, ct_l, ct_r, rf_cat]) (by show _ = ([(0, Value.ref a0), (1, .int x1), (2, .int x2)] : List (Nat × Value)); simp [lv_args, ct_i, ct_l, ct_r, rf_cat]) (fun X cx hZ hfr hlo hr hin => ?_)
  subst hZ
  exact s_X0_put cx (Nat.le_of_eq hfr.symm) (Nat.le_of_eq hlo.symm) hr (some a0) x1 x2
/-! PolicyTree$Bundle.drop(I)Z -/
theorem dX0_drop_0 : decode cX0_drop 0 = .ok (.aload_n 0, 1) := by decide +kernel
theorem dX0_drop_1 : decode cX0_drop 1 = .ok (.iload_n 1, 1) := by decide +kernel
theorem dX0_drop_2 : decode cX0_drop 2 = .ok (.invokevirtual 19, 3) := by decide +kernel
theorem dX0_drop_5 : decode cX0_drop 5 = .ok (.istore_n 2, 1) := by decide +kernel
theorem dX0_drop_6 : decode cX0_drop 6 = .ok (.aload_n 0, 1) := by decide +kernel
theorem dX0_drop_7 : decode cX0_drop 7 = .ok (.dup, 1) := by decide +kernel
theorem dX0_drop_8 : decode cX0_drop 8 = .ok (.getfield 15, 3) := by decide +kernel
theorem dX0_drop_11 : decode cX0_drop 11 = .ok (.iconst 1, 1) := by decide +kernel
theorem dX0_drop_12 : decode cX0_drop 12 = .ok (.iload_n 1, 1) := by decide +kernel
theorem dX0_drop_13 : decode cX0_drop 13 = .ok (.ishl, 1) := by decide +kernel
theorem dX0_drop_14 : decode cX0_drop 14 = .ok (.iconst (-1), 1) := by decide +kernel
theorem dX0_drop_15 : decode cX0_drop 15 = .ok (.ixor, 1) := by decide +kernel
theorem dX0_drop_16 : decode cX0_drop 16 = .ok (.iand, 1) := by decide +kernel
theorem dX0_drop_17 : decode cX0_drop 17 = .ok (.putfield 15, 3) := by decide +kernel
theorem dX0_drop_20 : decode cX0_drop 20 = .ok (.iload_n 2, 1) := by decide +kernel
theorem dX0_drop_21 : decode cX0_drop 21 = .ok (.ireturn, 1) := by decide +kernel
def f_X0_drop (r0 : Option Nat) (x1 : Int32) : Mo Int32 := mb (mo 3 r0 (f_X0_tells r0 x1)) (fun v2 => mb (gI 3 1 r0) (fun v8 => mb (pV 3 1 r0 (.int (v8 &&& (((1 : Int32) <<< (x1 &&& 31)) ^^^ (-1 : Int32))))) (fun _ => rz .boolean v2)))
set_option maxRecDepth 100000 in
set_option maxHeartbeats 4000000 in
theorem s_X0_drop {X : Cg} (cx : Cx X cX0_drop RX0 3) (hfr : 1 ≤ (xR X).frames) (hlo : 21 ≤ (xR X).locals) (hr : (xM X).sig.returnType = (some .boolean)) (r0 : Option Nat) (x1 : Int32) : Sim X 3 (FiM X vI) 0 [(0, va_rf r0), (1, .int x1)] [] (f_X0_drop r0 x1) := by
  unfold f_X0_drop
  refine sm_aload_n cx 0 dX0_drop_0 rfl rfl ?_
  refine sm_iload_n cx 1 dX0_drop_1 rfl rfl ?_
  refine sm_callV (T := TX0) (N := 2) (toV := vI) cx [.int x1] rfl cv_X0_19 (fun a h => ct_X0_tells (xZ X) a h x1) (Nat.le_trans (by decide) hfr) (Nat.le_trans (by decide) hlo) rfl (cat_le _ (Nat.le_of_ble_eq_true rfl)) dX0_drop_2 (fun v2 => ?_)
  refine sm_istore_n cx [(2, .int v2), (0, va_rf r0), (1, .int x1)] dX0_drop_5 rfl (by decide) rfl (nc1 rfl) rfl ?_
  refine sm_aload_n cx 1 dX0_drop_6 rfl rfl ?_
  refine sm_dup cx dX0_drop_7 (rf_cat _) ?_
  refine sm_getI cx fl_X0_15 dX0_drop_8 (fun v8 => ?_)
  refine sm_iconst (v := 1) cx dX0_drop_11 (by decide) ?_
  refine sm_iload_n cx 2 dX0_drop_12 rfl rfl ?_
  refine sm_ishl cx dX0_drop_13 ?_
  refine sm_iconst (v := -1) cx dX0_drop_14 (by decide) ?_
  refine sm_ixor cx dX0_drop_15 ?_
  refine sm_iand cx dX0_drop_16 ?_
  refine sm_putV cx fl_X0_15 rfl rfl dX0_drop_17 ?_
  refine sm_iload_n cx 0 dX0_drop_20 rfl rfl ?_
  exact sm_zret cx hr dX0_drop_21
set_option maxRecDepth 100000 in
set_option maxHeartbeats 4000000 in
theorem ct_X0_drop (Z : Nat → Nat) {r0 : Option Nat} (a0 : Nat) (h0 : r0 = some a0) (x1 : Int32) : Ct yX0_drop cX0_drop 3 (some .boolean) 1 21 Z [.ref a0, .int x1] vI (f_X0_drop r0 x1) := by
  subst h0
  refine ct_of (lv0 := [(0, va_rf (some a0)), (1, .int x1)]) (by decide +kernel) (by simp [lg_sl, ct_i, ct_l, ct_r, rf_cat]) (by show _ = ([(0, Value.ref a0), (1, .int x1)] : List (Nat × Value)); simp [lv_args, ct_i, ct_l, ct_r, rf_cat]) (fun X cx hZ hfr hlo hr hin => ?_)
  subst hZ
  exact s_X0_drop cx (Nat.le_of_eq hfr.symm) (Nat.le_of_eq hlo.symm) hr (some a0) x1
/-! PolicyTree$Bundle.differs(LPolicyTree$Bundle;I)Z -/
theorem dX0_differs_0 : decode cX0_differs 0 = .ok (.aload_n 0, 1) := by decide +kernel
theorem dX0_differs_1 : decode cX0_differs 1 = .ok (.getfield 15, 3) := by decide +kernel
theorem dX0_differs_4 : decode cX0_differs 4 = .ok (.aload_n 1, 1) := by decide +kernel
theorem dX0_differs_5 : decode cX0_differs 5 = .ok (.getfield 15, 3) := by decide +kernel
theorem dX0_differs_8 : decode cX0_differs 8 = .ok (.iand, 1) := by decide +kernel
theorem dX0_differs_9 : decode cX0_differs 9 = .ok (.iload_n 2, 1) := by decide +kernel
theorem dX0_differs_10 : decode cX0_differs 10 = .ok (.iand, 1) := by decide +kernel
theorem dX0_differs_11 : decode cX0_differs 11 = .ok (.istore_n 3, 1) := by decide +kernel
theorem dX0_differs_12 : decode cX0_differs 12 = .ok (.iconst 0, 1) := by decide +kernel
theorem dX0_differs_13 : decode cX0_differs 13 = .ok (.istore 4, 2) := by decide +kernel
theorem dX0_differs_15 : decode cX0_differs 15 = .ok (.iload 4, 2) := by decide +kernel
theorem dX0_differs_17 : decode cX0_differs 17 = .ok (.aload_n 0, 1) := by decide +kernel
theorem dX0_differs_18 : decode cX0_differs 18 = .ok (.getfield 9, 3) := by decide +kernel
theorem dX0_differs_21 : decode cX0_differs 21 = .ok (.arraylength, 1) := by decide +kernel
theorem dX0_differs_22 : decode cX0_differs 22 = .ok (.if_icmp .ge 36, 3) := by decide +kernel
theorem dX0_differs_25 : decode cX0_differs 25 = .ok (.iload_n 3, 1) := by decide +kernel
theorem dX0_differs_26 : decode cX0_differs 26 = .ok (.iload 4, 2) := by decide +kernel
theorem dX0_differs_28 : decode cX0_differs 28 = .ok (.iushr, 1) := by decide +kernel
theorem dX0_differs_29 : decode cX0_differs 29 = .ok (.iconst 1, 1) := by decide +kernel
theorem dX0_differs_30 : decode cX0_differs 30 = .ok (.iand, 1) := by decide +kernel
theorem dX0_differs_31 : decode cX0_differs 31 = .ok (.ifCond .eq 21, 3) := by decide +kernel
theorem dX0_differs_34 : decode cX0_differs 34 = .ok (.aload_n 0, 1) := by decide +kernel
theorem dX0_differs_35 : decode cX0_differs 35 = .ok (.getfield 9, 3) := by decide +kernel
theorem dX0_differs_38 : decode cX0_differs 38 = .ok (.iload 4, 2) := by decide +kernel
theorem dX0_differs_40 : decode cX0_differs 40 = .ok (.iaload, 1) := by decide +kernel
theorem dX0_differs_41 : decode cX0_differs 41 = .ok (.aload_n 1, 1) := by decide +kernel
theorem dX0_differs_42 : decode cX0_differs 42 = .ok (.iload 4, 2) := by decide +kernel
theorem dX0_differs_44 : decode cX0_differs 44 = .ok (.invokevirtual 23, 3) := by decide +kernel
theorem dX0_differs_47 : decode cX0_differs 47 = .ok (.if_icmp .eq 5, 3) := by decide +kernel
theorem dX0_differs_50 : decode cX0_differs 50 = .ok (.iconst 1, 1) := by decide +kernel
theorem dX0_differs_51 : decode cX0_differs 51 = .ok (.ireturn, 1) := by decide +kernel
theorem dX0_differs_52 : decode cX0_differs 52 = .ok (.iinc 4 1, 3) := by decide +kernel
theorem dX0_differs_55 : decode cX0_differs 55 = .ok (.goto (-40), 3) := by decide +kernel
theorem dX0_differs_58 : decode cX0_differs 58 = .ok (.iconst 0, 1) := by decide +kernel
theorem dX0_differs_59 : decode cX0_differs 59 = .ok (.ireturn, 1) := by decide +kernel
def f_X0_differs_52 (k15 : Int32 → Mo Int32) (r0 : Option Nat) (r1 : Option Nat) (x3 : Int32) (x4 : Int32) : Mo Int32 := k15 (x4 + 1)
set_option maxRecDepth 100000 in
set_option maxHeartbeats 4000000 in
theorem s_X0_differs_52 {X : Cg} (cx : Cx X cX0_differs RX0 5) (hfr : 1 ≤ (xR X).frames) (hlo : 21 ≤ (xR X).locals) (hr : (xM X).sig.returnType = (some .boolean)) (r0 : Option Nat) (r1 : Option Nat) (x3 : Int32) (x4 : Int32) {k15 : Int32 → Mo Int32} (hk15 : ∀ (x4 : Int32), Sim X 5 (FiM X vI) 15 [(0, va_rf r0), (1, va_rf r1), (3, .int x3), (4, .int x4)] [] (k15 x4)) : Sim X 5 (FiM X vI) 52 [(0, va_rf r0), (1, va_rf r1), (3, .int x3), (4, .int x4)] [] (f_X0_differs_52 k15 r0 r1 x3 x4) := by
  unfold f_X0_differs_52
  refine sm_iinc cx 3 [(4, .int (x4 + 1)), (0, va_rf r0), (1, va_rf r1), (3, .int x3)] dX0_differs_52 rfl rfl (by decide) rfl (nc1 rfl) rfl ?_
  refine sm_goto (tgt := 15) cx dX0_differs_55 (by decide) ?_
  exact sm_lv [1, 2, 3, 0] rfl (hk15 (x4 + 1))
def f_X0_differs_15 (r0 : Option Nat) (r1 : Option Nat) (x3 : Int32) : Nat → Int32 → Mo Int32
  | 0, _ => mf
  | n + 1, x4 => mb (gR 3 0 r0) (fun v18 => mb (aN 1 v18) (fun v21 => (if v21 ≤ x4 then rz .boolean (0 : Int32) else (if ((jSh x3 x4) &&& (1 : Int32)) = 0 then f_X0_differs_52 (f_X0_differs_15 r0 r1 x3 n) r0 r1 x3 x4 else mb (gR 3 0 r0) (fun v35 => mb (aI 1 v35 x4) (fun v40 => mb (mo 3 r1 (f_X0_valueOf r1 x4)) (fun v44 => (if v40 = v44 then f_X0_differs_52 (f_X0_differs_15 r0 r1 x3 n) r0 r1 x3 x4 else rz .boolean (1 : Int32)))))))))
set_option maxRecDepth 100000 in
set_option maxHeartbeats 4000000 in
theorem s_X0_differs_15 {X : Cg} (cx : Cx X cX0_differs RX0 5) (hfr : 1 ≤ (xR X).frames) (hlo : 21 ≤ (xR X).locals) (hr : (xM X).sig.returnType = (some .boolean)) (r0 : Option Nat) (r1 : Option Nat) (x3 : Int32) : ∀ (n : Nat) (x4 : Int32), Sim X 5 (FiM X vI) 15 [(0, va_rf r0), (1, va_rf r1), (3, .int x3), (4, .int x4)] [] (f_X0_differs_15 r0 r1 x3 n x4) := by
  intro n
  induction n with
  | zero =>
    intro _
    exact sm_mf
  | succ n ih =>
    intro x4
    rw [f_X0_differs_15]
    refine sm_iload cx 3 dX0_differs_15 rfl ?_
    refine sm_aload_n cx 0 dX0_differs_17 rfl rfl ?_
    refine sm_getR cx fl_X0_9 dX0_differs_18 (fun v18 => ?_)
    refine sm_alen cx 1 (by decide) dX0_differs_21 (fun v21 => ?_)
    refine sm_icmp_ge (tgt := 58) cx dX0_differs_22 (by decide) ?_ ?_
    · refine sm_iconst (v := 0) cx dX0_differs_58 (by decide) ?_
      exact sm_zret cx hr dX0_differs_59
    · refine sm_iload_n cx 2 dX0_differs_25 rfl rfl ?_
      refine sm_iload cx 3 dX0_differs_26 rfl ?_
      refine sm_iushr cx dX0_differs_28 ?_
      refine sm_iconst (v := 1) cx dX0_differs_29 (by decide) ?_
      refine sm_iand cx dX0_differs_30 ?_
      refine sm_if_eq (tgt := 52) cx dX0_differs_31 (by decide) ?_ ?_
      · exact sm_lv [0, 1, 2, 3] rfl (s_X0_differs_52 cx hfr hlo hr r0 r1 x3 x4 ih)
      · refine sm_aload_n cx 0 dX0_differs_34 rfl rfl ?_
        refine sm_getR cx fl_X0_9 dX0_differs_35 (fun v35 => ?_)
        refine sm_iload cx 3 dX0_differs_38 rfl ?_
        refine sm_iald cx dX0_differs_40 (fun v40 => ?_)
        refine sm_aload_n cx 1 dX0_differs_41 rfl rfl ?_
        refine sm_iload cx 3 dX0_differs_42 rfl ?_
        refine sm_callV (T := TX0) (N := 2) (toV := vI) cx [.int x4] rfl cv_X0_23 (fun a h => ct_X0_valueOf (xZ X) a h x4) (Nat.le_trans (by decide) hfr) (Nat.le_trans (by decide) hlo) rfl (cat_le _ (Nat.le_of_ble_eq_true rfl)) dX0_differs_44 (fun v44 => ?_)
        refine sm_icmp_eq (tgt := 52) cx dX0_differs_47 (by decide) ?_ ?_
        · exact sm_lv [0, 1, 2, 3] rfl (s_X0_differs_52 cx hfr hlo hr r0 r1 x3 x4 ih)
        · refine sm_iconst (v := 1) cx dX0_differs_50 (by decide) ?_
          exact sm_zret cx hr dX0_differs_51
def f_X0_differs (r0 : Option Nat) (r1 : Option Nat) (x2 : Int32) : Mo Int32 := mb (gI 3 1 r0) (fun v1 => mb (gI 3 1 r1) (fun v5 => f_X0_differs_15 r0 r1 ((v1 &&& v5) &&& x2) fuL (0 : Int32)))
set_option maxRecDepth 100000 in
set_option maxHeartbeats 4000000 in
theorem s_X0_differs {X : Cg} (cx : Cx X cX0_differs RX0 5) (hfr : 1 ≤ (xR X).frames) (hlo : 21 ≤ (xR X).locals) (hr : (xM X).sig.returnType = (some .boolean)) (r0 : Option Nat) (r1 : Option Nat) (x2 : Int32) : Sim X 5 (FiM X vI) 0 [(0, va_rf r0), (1, va_rf r1), (2, .int x2)] [] (f_X0_differs r0 r1 x2) := by
  unfold f_X0_differs
  refine sm_aload_n cx 0 dX0_differs_0 rfl rfl ?_
  refine sm_getI cx fl_X0_15 dX0_differs_1 (fun v1 => ?_)
  refine sm_aload_n cx 1 dX0_differs_4 rfl rfl ?_
  refine sm_getI cx fl_X0_15 dX0_differs_5 (fun v5 => ?_)
  refine sm_iand cx dX0_differs_8 ?_
  refine sm_iload_n cx 2 dX0_differs_9 rfl rfl ?_
  refine sm_iand cx dX0_differs_10 ?_
  refine sm_istore_n cx [(3, .int ((v1 &&& v5) &&& x2)), (0, va_rf r0), (1, va_rf r1), (2, .int x2)] dX0_differs_11 rfl (by decide) rfl (nc1 rfl) rfl ?_
  refine sm_iconst (v := 0) cx dX0_differs_12 (by decide) ?_
  refine sm_istore cx [(4, .int (0 : Int32)), (3, .int ((v1 &&& v5) &&& x2)), (0, va_rf r0), (1, va_rf r1), (2, .int x2)] dX0_differs_13 (by decide) rfl (nc1 rfl) rfl ?_
  exact sm_lv [2, 3, 1, 0] rfl (s_X0_differs_15 cx hfr hlo hr r0 r1 ((v1 &&& v5) &&& x2) fuL (0 : Int32))
set_option maxRecDepth 100000 in
set_option maxHeartbeats 4000000 in
theorem ct_X0_differs (Z : Nat → Nat) {r0 : Option Nat} (a0 : Nat) (h0 : r0 = some a0) (r1 : Option Nat) (x2 : Int32) : Ct yX0_differs cX0_differs 5 (some .boolean) 1 21 Z [.ref a0, va_rf r1, .int x2] vI (f_X0_differs r0 r1 x2) := by
  subst h0
  refine ct_of (lv0 := [(0, va_rf (some a0)), (1, va_rf r1), (2, .int x2)]) (by decide +kernel) (by simp [lg_sl, ct_i, ct_l, ct_r, rf_cat]) (by show _ = ([(0, Value.ref a0), (1, va_rf r1), (2, .int x2)] : List (Nat × Value)); simp [lv_args, ct_i, ct_l, ct_r, rf_cat]) (fun X cx hZ hfr hlo hr hin => ?_)
  subst hZ
  exact s_X0_differs cx (Nat.le_of_eq hfr.symm) (Nat.le_of_eq hlo.symm) hr (some a0) r1 x2
/-! PolicyTree$Groups.<init>()V -/
theorem dX3_init_0 : decode cX3_init 0 = .ok (.aload_n 0, 1) := by decide +kernel
theorem dX3_init_1 : decode cX3_init 1 = .ok (.invokespecial 3, 3) := by decide +kernel
theorem dX3_init_4 : decode cX3_init 4 = .ok (.aload_n 0, 1) := by decide +kernel
theorem dX3_init_5 : decode cX3_init 5 = .ok (.bipush 20, 2) := by decide +kernel
theorem dX3_init_7 : decode cX3_init 7 = .ok (.newarray .long, 2) := by decide +kernel
theorem dX3_init_9 : decode cX3_init 9 = .ok (.putfield 9, 3) := by decide +kernel
theorem dX3_init_12 : decode cX3_init 12 = .ok (.aload_n 0, 1) := by decide +kernel
theorem dX3_init_13 : decode cX3_init 13 = .ok (.bipush 20, 2) := by decide +kernel
theorem dX3_init_15 : decode cX3_init 15 = .ok (.newarray .int, 2) := by decide +kernel
theorem dX3_init_17 : decode cX3_init 17 = .ok (.putfield 15, 3) := by decide +kernel
theorem dX3_init_20 : decode cX3_init 20 = .ok (.return_, 1) := by decide +kernel
def f_X3_init (r0 : Option Nat) : Mo Unit := mb (mo 6 r0 (mp ())) (fun _ => mb (nA 2 (20 : Int32)) (fun v7 => mb (pV 6 0 r0 (va_rf v7)) (fun _ => mb (nA 1 (20 : Int32)) (fun v15 => mb (pV 6 1 r0 (va_rf v15)) (fun _ => mp ())))))
set_option maxRecDepth 100000 in
set_option maxHeartbeats 4000000 in
theorem s_X3_init {X : Cg} (cx : Cx X cX3_init RX3 1) (hfr : 1 ≤ (xR X).frames) (hlo : 12 ≤ (xR X).locals) (hr : (xM X).sig.returnType = none) (hin : (xM X).name = "<init>") (r0 : Option Nat) : Sim X 1 (FiM X vV) 0 [(0, va_rf r0)] [] (f_X3_init r0) := by
  unfold f_X3_init
  refine sm_aload_n cx 0 dX3_init_0 rfl rfl ?_
  refine sm_obj (ci := 6) cx wd_1_74 wd_1_41 wd_1_42 (Nat.le_trans (by decide) hfr) (Nat.le_trans (by decide) hlo) dX3_init_1 rfl ?_
  refine sm_aload_n cx 0 dX3_init_4 rfl rfl ?_
  refine sm_bipush (v := 20) cx dX3_init_5 (by decide) ?_
  refine sm_newa2 cx dX3_init_7 (fun v7 => ?_)
  refine sm_putF cx hin fl_X3_9 (nr_ra _) (ft_ra _) dX3_init_9 ?_
  refine sm_aload_n cx 0 dX3_init_12 rfl rfl ?_
  refine sm_bipush (v := 20) cx dX3_init_13 (by decide) ?_
  refine sm_newa1 cx dX3_init_15 (fun v15 => ?_)
  refine sm_putF cx hin fl_X3_15 (nr_ra _) (ft_ra _) dX3_init_17 ?_
  exact sm_vret cx hr dX3_init_20
set_option maxRecDepth 100000 in
set_option maxHeartbeats 4000000 in
theorem ct_X3_init (Z : Nat → Nat) {r0 : Option Nat} (a0 : Nat) (h0 : r0 = some a0) : Ct yX3_init cX3_init 1 none 1 12 Z [.ref a0] vV (f_X3_init r0) := by
  subst h0
  refine ct_of (lv0 := [(0, va_rf (some a0))]) (by decide +kernel) (by simp [lg_sl, ct_i, ct_l, ct_r, rf_cat]) (by show _ = ([(0, Value.ref a0)] : List (Nat × Value)); simp [lv_args, ct_i, ct_l, ct_r, rf_cat]) (fun X cx hZ hfr hlo hr hin => ?_)
  subst hZ
  exact s_X3_init cx (Nat.le_of_eq hfr.symm) (Nat.le_of_eq hlo.symm) hr hin (some a0)
/-! PolicyTree$Groups.size()I -/
theorem dX3_size_0 : decode cX3_size 0 = .ok (.aload_n 0, 1) := by decide +kernel
theorem dX3_size_1 : decode cX3_size 1 = .ok (.getfield 19, 3) := by decide +kernel
theorem dX3_size_4 : decode cX3_size 4 = .ok (.ireturn, 1) := by decide +kernel
def f_X3_size (r0 : Option Nat) : Mo Int32 := mb (gI 6 2 r0) (fun v1 => mp v1)
set_option maxRecDepth 100000 in
set_option maxHeartbeats 4000000 in
theorem s_X3_size {X : Cg} (cx : Cx X cX3_size RX3 1) (hfr : 0 ≤ (xR X).frames) (hlo : 0 ≤ (xR X).locals) (hr : (xM X).sig.returnType = (some .int)) (r0 : Option Nat) : Sim X 1 (FiM X vI) 0 [(0, va_rf r0)] [] (f_X3_size r0) := by
  unfold f_X3_size
  refine sm_aload_n cx 0 dX3_size_0 rfl rfl ?_
  refine sm_getI cx fl_X3_19 dX3_size_1 (fun v1 => ?_)
  exact sm_iret cx hr dX3_size_4
set_option maxRecDepth 100000 in
set_option maxHeartbeats 4000000 in
theorem ct_X3_size (Z : Nat → Nat) {r0 : Option Nat} (a0 : Nat) (h0 : r0 = some a0) : Ct yX3_size cX3_size 1 (some .int) 0 0 Z [.ref a0] vI (f_X3_size r0) := by
  subst h0
  refine ct_of (lv0 := [(0, va_rf (some a0))]) (by decide +kernel) (by simp [lg_sl, ct_i, ct_l, ct_r, rf_cat]) (by show _ = ([(0, Value.ref a0)] : List (Nat × Value)); simp [lv_args, ct_i, ct_l, ct_r, rf_cat]) (fun X cx hZ hfr hlo hr hin => ?_)
  subst hZ
  exact s_X3_size cx (Nat.le_of_eq hfr.symm) (Nat.le_of_eq hlo.symm) hr (some a0)
/-! PolicyTree$Groups.add()I -/
theorem dX3_add_0 : decode cX3_add 0 = .ok (.aload_n 0, 1) := by decide +kernel
theorem dX3_add_1 : decode cX3_add 1 = .ok (.dup, 1) := by decide +kernel
theorem dX3_add_2 : decode cX3_add 2 = .ok (.getfield 19, 3) := by decide +kernel
theorem dX3_add_5 : decode cX3_add 5 = .ok (.iconst 1, 1) := by decide +kernel
theorem dX3_add_6 : decode cX3_add 6 = .ok (.iadd, 1) := by decide +kernel
theorem dX3_add_7 : decode cX3_add 7 = .ok (.putfield 19, 3) := by decide +kernel
theorem dX3_add_10 : decode cX3_add 10 = .ok (.aload_n 0, 1) := by decide +kernel
theorem dX3_add_11 : decode cX3_add 11 = .ok (.getfield 19, 3) := by decide +kernel
theorem dX3_add_14 : decode cX3_add 14 = .ok (.iconst 1, 1) := by decide +kernel
theorem dX3_add_15 : decode cX3_add 15 = .ok (.isub, 1) := by decide +kernel
theorem dX3_add_16 : decode cX3_add 16 = .ok (.ireturn, 1) := by decide +kernel
def f_X3_add (r0 : Option Nat) : Mo Int32 := mb (gI 6 2 r0) (fun v2 => mb (pV 6 2 r0 (.int (v2 + (1 : Int32)))) (fun _ => mb (gI 6 2 r0) (fun v11 => mp (v11 - (1 : Int32)))))
set_option maxRecDepth 100000 in
set_option maxHeartbeats 4000000 in
theorem s_X3_add {X : Cg} (cx : Cx X cX3_add RX3 1) (hfr : 0 ≤ (xR X).frames) (hlo : 0 ≤ (xR X).locals) (hr : (xM X).sig.returnType = (some .int)) (r0 : Option Nat) : Sim X 1 (FiM X vI) 0 [(0, va_rf r0)] [] (f_X3_add r0) := by
  unfold f_X3_add
  refine sm_aload_n cx 0 dX3_add_0 rfl rfl ?_
  refine sm_dup cx dX3_add_1 (rf_cat _) ?_
  refine sm_getI cx fl_X3_19 dX3_add_2 (fun v2 => ?_)
  refine sm_iconst (v := 1) cx dX3_add_5 (by decide) ?_
  refine sm_iadd cx dX3_add_6 ?_
  refine sm_putV cx fl_X3_19 rfl rfl dX3_add_7 ?_
  refine sm_aload_n cx 0 dX3_add_10 rfl rfl ?_
  refine sm_getI cx fl_X3_19 dX3_add_11 (fun v11 => ?_)
  refine sm_iconst (v := 1) cx dX3_add_14 (by decide) ?_
  refine sm_isub cx dX3_add_15 ?_
  exact sm_iret cx hr dX3_add_16
set_option maxRecDepth 100000 in
set_option maxHeartbeats 4000000 in
theorem ct_X3_add (Z : Nat → Nat) {r0 : Option Nat} (a0 : Nat) (h0 : r0 = some a0) : Ct yX3_add cX3_add 1 (some .int) 0 0 Z [.ref a0] vI (f_X3_add r0) := by
  subst h0
  refine ct_of (lv0 := [(0, va_rf (some a0))]) (by decide +kernel) (by simp [lg_sl, ct_i, ct_l, ct_r, rf_cat]) (by show _ = ([(0, Value.ref a0)] : List (Nat × Value)); simp [lv_args, ct_i, ct_l, ct_r, rf_cat]) (fun X cx hZ hfr hlo hr hin => ?_)
  subst hZ
  exact s_X3_add cx (Nat.le_of_eq hfr.symm) (Nat.le_of_eq hlo.symm) hr (some a0)
/-! PolicyTree$Groups.putMachine(IIZ)Z -/
theorem dX3_putMachine_0 : decode cX3_putMachine 0 = .ok (.iload_n 1, 1) := by decide +kernel
theorem dX3_putMachine_1 : decode cX3_putMachine 1 = .ok (.ifCond .lt 12, 3) := by decide +kernel
theorem dX3_putMachine_4 : decode cX3_putMachine 4 = .ok (.iload_n 1, 1) := by decide +kernel
theorem dX3_putMachine_5 : decode cX3_putMachine 5 = .ok (.aload_n 0, 1) := by decide +kernel
theorem dX3_putMachine_6 : decode cX3_putMachine 6 = .ok (.getfield 9, 3) := by decide +kernel
theorem dX3_putMachine_9 : decode cX3_putMachine 9 = .ok (.arraylength, 1) := by decide +kernel
theorem dX3_putMachine_10 : decode cX3_putMachine 10 = .ok (.if_icmp .lt 5, 3) := by decide +kernel
theorem dX3_putMachine_13 : decode cX3_putMachine 13 = .ok (.iconst 0, 1) := by decide +kernel
theorem dX3_putMachine_14 : decode cX3_putMachine 14 = .ok (.ireturn, 1) := by decide +kernel
theorem dX3_putMachine_15 : decode cX3_putMachine 15 = .ok (.lconst 1, 1) := by decide +kernel
theorem dX3_putMachine_16 : decode cX3_putMachine 16 = .ok (.iload_n 2, 1) := by decide +kernel
theorem dX3_putMachine_17 : decode cX3_putMachine 17 = .ok (.lshl, 1) := by decide +kernel
theorem dX3_putMachine_18 : decode cX3_putMachine 18 = .ok (.lstore 4, 2) := by decide +kernel
theorem dX3_putMachine_20 : decode cX3_putMachine 20 = .ok (.aload_n 0, 1) := by decide +kernel
theorem dX3_putMachine_21 : decode cX3_putMachine 21 = .ok (.getfield 9, 3) := by decide +kernel
theorem dX3_putMachine_24 : decode cX3_putMachine 24 = .ok (.iload_n 1, 1) := by decide +kernel
theorem dX3_putMachine_25 : decode cX3_putMachine 25 = .ok (.laload, 1) := by decide +kernel
theorem dX3_putMachine_26 : decode cX3_putMachine 26 = .ok (.lload 4, 2) := by decide +kernel
theorem dX3_putMachine_28 : decode cX3_putMachine 28 = .ok (.land, 1) := by decide +kernel
theorem dX3_putMachine_29 : decode cX3_putMachine 29 = .ok (.lconst 0, 1) := by decide +kernel
theorem dX3_putMachine_30 : decode cX3_putMachine 30 = .ok (.lcmp, 1) := by decide +kernel
theorem dX3_putMachine_31 : decode cX3_putMachine 31 = .ok (.ifCond .eq 7, 3) := by decide +kernel
theorem dX3_putMachine_34 : decode cX3_putMachine 34 = .ok (.iconst 1, 1) := by decide +kernel
theorem dX3_putMachine_35 : decode cX3_putMachine 35 = .ok (.goto 4, 3) := by decide +kernel
theorem dX3_putMachine_38 : decode cX3_putMachine 38 = .ok (.iconst 0, 1) := by decide +kernel
theorem dX3_putMachine_39 : decode cX3_putMachine 39 = .ok (.istore 6, 2) := by decide +kernel
theorem dX3_putMachine_41 : decode cX3_putMachine 41 = .ok (.aload_n 0, 1) := by decide +kernel
theorem dX3_putMachine_42 : decode cX3_putMachine 42 = .ok (.getfield 9, 3) := by decide +kernel
theorem dX3_putMachine_45 : decode cX3_putMachine 45 = .ok (.iload_n 1, 1) := by decide +kernel
theorem dX3_putMachine_46 : decode cX3_putMachine 46 = .ok (.iload_n 3, 1) := by decide +kernel
theorem dX3_putMachine_47 : decode cX3_putMachine 47 = .ok (.ifCond .eq 15, 3) := by decide +kernel
theorem dX3_putMachine_50 : decode cX3_putMachine 50 = .ok (.aload_n 0, 1) := by decide +kernel
theorem dX3_putMachine_51 : decode cX3_putMachine 51 = .ok (.getfield 9, 3) := by decide +kernel
theorem dX3_putMachine_54 : decode cX3_putMachine 54 = .ok (.iload_n 1, 1) := by decide +kernel
theorem dX3_putMachine_55 : decode cX3_putMachine 55 = .ok (.laload, 1) := by decide +kernel
theorem dX3_putMachine_56 : decode cX3_putMachine 56 = .ok (.lload 4, 2) := by decide +kernel
theorem dX3_putMachine_58 : decode cX3_putMachine 58 = .ok (.lor, 1) := by decide +kernel
theorem dX3_putMachine_59 : decode cX3_putMachine 59 = .ok (.goto 16, 3) := by decide +kernel
theorem dX3_putMachine_62 : decode cX3_putMachine 62 = .ok (.aload_n 0, 1) := by decide +kernel
theorem dX3_putMachine_63 : decode cX3_putMachine 63 = .ok (.getfield 9, 3) := by decide +kernel
theorem dX3_putMachine_66 : decode cX3_putMachine 66 = .ok (.iload_n 1, 1) := by decide +kernel
theorem dX3_putMachine_67 : decode cX3_putMachine 67 = .ok (.laload, 1) := by decide +kernel
theorem dX3_putMachine_68 : decode cX3_putMachine 68 = .ok (.lload 4, 2) := by decide +kernel
theorem dX3_putMachine_70 : decode cX3_putMachine 70 = .ok (.ldc2_w 23, 3) := by decide +kernel
theorem dX3_putMachine_73 : decode cX3_putMachine 73 = .ok (.lxor, 1) := by decide +kernel
theorem dX3_putMachine_74 : decode cX3_putMachine 74 = .ok (.land, 1) := by decide +kernel
theorem dX3_putMachine_75 : decode cX3_putMachine 75 = .ok (.lastore, 1) := by decide +kernel
theorem dX3_putMachine_76 : decode cX3_putMachine 76 = .ok (.iload 6, 2) := by decide +kernel
theorem dX3_putMachine_78 : decode cX3_putMachine 78 = .ok (.ireturn, 1) := by decide +kernel
def f_X3_putMachine_13 : Mo Int32 := rz .boolean (0 : Int32)
set_option maxRecDepth 100000 in
set_option maxHeartbeats 4000000 in
theorem s_X3_putMachine_13 {X : Cg} (cx : Cx X cX3_putMachine RX3 7) (hfr : 0 ≤ (xR X).frames) (hlo : 0 ≤ (xR X).locals) (hr : (xM X).sig.returnType = (some .boolean)) : Sim X 7 (FiM X vI) 13 [] [] (f_X3_putMachine_13) := by
  unfold f_X3_putMachine_13
  refine sm_iconst (v := 0) cx dX3_putMachine_13 (by decide) ?_
  exact sm_zret cx hr dX3_putMachine_14
def f_X3_putMachine_75 (x6 : Int32) (sr0 : Option Nat) (sx1 : Int32) (sl2 : Int64) : Mo Int32 := mb (sL sr0 sx1 sl2) (fun _ => rz .boolean x6)
set_option maxRecDepth 100000 in
set_option maxHeartbeats 4000000 in
theorem s_X3_putMachine_75 {X : Cg} (cx : Cx X cX3_putMachine RX3 7) (hfr : 0 ≤ (xR X).frames) (hlo : 0 ≤ (xR X).locals) (hr : (xM X).sig.returnType = (some .boolean)) (x6 : Int32) (sr0 : Option Nat) (sx1 : Int32) (sl2 : Int64) : Sim X 7 (FiM X vI) 75 [(6, .int x6)] [.long sl2, .int sx1, va_rf sr0] (f_X3_putMachine_75 x6 sr0 sx1 sl2) := by
  unfold f_X3_putMachine_75
  refine sm_last cx dX3_putMachine_75 ?_
  refine sm_iload cx 0 dX3_putMachine_76 rfl ?_
  exact sm_zret cx hr dX3_putMachine_78
def f_X3_putMachine_39 (r0 : Option Nat) (x1 : Int32) (x3 : Int32) (l4 : Int64) (sx0 : Int32) : Mo Int32 := mb (gR 6 0 r0) (fun v42 => (if x3 = 0 then mb (gR 6 0 r0) (fun v63 => mb (aL v63 x1) (fun v67 => f_X3_putMachine_75 sx0 v42 x1 (v67 &&& (l4 ^^^ (-1 : Int64))))) else mb (gR 6 0 r0) (fun v51 => mb (aL v51 x1) (fun v55 => f_X3_putMachine_75 sx0 v42 x1 (v55 ||| l4)))))
set_option maxRecDepth 100000 in
set_option maxHeartbeats 4000000 in
theorem s_X3_putMachine_39 {X : Cg} (cx : Cx X cX3_putMachine RX3 7) (hfr : 0 ≤ (xR X).frames) (hlo : 0 ≤ (xR X).locals) (hr : (xM X).sig.returnType = (some .boolean)) (r0 : Option Nat) (x1 : Int32) (x3 : Int32) (l4 : Int64) (sx0 : Int32) : Sim X 7 (FiM X vI) 39 [(0, va_rf r0), (1, .int x1), (3, .int x3), (4, .long l4)] [.int sx0] (f_X3_putMachine_39 r0 x1 x3 l4 sx0) := by
  unfold f_X3_putMachine_39
  refine sm_istore cx [(6, .int sx0), (0, va_rf r0), (1, .int x1), (3, .int x3), (4, .long l4)] dX3_putMachine_39 (by decide) rfl nc0 rfl ?_
  refine sm_aload_n cx 1 dX3_putMachine_41 rfl rfl ?_
  refine sm_getR cx fl_X3_9 dX3_putMachine_42 (fun v42 => ?_)
  refine sm_iload_n cx 2 dX3_putMachine_45 rfl rfl ?_
  refine sm_iload_n cx 3 dX3_putMachine_46 rfl rfl ?_
  refine sm_if_eq (tgt := 62) cx dX3_putMachine_47 (by decide) ?_ ?_
  · refine sm_aload_n cx 1 dX3_putMachine_62 rfl rfl ?_
    refine sm_getR cx fl_X3_9 dX3_putMachine_63 (fun v63 => ?_)
    refine sm_iload_n cx 2 dX3_putMachine_66 rfl rfl ?_
    refine sm_lald cx dX3_putMachine_67 (fun v67 => ?_)
    refine sm_lload cx 4 dX3_putMachine_68 rfl ?_
    refine sm_ldc2 (v := -1) cx dX3_putMachine_70 wd_4_6 ?_
    refine sm_lxor cx dX3_putMachine_73 ?_
    refine sm_land cx dX3_putMachine_74 ?_
    exact sm_lv [0] rfl (s_X3_putMachine_75 cx hfr hlo hr sx0 v42 x1 (v67 &&& (l4 ^^^ (-1 : Int64))))
  · refine sm_aload_n cx 1 dX3_putMachine_50 rfl rfl ?_
    refine sm_getR cx fl_X3_9 dX3_putMachine_51 (fun v51 => ?_)
    refine sm_iload_n cx 2 dX3_putMachine_54 rfl rfl ?_
    refine sm_lald cx dX3_putMachine_55 (fun v55 => ?_)
    refine sm_lload cx 4 dX3_putMachine_56 rfl ?_
    refine sm_lor cx dX3_putMachine_58 ?_
    refine sm_goto (tgt := 75) cx dX3_putMachine_59 (by decide) ?_
    exact sm_lv [0] rfl (s_X3_putMachine_75 cx hfr hlo hr sx0 v42 x1 (v55 ||| l4))
def f_X3_putMachine (r0 : Option Nat) (x1 : Int32) (x2 : Int32) (x3 : Int32) : Mo Int32 := (if x1 < 0 then f_X3_putMachine_13 else mb (gR 6 0 r0) (fun v6 => mb (aN 2 v6) (fun v9 => (if x1 < v9 then mb (gR 6 0 r0) (fun v21 => mb (aL v21 x1) (fun v25 => (if (lg_cmp (v25 &&& (jLL (1 : Int64) x2)) (0 : Int64)) = 0 then f_X3_putMachine_39 r0 x1 x3 (jLL (1 : Int64) x2) (0 : Int32) else f_X3_putMachine_39 r0 x1 x3 (jLL (1 : Int64) x2) (1 : Int32)))) else f_X3_putMachine_13))))
set_option maxRecDepth 100000 in
set_option maxHeartbeats 4000000 in
theorem s_X3_putMachine {X : Cg} (cx : Cx X cX3_putMachine RX3 7) (hfr : 0 ≤ (xR X).frames) (hlo : 0 ≤ (xR X).locals) (hr : (xM X).sig.returnType = (some .boolean)) (r0 : Option Nat) (x1 : Int32) (x2 : Int32) (x3 : Int32) : Sim X 7 (FiM X vI) 0 [(0, va_rf r0), (1, .int x1), (2, .int x2), (3, .int x3)] [] (f_X3_putMachine r0 x1 x2 x3) := by
  unfold f_X3_putMachine
  refine sm_iload_n cx 1 dX3_putMachine_0 rfl rfl ?_
  refine sm_if_lt (tgt := 13) cx dX3_putMachine_1 (by decide) ?_ ?_
  · exact sm_lv [] rfl (s_X3_putMachine_13 cx hfr hlo hr)
  · refine sm_iload_n cx 1 dX3_putMachine_4 rfl rfl ?_
    refine sm_aload_n cx 0 dX3_putMachine_5 rfl rfl ?_
    refine sm_getR cx fl_X3_9 dX3_putMachine_6 (fun v6 => ?_)
    refine sm_alen cx 2 (by decide) dX3_putMachine_9 (fun v9 => ?_)
    refine sm_icmp_lt (tgt := 15) cx dX3_putMachine_10 (by decide) ?_ ?_
    · refine sm_lconst (v := 1) cx dX3_putMachine_15 (by decide) ?_
      refine sm_iload_n cx 2 dX3_putMachine_16 rfl rfl ?_
      refine sm_lshl cx dX3_putMachine_17 ?_
      refine sm_lstore cx [(4, .long (jLL (1 : Int64) x2)), (0, va_rf r0), (1, .int x1), (2, .int x2), (3, .int x3)] dX3_putMachine_18 (by decide) rfl (nc1 rfl) rfl ?_
      refine sm_aload_n cx 1 dX3_putMachine_20 rfl rfl ?_
      refine sm_getR cx fl_X3_9 dX3_putMachine_21 (fun v21 => ?_)
      refine sm_iload_n cx 2 dX3_putMachine_24 rfl rfl ?_
      refine sm_lald cx dX3_putMachine_25 (fun v25 => ?_)
      refine sm_lload cx 0 dX3_putMachine_26 rfl ?_
      refine sm_land cx dX3_putMachine_28 ?_
      refine sm_lconst (v := 0) cx dX3_putMachine_29 (by decide) ?_
      refine sm_lcmp cx dX3_putMachine_30 ?_
      refine sm_if_eq (tgt := 38) cx dX3_putMachine_31 (by decide) ?_ ?_
      · refine sm_iconst (v := 0) cx dX3_putMachine_38 (by decide) ?_
        exact sm_lv [1, 2, 4, 0] rfl (s_X3_putMachine_39 cx hfr hlo hr r0 x1 x3 (jLL (1 : Int64) x2) (0 : Int32))
      · refine sm_iconst (v := 1) cx dX3_putMachine_34 (by decide) ?_
        refine sm_goto (tgt := 39) cx dX3_putMachine_35 (by decide) ?_
        exact sm_lv [1, 2, 4, 0] rfl (s_X3_putMachine_39 cx hfr hlo hr r0 x1 x3 (jLL (1 : Int64) x2) (1 : Int32))
    · exact sm_lv [] rfl (s_X3_putMachine_13 cx hfr hlo hr)
set_option maxRecDepth 100000 in
set_option maxHeartbeats 4000000 in
theorem ct_X3_putMachine (Z : Nat → Nat) {r0 : Option Nat} (a0 : Nat) (h0 : r0 = some a0) (x1 : Int32) (x2 : Int32) (x3 : Int32) : Ct yX3_putMachine cX3_putMachine 7 (some .boolean) 0 0 Z [.ref a0, .int x1, .int x2, .int x3] vI (f_X3_putMachine r0 x1 x2 x3) := by
  subst h0
  refine ct_of (lv0 := [(0, va_rf (some a0)), (1, .int x1), (2, .int x2), (3, .int x3)]) (by decide +kernel) (by simp [lg_sl, ct_i, ct_l, ct_r, rf_cat]) (by show _ = ([(0, Value.ref a0), (1, .int x1), (2, .int x2), (3, .int x3)] : List (Nat × Value)); simp [lv_args, ct_i, ct_l, ct_r, rf_cat]) (fun X cx hZ hfr hlo hr hin => ?_)
  subst hZ
  exact s_X3_putMachine cx (Nat.le_of_eq hfr.symm) (Nat.le_of_eq hlo.symm) hr (some a0) x1 x2 x3
/-! PolicyTree$Groups.putGroup(IIZ)Z -/
theorem dX3_putGroup_0 : decode cX3_putGroup 0 = .ok (.iload_n 1, 1) := by decide +kernel
theorem dX3_putGroup_1 : decode cX3_putGroup 1 = .ok (.ifCond .lt 12, 3) := by decide +kernel
theorem dX3_putGroup_4 : decode cX3_putGroup 4 = .ok (.iload_n 1, 1) := by decide +kernel
theorem dX3_putGroup_5 : decode cX3_putGroup 5 = .ok (.aload_n 0, 1) := by decide +kernel
theorem dX3_putGroup_6 : decode cX3_putGroup 6 = .ok (.getfield 15, 3) := by decide +kernel
theorem dX3_putGroup_9 : decode cX3_putGroup 9 = .ok (.arraylength, 1) := by decide +kernel
theorem dX3_putGroup_10 : decode cX3_putGroup 10 = .ok (.if_icmp .lt 5, 3) := by decide +kernel
theorem dX3_putGroup_13 : decode cX3_putGroup 13 = .ok (.iconst 0, 1) := by decide +kernel
theorem dX3_putGroup_14 : decode cX3_putGroup 14 = .ok (.ireturn, 1) := by decide +kernel
theorem dX3_putGroup_15 : decode cX3_putGroup 15 = .ok (.iconst 1, 1) := by decide +kernel
theorem dX3_putGroup_16 : decode cX3_putGroup 16 = .ok (.iload_n 2, 1) := by decide +kernel
theorem dX3_putGroup_17 : decode cX3_putGroup 17 = .ok (.ishl, 1) := by decide +kernel
theorem dX3_putGroup_18 : decode cX3_putGroup 18 = .ok (.istore 4, 2) := by decide +kernel
theorem dX3_putGroup_20 : decode cX3_putGroup 20 = .ok (.aload_n 0, 1) := by decide +kernel
theorem dX3_putGroup_21 : decode cX3_putGroup 21 = .ok (.getfield 15, 3) := by decide +kernel
theorem dX3_putGroup_24 : decode cX3_putGroup 24 = .ok (.iload_n 1, 1) := by decide +kernel
theorem dX3_putGroup_25 : decode cX3_putGroup 25 = .ok (.iaload, 1) := by decide +kernel
theorem dX3_putGroup_26 : decode cX3_putGroup 26 = .ok (.iload 4, 2) := by decide +kernel
theorem dX3_putGroup_28 : decode cX3_putGroup 28 = .ok (.iand, 1) := by decide +kernel
theorem dX3_putGroup_29 : decode cX3_putGroup 29 = .ok (.ifCond .eq 7, 3) := by decide +kernel
theorem dX3_putGroup_32 : decode cX3_putGroup 32 = .ok (.iconst 1, 1) := by decide +kernel
theorem dX3_putGroup_33 : decode cX3_putGroup 33 = .ok (.goto 4, 3) := by decide +kernel
theorem dX3_putGroup_36 : decode cX3_putGroup 36 = .ok (.iconst 0, 1) := by decide +kernel
theorem dX3_putGroup_37 : decode cX3_putGroup 37 = .ok (.istore 5, 2) := by decide +kernel
theorem dX3_putGroup_39 : decode cX3_putGroup 39 = .ok (.aload_n 0, 1) := by decide +kernel
theorem dX3_putGroup_40 : decode cX3_putGroup 40 = .ok (.getfield 15, 3) := by decide +kernel
theorem dX3_putGroup_43 : decode cX3_putGroup 43 = .ok (.iload_n 1, 1) := by decide +kernel
theorem dX3_putGroup_44 : decode cX3_putGroup 44 = .ok (.iload_n 3, 1) := by decide +kernel
theorem dX3_putGroup_45 : decode cX3_putGroup 45 = .ok (.ifCond .eq 15, 3) := by decide +kernel
theorem dX3_putGroup_48 : decode cX3_putGroup 48 = .ok (.aload_n 0, 1) := by decide +kernel
theorem dX3_putGroup_49 : decode cX3_putGroup 49 = .ok (.getfield 15, 3) := by decide +kernel
theorem dX3_putGroup_52 : decode cX3_putGroup 52 = .ok (.iload_n 1, 1) := by decide +kernel
theorem dX3_putGroup_53 : decode cX3_putGroup 53 = .ok (.iaload, 1) := by decide +kernel
theorem dX3_putGroup_54 : decode cX3_putGroup 54 = .ok (.iload 4, 2) := by decide +kernel
theorem dX3_putGroup_56 : decode cX3_putGroup 56 = .ok (.ior, 1) := by decide +kernel
theorem dX3_putGroup_57 : decode cX3_putGroup 57 = .ok (.goto 14, 3) := by decide +kernel
theorem dX3_putGroup_60 : decode cX3_putGroup 60 = .ok (.aload_n 0, 1) := by decide +kernel
theorem dX3_putGroup_61 : decode cX3_putGroup 61 = .ok (.getfield 15, 3) := by decide +kernel
theorem dX3_putGroup_64 : decode cX3_putGroup 64 = .ok (.iload_n 1, 1) := by decide +kernel
theorem dX3_putGroup_65 : decode cX3_putGroup 65 = .ok (.iaload, 1) := by decide +kernel
theorem dX3_putGroup_66 : decode cX3_putGroup 66 = .ok (.iload 4, 2) := by decide +kernel
theorem dX3_putGroup_68 : decode cX3_putGroup 68 = .ok (.iconst (-1), 1) := by decide +kernel
theorem dX3_putGroup_69 : decode cX3_putGroup 69 = .ok (.ixor, 1) := by decide +kernel
theorem dX3_putGroup_70 : decode cX3_putGroup 70 = .ok (.iand, 1) := by decide +kernel
theorem dX3_putGroup_71 : decode cX3_putGroup 71 = .ok (.iastore, 1) := by decide +kernel
theorem dX3_putGroup_72 : decode cX3_putGroup 72 = .ok (.iload 5, 2) := by decide +kernel
theorem dX3_putGroup_74 : decode cX3_putGroup 74 = .ok (.ireturn, 1) := by decide +kernel
def f_X3_putGroup_13 : Mo Int32 := rz .boolean (0 : Int32)
set_option maxRecDepth 100000 in
set_option maxHeartbeats 4000000 in
theorem s_X3_putGroup_13 {X : Cg} (cx : Cx X cX3_putGroup RX3 6) (hfr : 0 ≤ (xR X).frames) (hlo : 0 ≤ (xR X).locals) (hr : (xM X).sig.returnType = (some .boolean)) : Sim X 6 (FiM X vI) 13 [] [] (f_X3_putGroup_13) := by
  unfold f_X3_putGroup_13
  refine sm_iconst (v := 0) cx dX3_putGroup_13 (by decide) ?_
  exact sm_zret cx hr dX3_putGroup_14
def f_X3_putGroup_71 (x5 : Int32) (sr0 : Option Nat) (sx1 : Int32) (sx2 : Int32) : Mo Int32 := mb (sI 1 sr0 sx1 sx2) (fun _ => rz .boolean x5)
set_option maxRecDepth 100000 in
set_option maxHeartbeats 4000000 in
theorem s_X3_putGroup_71 {X : Cg} (cx : Cx X cX3_putGroup RX3 6) (hfr : 0 ≤ (xR X).frames) (hlo : 0 ≤ (xR X).locals) (hr : (xM X).sig.returnType = (some .boolean)) (x5 : Int32) (sr0 : Option Nat) (sx1 : Int32) (sx2 : Int32) : Sim X 6 (FiM X vI) 71 [(5, .int x5)] [.int sx2, .int sx1, va_rf sr0] (f_X3_putGroup_71 x5 sr0 sx1 sx2) := by
  unfold f_X3_putGroup_71
  refine sm_iast cx dX3_putGroup_71 ?_
  refine sm_iload cx 0 dX3_putGroup_72 rfl ?_
  exact sm_zret cx hr dX3_putGroup_74
def f_X3_putGroup_37 (r0 : Option Nat) (x1 : Int32) (x3 : Int32) (x4 : Int32) (sx0 : Int32) : Mo Int32 := mb (gR 6 1 r0) (fun v40 => (if x3 = 0 then mb (gR 6 1 r0) (fun v61 => mb (aI 1 v61 x1) (fun v65 => f_X3_putGroup_71 sx0 v40 x1 (v65 &&& (x4 ^^^ (-1 : Int32))))) else mb (gR 6 1 r0) (fun v49 => mb (aI 1 v49 x1) (fun v53 => f_X3_putGroup_71 sx0 v40 x1 (v53 ||| x4)))))
set_option maxRecDepth 100000 in
set_option maxHeartbeats 4000000 in
theorem s_X3_putGroup_37 {X : Cg} (cx : Cx X cX3_putGroup RX3 6) (hfr : 0 ≤ (xR X).frames) (hlo : 0 ≤ (xR X).locals) (hr : (xM X).sig.returnType = (some .boolean)) (r0 : Option Nat) (x1 : Int32) (x3 : Int32) (x4 : Int32) (sx0 : Int32) : Sim X 6 (FiM X vI) 37 [(0, va_rf r0), (1, .int x1), (3, .int x3), (4, .int x4)] [.int sx0] (f_X3_putGroup_37 r0 x1 x3 x4 sx0) := by
  unfold f_X3_putGroup_37
  refine sm_istore cx [(5, .int sx0), (0, va_rf r0), (1, .int x1), (3, .int x3), (4, .int x4)] dX3_putGroup_37 (by decide) rfl (nc1 rfl) rfl ?_
  refine sm_aload_n cx 1 dX3_putGroup_39 rfl rfl ?_
  refine sm_getR cx fl_X3_15 dX3_putGroup_40 (fun v40 => ?_)
  refine sm_iload_n cx 2 dX3_putGroup_43 rfl rfl ?_
  refine sm_iload_n cx 3 dX3_putGroup_44 rfl rfl ?_
  refine sm_if_eq (tgt := 60) cx dX3_putGroup_45 (by decide) ?_ ?_
  · refine sm_aload_n cx 1 dX3_putGroup_60 rfl rfl ?_
    refine sm_getR cx fl_X3_15 dX3_putGroup_61 (fun v61 => ?_)
    refine sm_iload_n cx 2 dX3_putGroup_64 rfl rfl ?_
    refine sm_iald cx dX3_putGroup_65 (fun v65 => ?_)
    refine sm_iload cx 4 dX3_putGroup_66 rfl ?_
    refine sm_iconst (v := -1) cx dX3_putGroup_68 (by decide) ?_
    refine sm_ixor cx dX3_putGroup_69 ?_
    refine sm_iand cx dX3_putGroup_70 ?_
    exact sm_lv [0] rfl (s_X3_putGroup_71 cx hfr hlo hr sx0 v40 x1 (v65 &&& (x4 ^^^ (-1 : Int32))))
  · refine sm_aload_n cx 1 dX3_putGroup_48 rfl rfl ?_
    refine sm_getR cx fl_X3_15 dX3_putGroup_49 (fun v49 => ?_)
    refine sm_iload_n cx 2 dX3_putGroup_52 rfl rfl ?_
    refine sm_iald cx dX3_putGroup_53 (fun v53 => ?_)
    refine sm_iload cx 4 dX3_putGroup_54 rfl ?_
    refine sm_ior cx dX3_putGroup_56 ?_
    refine sm_goto (tgt := 71) cx dX3_putGroup_57 (by decide) ?_
    exact sm_lv [0] rfl (s_X3_putGroup_71 cx hfr hlo hr sx0 v40 x1 (v53 ||| x4))
def f_X3_putGroup (r0 : Option Nat) (x1 : Int32) (x2 : Int32) (x3 : Int32) : Mo Int32 := (if x1 < 0 then f_X3_putGroup_13 else mb (gR 6 1 r0) (fun v6 => mb (aN 1 v6) (fun v9 => (if x1 < v9 then mb (gR 6 1 r0) (fun v21 => mb (aI 1 v21 x1) (fun v25 => (if (v25 &&& ((1 : Int32) <<< (x2 &&& 31))) = 0 then f_X3_putGroup_37 r0 x1 x3 ((1 : Int32) <<< (x2 &&& 31)) (0 : Int32) else f_X3_putGroup_37 r0 x1 x3 ((1 : Int32) <<< (x2 &&& 31)) (1 : Int32)))) else f_X3_putGroup_13))))
set_option maxRecDepth 100000 in
set_option maxHeartbeats 4000000 in
theorem s_X3_putGroup {X : Cg} (cx : Cx X cX3_putGroup RX3 6) (hfr : 0 ≤ (xR X).frames) (hlo : 0 ≤ (xR X).locals) (hr : (xM X).sig.returnType = (some .boolean)) (r0 : Option Nat) (x1 : Int32) (x2 : Int32) (x3 : Int32) : Sim X 6 (FiM X vI) 0 [(0, va_rf r0), (1, .int x1), (2, .int x2), (3, .int x3)] [] (f_X3_putGroup r0 x1 x2 x3) := by
  unfold f_X3_putGroup
  refine sm_iload_n cx 1 dX3_putGroup_0 rfl rfl ?_
  refine sm_if_lt (tgt := 13) cx dX3_putGroup_1 (by decide) ?_ ?_
  · exact sm_lv [] rfl (s_X3_putGroup_13 cx hfr hlo hr)
  · refine sm_iload_n cx 1 dX3_putGroup_4 rfl rfl ?_
    refine sm_aload_n cx 0 dX3_putGroup_5 rfl rfl ?_
    refine sm_getR cx fl_X3_15 dX3_putGroup_6 (fun v6 => ?_)
    refine sm_alen cx 1 (by decide) dX3_putGroup_9 (fun v9 => ?_)
    refine sm_icmp_lt (tgt := 15) cx dX3_putGroup_10 (by decide) ?_ ?_
    · refine sm_iconst (v := 1) cx dX3_putGroup_15 (by decide) ?_
      refine sm_iload_n cx 2 dX3_putGroup_16 rfl rfl ?_
      refine sm_ishl cx dX3_putGroup_17 ?_
      refine sm_istore cx [(4, .int ((1 : Int32) <<< (x2 &&& 31))), (0, va_rf r0), (1, .int x1), (2, .int x2), (3, .int x3)] dX3_putGroup_18 (by decide) rfl (nc1 rfl) rfl ?_
      refine sm_aload_n cx 1 dX3_putGroup_20 rfl rfl ?_
      refine sm_getR cx fl_X3_15 dX3_putGroup_21 (fun v21 => ?_)
      refine sm_iload_n cx 2 dX3_putGroup_24 rfl rfl ?_
      refine sm_iald cx dX3_putGroup_25 (fun v25 => ?_)
      refine sm_iload cx 0 dX3_putGroup_26 rfl ?_
      refine sm_iand cx dX3_putGroup_28 ?_
      refine sm_if_eq (tgt := 36) cx dX3_putGroup_29 (by decide) ?_ ?_
      · refine sm_iconst (v := 0) cx dX3_putGroup_36 (by decide) ?_
        exact sm_lv [1, 2, 4, 0] rfl (s_X3_putGroup_37 cx hfr hlo hr r0 x1 x3 ((1 : Int32) <<< (x2 &&& 31)) (0 : Int32))
      · refine sm_iconst (v := 1) cx dX3_putGroup_32 (by decide) ?_
        refine sm_goto (tgt := 37) cx dX3_putGroup_33 (by decide) ?_
        exact sm_lv [1, 2, 4, 0] rfl (s_X3_putGroup_37 cx hfr hlo hr r0 x1 x3 ((1 : Int32) <<< (x2 &&& 31)) (1 : Int32))
    · exact sm_lv [] rfl (s_X3_putGroup_13 cx hfr hlo hr)
set_option maxRecDepth 100000 in
set_option maxHeartbeats 4000000 in
theorem ct_X3_putGroup (Z : Nat → Nat) {r0 : Option Nat} (a0 : Nat) (h0 : r0 = some a0) (x1 : Int32) (x2 : Int32) (x3 : Int32) : Ct yX3_putGroup cX3_putGroup 6 (some .boolean) 0 0 Z [.ref a0, .int x1, .int x2, .int x3] vI (f_X3_putGroup r0 x1 x2 x3) := by
  subst h0
  refine ct_of (lv0 := [(0, va_rf (some a0)), (1, .int x1), (2, .int x2), (3, .int x3)]) (by decide +kernel) (by simp [lg_sl, ct_i, ct_l, ct_r, rf_cat]) (by show _ = ([(0, Value.ref a0), (1, .int x1), (2, .int x2), (3, .int x3)] : List (Nat × Value)); simp [lv_args, ct_i, ct_l, ct_r, rf_cat]) (fun X cx hZ hfr hlo hr hin => ?_)
  subst hZ
  exact s_X3_putGroup cx (Nat.le_of_eq hfr.symm) (Nat.le_of_eq hlo.symm) hr (some a0) x1 x2 x3
/-! PolicyTree$Groups.groupsAround(I)I -/
theorem dX3_groupsAround_0 : decode cX3_groupsAround 0 = .ok (.iconst 0, 1) := by decide +kernel
theorem dX3_groupsAround_1 : decode cX3_groupsAround 1 = .ok (.istore_n 2, 1) := by decide +kernel
theorem dX3_groupsAround_2 : decode cX3_groupsAround 2 = .ok (.iconst 0, 1) := by decide +kernel
theorem dX3_groupsAround_3 : decode cX3_groupsAround 3 = .ok (.istore_n 3, 1) := by decide +kernel
theorem dX3_groupsAround_4 : decode cX3_groupsAround 4 = .ok (.iload_n 3, 1) := by decide +kernel
theorem dX3_groupsAround_5 : decode cX3_groupsAround 5 = .ok (.aload_n 0, 1) := by decide +kernel
theorem dX3_groupsAround_6 : decode cX3_groupsAround 6 = .ok (.getfield 15, 3) := by decide +kernel
theorem dX3_groupsAround_9 : decode cX3_groupsAround 9 = .ok (.arraylength, 1) := by decide +kernel
theorem dX3_groupsAround_10 : decode cX3_groupsAround 10 = .ok (.if_icmp .ge 26, 3) := by decide +kernel
theorem dX3_groupsAround_13 : decode cX3_groupsAround 13 = .ok (.aload_n 0, 1) := by decide +kernel
theorem dX3_groupsAround_14 : decode cX3_groupsAround 14 = .ok (.getfield 15, 3) := by decide +kernel
theorem dX3_groupsAround_17 : decode cX3_groupsAround 17 = .ok (.iload_n 3, 1) := by decide +kernel
theorem dX3_groupsAround_18 : decode cX3_groupsAround 18 = .ok (.iaload, 1) := by decide +kernel
theorem dX3_groupsAround_19 : decode cX3_groupsAround 19 = .ok (.iload_n 1, 1) := by decide +kernel
theorem dX3_groupsAround_20 : decode cX3_groupsAround 20 = .ok (.iand, 1) := by decide +kernel
theorem dX3_groupsAround_21 : decode cX3_groupsAround 21 = .ok (.ifCond .eq 9, 3) := by decide +kernel
theorem dX3_groupsAround_24 : decode cX3_groupsAround 24 = .ok (.iload_n 2, 1) := by decide +kernel
theorem dX3_groupsAround_25 : decode cX3_groupsAround 25 = .ok (.iconst 1, 1) := by decide +kernel
theorem dX3_groupsAround_26 : decode cX3_groupsAround 26 = .ok (.iload_n 3, 1) := by decide +kernel
theorem dX3_groupsAround_27 : decode cX3_groupsAround 27 = .ok (.ishl, 1) := by decide +kernel
theorem dX3_groupsAround_28 : decode cX3_groupsAround 28 = .ok (.ior, 1) := by decide +kernel
theorem dX3_groupsAround_29 : decode cX3_groupsAround 29 = .ok (.istore_n 2, 1) := by decide +kernel
theorem dX3_groupsAround_30 : decode cX3_groupsAround 30 = .ok (.iinc 3 1, 3) := by decide +kernel
theorem dX3_groupsAround_33 : decode cX3_groupsAround 33 = .ok (.goto (-29), 3) := by decide +kernel
theorem dX3_groupsAround_36 : decode cX3_groupsAround 36 = .ok (.iload_n 2, 1) := by decide +kernel
theorem dX3_groupsAround_37 : decode cX3_groupsAround 37 = .ok (.ireturn, 1) := by decide +kernel
def f_X3_groupsAround_30 (k4 : Int32 → Int32 → Mo Int32) (r0 : Option Nat) (x1 : Int32) (x2 : Int32) (x3 : Int32) : Mo Int32 := k4 x2 (x3 + 1)
set_option maxRecDepth 100000 in
set_option maxHeartbeats 4000000 in
theorem s_X3_groupsAround_30 {X : Cg} (cx : Cx X cX3_groupsAround RX3 4) (hfr : 0 ≤ (xR X).frames) (hlo : 0 ≤ (xR X).locals) (hr : (xM X).sig.returnType = (some .int)) (r0 : Option Nat) (x1 : Int32) (x2 : Int32) (x3 : Int32) {k4 : Int32 → Int32 → Mo Int32} (hk4 : ∀ (x2 : Int32) (x3 : Int32), Sim X 4 (FiM X vI) 4 [(0, va_rf r0), (1, .int x1), (2, .int x2), (3, .int x3)] [] (k4 x2 x3)) : Sim X 4 (FiM X vI) 30 [(0, va_rf r0), (1, .int x1), (2, .int x2), (3, .int x3)] [] (f_X3_groupsAround_30 k4 r0 x1 x2 x3) := by
  unfold f_X3_groupsAround_30
  refine sm_iinc cx 3 [(3, .int (x3 + 1)), (0, va_rf r0), (1, .int x1), (2, .int x2)] dX3_groupsAround_30 rfl rfl (by decide) rfl (nc1 rfl) rfl ?_
  refine sm_goto (tgt := 4) cx dX3_groupsAround_33 (by decide) ?_
  exact sm_lv [1, 2, 3, 0] rfl (hk4 x2 (x3 + 1))
def f_X3_groupsAround_4 (r0 : Option Nat) (x1 : Int32) : Nat → Int32 → Int32 → Mo Int32
  | 0, _, _ => mf
  | n + 1, x2, x3 => mb (gR 6 1 r0) (fun v6 => mb (aN 1 v6) (fun v9 => (if v9 ≤ x3 then mp x2 else mb (gR 6 1 r0) (fun v14 => mb (aI 1 v14 x3) (fun v18 => (if (v18 &&& x1) = 0 then f_X3_groupsAround_30 (f_X3_groupsAround_4 r0 x1 n) r0 x1 x2 x3 else f_X3_groupsAround_30 (f_X3_groupsAround_4 r0 x1 n) r0 x1 (x2 ||| ((1 : Int32) <<< (x3 &&& 31))) x3))))))
set_option maxRecDepth 100000 in
set_option maxHeartbeats 4000000 in
theorem s_X3_groupsAround_4 {X : Cg} (cx : Cx X cX3_groupsAround RX3 4) (hfr : 0 ≤ (xR X).frames) (hlo : 0 ≤ (xR X).locals) (hr : (xM X).sig.returnType = (some .int)) (r0 : Option Nat) (x1 : Int32) : ∀ (n : Nat) (x2 : Int32) (x3 : Int32), Sim X 4 (FiM X vI) 4 [(0, va_rf r0), (1, .int x1), (2, .int x2), (3, .int x3)] [] (f_X3_groupsAround_4 r0 x1 n x2 x3) := by
  intro n
  induction n with
  | zero =>
    intro _ _
    exact sm_mf
  | succ n ih =>
    intro x2 x3
    rw [f_X3_groupsAround_4]
    refine sm_iload_n cx 3 dX3_groupsAround_4 rfl rfl ?_
    refine sm_aload_n cx 0 dX3_groupsAround_5 rfl rfl ?_
    refine sm_getR cx fl_X3_15 dX3_groupsAround_6 (fun v6 => ?_)
    refine sm_alen cx 1 (by decide) dX3_groupsAround_9 (fun v9 => ?_)
    refine sm_icmp_ge (tgt := 36) cx dX3_groupsAround_10 (by decide) ?_ ?_
    · refine sm_iload_n cx 2 dX3_groupsAround_36 rfl rfl ?_
      exact sm_iret cx hr dX3_groupsAround_37
    · refine sm_aload_n cx 0 dX3_groupsAround_13 rfl rfl ?_
      refine sm_getR cx fl_X3_15 dX3_groupsAround_14 (fun v14 => ?_)
      refine sm_iload_n cx 3 dX3_groupsAround_17 rfl rfl ?_
      refine sm_iald cx dX3_groupsAround_18 (fun v18 => ?_)
      refine sm_iload_n cx 1 dX3_groupsAround_19 rfl rfl ?_
      refine sm_iand cx dX3_groupsAround_20 ?_
      refine sm_if_eq (tgt := 30) cx dX3_groupsAround_21 (by decide) ?_ ?_
      · exact sm_lv [0, 1, 2, 3] rfl (s_X3_groupsAround_30 cx hfr hlo hr r0 x1 x2 x3 ih)
      · refine sm_iload_n cx 2 dX3_groupsAround_24 rfl rfl ?_
        refine sm_iconst (v := 1) cx dX3_groupsAround_25 (by decide) ?_
        refine sm_iload_n cx 3 dX3_groupsAround_26 rfl rfl ?_
        refine sm_ishl cx dX3_groupsAround_27 ?_
        refine sm_ior cx dX3_groupsAround_28 ?_
        refine sm_istore_n cx [(2, .int (x2 ||| ((1 : Int32) <<< (x3 &&& 31)))), (0, va_rf r0), (1, .int x1), (3, .int x3)] dX3_groupsAround_29 rfl (by decide) rfl (nc1 rfl) rfl ?_
        exact sm_lv [1, 2, 0, 3] rfl (s_X3_groupsAround_30 cx hfr hlo hr r0 x1 (x2 ||| ((1 : Int32) <<< (x3 &&& 31))) x3 ih)
def f_X3_groupsAround (r0 : Option Nat) (x1 : Int32) : Mo Int32 := f_X3_groupsAround_4 r0 x1 fuL (0 : Int32) (0 : Int32)
set_option maxRecDepth 100000 in
set_option maxHeartbeats 4000000 in
theorem s_X3_groupsAround {X : Cg} (cx : Cx X cX3_groupsAround RX3 4) (hfr : 0 ≤ (xR X).frames) (hlo : 0 ≤ (xR X).locals) (hr : (xM X).sig.returnType = (some .int)) (r0 : Option Nat) (x1 : Int32) : Sim X 4 (FiM X vI) 0 [(0, va_rf r0), (1, .int x1)] [] (f_X3_groupsAround r0 x1) := by
  unfold f_X3_groupsAround
  refine sm_iconst (v := 0) cx dX3_groupsAround_0 (by decide) ?_
  refine sm_istore_n cx [(2, .int (0 : Int32)), (0, va_rf r0), (1, .int x1)] dX3_groupsAround_1 rfl (by decide) rfl (nc1 rfl) rfl ?_
  refine sm_iconst (v := 0) cx dX3_groupsAround_2 (by decide) ?_
  refine sm_istore_n cx [(3, .int (0 : Int32)), (2, .int (0 : Int32)), (0, va_rf r0), (1, .int x1)] dX3_groupsAround_3 rfl (by decide) rfl (nc1 rfl) rfl ?_
  exact sm_lv [2, 3, 1, 0] rfl (s_X3_groupsAround_4 cx hfr hlo hr r0 x1 fuL (0 : Int32) (0 : Int32))
set_option maxRecDepth 100000 in
set_option maxHeartbeats 4000000 in
theorem ct_X3_groupsAround (Z : Nat → Nat) {r0 : Option Nat} (a0 : Nat) (h0 : r0 = some a0) (x1 : Int32) : Ct yX3_groupsAround cX3_groupsAround 4 (some .int) 0 0 Z [.ref a0, .int x1] vI (f_X3_groupsAround r0 x1) := by
  subst h0
  refine ct_of (lv0 := [(0, va_rf (some a0)), (1, .int x1)]) (by decide +kernel) (by simp [lg_sl, ct_i, ct_l, ct_r, rf_cat]) (by show _ = ([(0, Value.ref a0), (1, .int x1)] : List (Nat × Value)); simp [lv_args, ct_i, ct_l, ct_r, rf_cat]) (fun X cx hZ hfr hlo hr hin => ?_)
  subst hZ
  exact s_X3_groupsAround cx (Nat.le_of_eq hfr.symm) (Nat.le_of_eq hlo.symm) hr (some a0) x1
/-! PolicyTree$Groups.groupsOf(I)I -/
theorem dX3_groupsOf_0 : decode cX3_groupsOf 0 = .ok (.iconst 0, 1) := by decide +kernel
theorem dX3_groupsOf_1 : decode cX3_groupsOf 1 = .ok (.istore_n 2, 1) := by decide +kernel
theorem dX3_groupsOf_2 : decode cX3_groupsOf 2 = .ok (.iconst 0, 1) := by decide +kernel
theorem dX3_groupsOf_3 : decode cX3_groupsOf 3 = .ok (.istore_n 3, 1) := by decide +kernel
theorem dX3_groupsOf_4 : decode cX3_groupsOf 4 = .ok (.iload_n 3, 1) := by decide +kernel
theorem dX3_groupsOf_5 : decode cX3_groupsOf 5 = .ok (.aload_n 0, 1) := by decide +kernel
theorem dX3_groupsOf_6 : decode cX3_groupsOf 6 = .ok (.getfield 9, 3) := by decide +kernel
theorem dX3_groupsOf_9 : decode cX3_groupsOf 9 = .ok (.arraylength, 1) := by decide +kernel
theorem dX3_groupsOf_10 : decode cX3_groupsOf 10 = .ok (.if_icmp .ge 25, 3) := by decide +kernel
theorem dX3_groupsOf_13 : decode cX3_groupsOf 13 = .ok (.iload_n 2, 1) := by decide +kernel
theorem dX3_groupsOf_14 : decode cX3_groupsOf 14 = .ok (.aload_n 0, 1) := by decide +kernel
theorem dX3_groupsOf_15 : decode cX3_groupsOf 15 = .ok (.getfield 9, 3) := by decide +kernel
theorem dX3_groupsOf_18 : decode cX3_groupsOf 18 = .ok (.iload_n 3, 1) := by decide +kernel
theorem dX3_groupsOf_19 : decode cX3_groupsOf 19 = .ok (.laload, 1) := by decide +kernel
theorem dX3_groupsOf_20 : decode cX3_groupsOf 20 = .ok (.iload_n 1, 1) := by decide +kernel
theorem dX3_groupsOf_21 : decode cX3_groupsOf 21 = .ok (.lushr, 1) := by decide +kernel
theorem dX3_groupsOf_22 : decode cX3_groupsOf 22 = .ok (.lconst 1, 1) := by decide +kernel
theorem dX3_groupsOf_23 : decode cX3_groupsOf 23 = .ok (.land, 1) := by decide +kernel
theorem dX3_groupsOf_24 : decode cX3_groupsOf 24 = .ok (.l2i, 1) := by decide +kernel
theorem dX3_groupsOf_25 : decode cX3_groupsOf 25 = .ok (.iload_n 3, 1) := by decide +kernel
theorem dX3_groupsOf_26 : decode cX3_groupsOf 26 = .ok (.ishl, 1) := by decide +kernel
theorem dX3_groupsOf_27 : decode cX3_groupsOf 27 = .ok (.ior, 1) := by decide +kernel
theorem dX3_groupsOf_28 : decode cX3_groupsOf 28 = .ok (.istore_n 2, 1) := by decide +kernel
theorem dX3_groupsOf_29 : decode cX3_groupsOf 29 = .ok (.iinc 3 1, 3) := by decide +kernel
theorem dX3_groupsOf_32 : decode cX3_groupsOf 32 = .ok (.goto (-28), 3) := by decide +kernel
theorem dX3_groupsOf_35 : decode cX3_groupsOf 35 = .ok (.iconst 0, 1) := by decide +kernel
theorem dX3_groupsOf_36 : decode cX3_groupsOf 36 = .ok (.istore_n 3, 1) := by decide +kernel
theorem dX3_groupsOf_37 : decode cX3_groupsOf 37 = .ok (.iload_n 3, 1) := by decide +kernel
theorem dX3_groupsOf_38 : decode cX3_groupsOf 38 = .ok (.aload_n 0, 1) := by decide +kernel
theorem dX3_groupsOf_39 : decode cX3_groupsOf 39 = .ok (.getfield 15, 3) := by decide +kernel
theorem dX3_groupsOf_42 : decode cX3_groupsOf 42 = .ok (.arraylength, 1) := by decide +kernel
theorem dX3_groupsOf_43 : decode cX3_groupsOf 43 = .ok (.if_icmp .ge 30, 3) := by decide +kernel
theorem dX3_groupsOf_46 : decode cX3_groupsOf 46 = .ok (.iload_n 2, 1) := by decide +kernel
theorem dX3_groupsOf_47 : decode cX3_groupsOf 47 = .ok (.aload_n 0, 1) := by decide +kernel
theorem dX3_groupsOf_48 : decode cX3_groupsOf 48 = .ok (.iload_n 2, 1) := by decide +kernel
theorem dX3_groupsOf_49 : decode cX3_groupsOf 49 = .ok (.invokevirtual 25, 3) := by decide +kernel
theorem dX3_groupsOf_52 : decode cX3_groupsOf 52 = .ok (.ior, 1) := by decide +kernel
theorem dX3_groupsOf_53 : decode cX3_groupsOf 53 = .ok (.istore 4, 2) := by decide +kernel
theorem dX3_groupsOf_55 : decode cX3_groupsOf 55 = .ok (.iload 4, 2) := by decide +kernel
theorem dX3_groupsOf_57 : decode cX3_groupsOf 57 = .ok (.iload_n 2, 1) := by decide +kernel
theorem dX3_groupsOf_58 : decode cX3_groupsOf 58 = .ok (.if_icmp .ne 6, 3) := by decide +kernel
theorem dX3_groupsOf_61 : decode cX3_groupsOf 61 = .ok (.goto 12, 3) := by decide +kernel
theorem dX3_groupsOf_64 : decode cX3_groupsOf 64 = .ok (.iload 4, 2) := by decide +kernel
theorem dX3_groupsOf_66 : decode cX3_groupsOf 66 = .ok (.istore_n 2, 1) := by decide +kernel
theorem dX3_groupsOf_67 : decode cX3_groupsOf 67 = .ok (.iinc 3 1, 3) := by decide +kernel
theorem dX3_groupsOf_70 : decode cX3_groupsOf 70 = .ok (.goto (-33), 3) := by decide +kernel
theorem dX3_groupsOf_73 : decode cX3_groupsOf 73 = .ok (.iload_n 2, 1) := by decide +kernel
theorem dX3_groupsOf_74 : decode cX3_groupsOf 74 = .ok (.ireturn, 1) := by decide +kernel
def f_X3_groupsOf_73 (x2 : Int32) : Mo Int32 := mp x2
set_option maxRecDepth 100000 in
set_option maxHeartbeats 4000000 in
theorem s_X3_groupsOf_73 {X : Cg} (cx : Cx X cX3_groupsOf RX3 5) (hfr : 1 ≤ (xR X).frames) (hlo : 23 ≤ (xR X).locals) (hr : (xM X).sig.returnType = (some .int)) (x2 : Int32) : Sim X 5 (FiM X vI) 73 [(2, .int x2)] [] (f_X3_groupsOf_73 x2) := by
  unfold f_X3_groupsOf_73
  refine sm_iload_n cx 0 dX3_groupsOf_73 rfl rfl ?_
  exact sm_iret cx hr dX3_groupsOf_74
def f_X3_groupsOf_37 (r0 : Option Nat) : Nat → Int32 → Int32 → Mo Int32
  | 0, _, _ => mf
  | n + 1, x2, x3 => mb (gR 6 1 r0) (fun v39 => mb (aN 1 v39) (fun v42 => (if v42 ≤ x3 then f_X3_groupsOf_73 x2 else mb (mo 6 r0 (f_X3_groupsAround r0 x2)) (fun v49 => (if (x2 ||| v49) = x2 then f_X3_groupsOf_73 x2 else (f_X3_groupsOf_37 r0 n) (x2 ||| v49) (x3 + 1))))))
set_option maxRecDepth 100000 in
set_option maxHeartbeats 4000000 in
theorem s_X3_groupsOf_37 {X : Cg} (cx : Cx X cX3_groupsOf RX3 5) (hfr : 1 ≤ (xR X).frames) (hlo : 23 ≤ (xR X).locals) (hr : (xM X).sig.returnType = (some .int)) (r0 : Option Nat) : ∀ (n : Nat) (x2 : Int32) (x3 : Int32), Sim X 5 (FiM X vI) 37 [(0, va_rf r0), (2, .int x2), (3, .int x3)] [] (f_X3_groupsOf_37 r0 n x2 x3) := by
  intro n
  induction n with
  | zero =>
    intro _ _
    exact sm_mf
  | succ n ih =>
    intro x2 x3
    rw [f_X3_groupsOf_37]
    refine sm_iload_n cx 2 dX3_groupsOf_37 rfl rfl ?_
    refine sm_aload_n cx 0 dX3_groupsOf_38 rfl rfl ?_
    refine sm_getR cx fl_X3_15 dX3_groupsOf_39 (fun v39 => ?_)
    refine sm_alen cx 1 (by decide) dX3_groupsOf_42 (fun v42 => ?_)
    refine sm_icmp_ge (tgt := 73) cx dX3_groupsOf_43 (by decide) ?_ ?_
    · exact sm_lv [1] rfl (s_X3_groupsOf_73 cx hfr hlo hr x2)
    · refine sm_iload_n cx 1 dX3_groupsOf_46 rfl rfl ?_
      refine sm_aload_n cx 0 dX3_groupsOf_47 rfl rfl ?_
      refine sm_iload_n cx 1 dX3_groupsOf_48 rfl rfl ?_
      refine sm_callV (T := TX3) (N := 3) (toV := vI) cx [.int x2] rfl cv_X3_25 (fun a h => ct_X3_groupsAround (xZ X) a h x2) (Nat.le_trans (by decide) hfr) (Nat.le_trans (by decide) hlo) rfl (cat_le _ (Nat.le_of_ble_eq_true rfl)) dX3_groupsOf_49 (fun v49 => ?_)
      refine sm_ior cx dX3_groupsOf_52 ?_
      refine sm_istore cx [(4, .int (x2 ||| v49)), (0, va_rf r0), (2, .int x2), (3, .int x3)] dX3_groupsOf_53 (by decide) rfl (nc1 rfl) rfl ?_
      refine sm_iload cx 0 dX3_groupsOf_55 rfl ?_
      refine sm_iload_n cx 2 dX3_groupsOf_57 rfl rfl ?_
      refine sm_icmp_ne (tgt := 64) cx dX3_groupsOf_58 (by decide) ?_ ?_
      · refine sm_iload cx 0 dX3_groupsOf_64 rfl ?_
        refine sm_istore_n cx [(2, .int (x2 ||| v49)), (4, .int (x2 ||| v49)), (0, va_rf r0), (3, .int x3)] dX3_groupsOf_66 rfl (by decide) rfl nc0 rfl ?_
        refine sm_iinc cx 3 [(3, .int (x3 + 1)), (2, .int (x2 ||| v49)), (4, .int (x2 ||| v49)), (0, va_rf r0)] dX3_groupsOf_67 rfl rfl (by decide) rfl (nc1 rfl) rfl ?_
        refine sm_goto (tgt := 37) cx dX3_groupsOf_70 (by decide) ?_
        exact sm_lv [3, 1, 0] rfl (ih (x2 ||| v49) (x3 + 1))
      · refine sm_goto (tgt := 73) cx dX3_groupsOf_61 (by decide) ?_
        exact sm_lv [2] rfl (s_X3_groupsOf_73 cx hfr hlo hr x2)
def f_X3_groupsOf_4 (r0 : Option Nat) (x1 : Int32) : Nat → Int32 → Int32 → Mo Int32
  | 0, _, _ => mf
  | n + 1, x2, x3 => mb (gR 6 0 r0) (fun v6 => mb (aN 2 v6) (fun v9 => (if v9 ≤ x3 then f_X3_groupsOf_37 r0 fuL x2 (0 : Int32) else mb (gR 6 0 r0) (fun v15 => mb (aL v15 x3) (fun v19 => (f_X3_groupsOf_4 r0 x1 n) (x2 ||| ((Int64.toInt32 ((jSL v19 x1) &&& (1 : Int64))) <<< (x3 &&& 31))) (x3 + 1))))))
set_option maxRecDepth 100000 in
set_option maxHeartbeats 4000000 in
theorem s_X3_groupsOf_4 {X : Cg} (cx : Cx X cX3_groupsOf RX3 5) (hfr : 1 ≤ (xR X).frames) (hlo : 23 ≤ (xR X).locals) (hr : (xM X).sig.returnType = (some .int)) (r0 : Option Nat) (x1 : Int32) : ∀ (n : Nat) (x2 : Int32) (x3 : Int32), Sim X 5 (FiM X vI) 4 [(0, va_rf r0), (1, .int x1), (2, .int x2), (3, .int x3)] [] (f_X3_groupsOf_4 r0 x1 n x2 x3) := by
  intro n
  induction n with
  | zero =>
    intro _ _
    exact sm_mf
  | succ n ih =>
    intro x2 x3
    rw [f_X3_groupsOf_4]
    refine sm_iload_n cx 3 dX3_groupsOf_4 rfl rfl ?_
    refine sm_aload_n cx 0 dX3_groupsOf_5 rfl rfl ?_
    refine sm_getR cx fl_X3_9 dX3_groupsOf_6 (fun v6 => ?_)
    refine sm_alen cx 2 (by decide) dX3_groupsOf_9 (fun v9 => ?_)
    refine sm_icmp_ge (tgt := 35) cx dX3_groupsOf_10 (by decide) ?_ ?_
    · refine sm_iconst (v := 0) cx dX3_groupsOf_35 (by decide) ?_
      refine sm_istore_n cx [(3, .int (0 : Int32)), (0, va_rf r0), (1, .int x1), (2, .int x2)] dX3_groupsOf_36 rfl (by decide) rfl (nc1 rfl) rfl ?_
      exact sm_lv [1, 3, 0] rfl (s_X3_groupsOf_37 cx hfr hlo hr r0 fuL x2 (0 : Int32))
    · refine sm_iload_n cx 2 dX3_groupsOf_13 rfl rfl ?_
      refine sm_aload_n cx 0 dX3_groupsOf_14 rfl rfl ?_
      refine sm_getR cx fl_X3_9 dX3_groupsOf_15 (fun v15 => ?_)
      refine sm_iload_n cx 3 dX3_groupsOf_18 rfl rfl ?_
      refine sm_lald cx dX3_groupsOf_19 (fun v19 => ?_)
      refine sm_iload_n cx 1 dX3_groupsOf_20 rfl rfl ?_
      refine sm_lushr cx dX3_groupsOf_21 ?_
      refine sm_lconst (v := 1) cx dX3_groupsOf_22 (by decide) ?_
      refine sm_land cx dX3_groupsOf_23 ?_
      refine sm_l2i cx dX3_groupsOf_24 ?_
      refine sm_iload_n cx 3 dX3_groupsOf_25 rfl rfl ?_
      refine sm_ishl cx dX3_groupsOf_26 ?_
      refine sm_ior cx dX3_groupsOf_27 ?_
      refine sm_istore_n cx [(2, .int (x2 ||| ((Int64.toInt32 ((jSL v19 x1) &&& (1 : Int64))) <<< (x3 &&& 31)))), (0, va_rf r0), (1, .int x1), (3, .int x3)] dX3_groupsOf_28 rfl (by decide) rfl (nc1 rfl) rfl ?_
      refine sm_iinc cx 3 [(3, .int (x3 + 1)), (2, .int (x2 ||| ((Int64.toInt32 ((jSL v19 x1) &&& (1 : Int64))) <<< (x3 &&& 31)))), (0, va_rf r0), (1, .int x1)] dX3_groupsOf_29 rfl rfl (by decide) rfl (nc1 rfl) rfl ?_
      refine sm_goto (tgt := 4) cx dX3_groupsOf_32 (by decide) ?_
      exact sm_lv [2, 3, 1, 0] rfl (ih (x2 ||| ((Int64.toInt32 ((jSL v19 x1) &&& (1 : Int64))) <<< (x3 &&& 31))) (x3 + 1))
def f_X3_groupsOf (r0 : Option Nat) (x1 : Int32) : Mo Int32 := f_X3_groupsOf_4 r0 x1 fuL (0 : Int32) (0 : Int32)
set_option maxRecDepth 100000 in
set_option maxHeartbeats 4000000 in
theorem s_X3_groupsOf {X : Cg} (cx : Cx X cX3_groupsOf RX3 5) (hfr : 1 ≤ (xR X).frames) (hlo : 23 ≤ (xR X).locals) (hr : (xM X).sig.returnType = (some .int)) (r0 : Option Nat) (x1 : Int32) : Sim X 5 (FiM X vI) 0 [(0, va_rf r0), (1, .int x1)] [] (f_X3_groupsOf r0 x1) := by
  unfold f_X3_groupsOf
  refine sm_iconst (v := 0) cx dX3_groupsOf_0 (by decide) ?_
  refine sm_istore_n cx [(2, .int (0 : Int32)), (0, va_rf r0), (1, .int x1)] dX3_groupsOf_1 rfl (by decide) rfl (nc1 rfl) rfl ?_
  refine sm_iconst (v := 0) cx dX3_groupsOf_2 (by decide) ?_
  refine sm_istore_n cx [(3, .int (0 : Int32)), (2, .int (0 : Int32)), (0, va_rf r0), (1, .int x1)] dX3_groupsOf_3 rfl (by decide) rfl (nc1 rfl) rfl ?_
  exact sm_lv [2, 3, 1, 0] rfl (s_X3_groupsOf_4 cx hfr hlo hr r0 x1 fuL (0 : Int32) (0 : Int32))
set_option maxRecDepth 100000 in
set_option maxHeartbeats 4000000 in
theorem ct_X3_groupsOf (Z : Nat → Nat) {r0 : Option Nat} (a0 : Nat) (h0 : r0 = some a0) (x1 : Int32) : Ct yX3_groupsOf cX3_groupsOf 5 (some .int) 1 23 Z [.ref a0, .int x1] vI (f_X3_groupsOf r0 x1) := by
  subst h0
  refine ct_of (lv0 := [(0, va_rf (some a0)), (1, .int x1)]) (by decide +kernel) (by simp [lg_sl, ct_i, ct_l, ct_r, rf_cat]) (by show _ = ([(0, Value.ref a0), (1, .int x1)] : List (Nat × Value)); simp [lv_args, ct_i, ct_l, ct_r, rf_cat]) (fun X cx hZ hfr hlo hr hin => ?_)
  subst hZ
  exact s_X3_groupsOf cx (Nat.le_of_eq hfr.symm) (Nat.le_of_eq hlo.symm) hr (some a0) x1
/-! PolicyTree$Machine.<init>(LPolicyTree$Node;)V -/
theorem dX5_init_0 : decode cX5_init 0 = .ok (.aload_n 0, 1) := by decide +kernel
theorem dX5_init_1 : decode cX5_init 1 = .ok (.invokespecial 1, 3) := by decide +kernel
theorem dX5_init_4 : decode cX5_init 4 = .ok (.aload_n 0, 1) := by decide +kernel
theorem dX5_init_5 : decode cX5_init 5 = .ok (.aload_n 1, 1) := by decide +kernel
theorem dX5_init_6 : decode cX5_init 6 = .ok (.putfield 7, 3) := by decide +kernel
theorem dX5_init_9 : decode cX5_init 9 = .ok (.return_, 1) := by decide +kernel
def f_X5_init (r0 : Option Nat) (r1 : Option Nat) : Mo Unit := mb (mo 8 r0 (mp ())) (fun _ => mb (pV 8 0 r0 (va_rf r1)) (fun _ => mp ()))
set_option maxRecDepth 100000 in
set_option maxHeartbeats 4000000 in
theorem s_X5_init {X : Cg} (cx : Cx X cX5_init RX5 2) (hfr : 1 ≤ (xR X).frames) (hlo : 12 ≤ (xR X).locals) (hr : (xM X).sig.returnType = none) (hin : (xM X).name = "<init>") (r0 : Option Nat) (r1 : Option Nat) : Sim X 2 (FiM X vV) 0 [(0, va_rf r0), (1, va_rf r1)] [] (f_X5_init r0 r1) := by
  unfold f_X5_init
  refine sm_aload_n cx 0 dX5_init_0 rfl rfl ?_
  refine sm_obj (ci := 8) cx wd_3_175 wd_1_41 wd_1_42 (Nat.le_trans (by decide) hfr) (Nat.le_trans (by decide) hlo) dX5_init_1 rfl ?_
  refine sm_aload_n cx 0 dX5_init_4 rfl rfl ?_
  refine sm_aload_n cx 1 dX5_init_5 rfl rfl ?_
  refine sm_putF cx hin fl_X5_7 (nr_rf _) (ft_rf _) dX5_init_6 ?_
  exact sm_vret cx hr dX5_init_9
set_option maxRecDepth 100000 in
set_option maxHeartbeats 4000000 in
theorem ct_X5_init (Z : Nat → Nat) {r0 : Option Nat} (a0 : Nat) (h0 : r0 = some a0) (r1 : Option Nat) : Ct yX5_init cX5_init 2 none 1 12 Z [.ref a0, va_rf r1] vV (f_X5_init r0 r1) := by
  subst h0
  refine ct_of (lv0 := [(0, va_rf (some a0)), (1, va_rf r1)]) (by decide +kernel) (by simp [lg_sl, ct_i, ct_l, ct_r, rf_cat]) (by show _ = ([(0, Value.ref a0), (1, va_rf r1)] : List (Nat × Value)); simp [lv_args, ct_i, ct_l, ct_r, rf_cat]) (fun X cx hZ hfr hlo hr hin => ?_)
  subst hZ
  exact s_X5_init cx (Nat.le_of_eq hfr.symm) (Nat.le_of_eq hlo.symm) hr hin (some a0) r1
/-! PolicyTree$Machine.knownFacts()I -/
theorem dX5_knownFacts_0 : decode cX5_knownFacts 0 = .ok (.aload_n 0, 1) := by decide +kernel
theorem dX5_knownFacts_1 : decode cX5_knownFacts 1 = .ok (.getfield 13, 3) := by decide +kernel
theorem dX5_knownFacts_4 : decode cX5_knownFacts 4 = .ok (.ireturn, 1) := by decide +kernel
def f_X5_knownFacts (r0 : Option Nat) : Mo Int32 := mb (gI 8 1 r0) (fun v1 => mp v1)
set_option maxRecDepth 100000 in
set_option maxHeartbeats 4000000 in
theorem s_X5_knownFacts {X : Cg} (cx : Cx X cX5_knownFacts RX5 1) (hfr : 0 ≤ (xR X).frames) (hlo : 0 ≤ (xR X).locals) (hr : (xM X).sig.returnType = (some .int)) (r0 : Option Nat) : Sim X 1 (FiM X vI) 0 [(0, va_rf r0)] [] (f_X5_knownFacts r0) := by
  unfold f_X5_knownFacts
  refine sm_aload_n cx 0 dX5_knownFacts_0 rfl rfl ?_
  refine sm_getI cx fl_X5_13 dX5_knownFacts_1 (fun v1 => ?_)
  exact sm_iret cx hr dX5_knownFacts_4
set_option maxRecDepth 100000 in
set_option maxHeartbeats 4000000 in
theorem ct_X5_knownFacts (Z : Nat → Nat) {r0 : Option Nat} (a0 : Nat) (h0 : r0 = some a0) : Ct yX5_knownFacts cX5_knownFacts 1 (some .int) 0 0 Z [.ref a0] vI (f_X5_knownFacts r0) := by
  subst h0
  refine ct_of (lv0 := [(0, va_rf (some a0))]) (by decide +kernel) (by simp [lg_sl, ct_i, ct_l, ct_r, rf_cat]) (by show _ = ([(0, Value.ref a0)] : List (Nat × Value)); simp [lv_args, ct_i, ct_l, ct_r, rf_cat]) (fun X cx hZ hfr hlo hr hin => ?_)
  subst hZ
  exact s_X5_knownFacts cx (Nat.le_of_eq hfr.symm) (Nat.le_of_eq hlo.symm) hr (some a0)
/-! PolicyTree$Machine.yesFacts()I -/
theorem dX5_yesFacts_0 : decode cX5_yesFacts 0 = .ok (.aload_n 0, 1) := by decide +kernel
theorem dX5_yesFacts_1 : decode cX5_yesFacts 1 = .ok (.getfield 17, 3) := by decide +kernel
theorem dX5_yesFacts_4 : decode cX5_yesFacts 4 = .ok (.ireturn, 1) := by decide +kernel
def f_X5_yesFacts (r0 : Option Nat) : Mo Int32 := mb (gI 8 2 r0) (fun v1 => mp v1)
set_option maxRecDepth 100000 in
set_option maxHeartbeats 4000000 in
theorem s_X5_yesFacts {X : Cg} (cx : Cx X cX5_yesFacts RX5 1) (hfr : 0 ≤ (xR X).frames) (hlo : 0 ≤ (xR X).locals) (hr : (xM X).sig.returnType = (some .int)) (r0 : Option Nat) : Sim X 1 (FiM X vI) 0 [(0, va_rf r0)] [] (f_X5_yesFacts r0) := by
  unfold f_X5_yesFacts
  refine sm_aload_n cx 0 dX5_yesFacts_0 rfl rfl ?_
  refine sm_getI cx fl_X5_17 dX5_yesFacts_1 (fun v1 => ?_)
  exact sm_iret cx hr dX5_yesFacts_4
set_option maxRecDepth 100000 in
set_option maxHeartbeats 4000000 in
theorem ct_X5_yesFacts (Z : Nat → Nat) {r0 : Option Nat} (a0 : Nat) (h0 : r0 = some a0) : Ct yX5_yesFacts cX5_yesFacts 1 (some .int) 0 0 Z [.ref a0] vI (f_X5_yesFacts r0) := by
  subst h0
  refine ct_of (lv0 := [(0, va_rf (some a0))]) (by decide +kernel) (by simp [lg_sl, ct_i, ct_l, ct_r, rf_cat]) (by show _ = ([(0, Value.ref a0)] : List (Nat × Value)); simp [lv_args, ct_i, ct_l, ct_r, rf_cat]) (fun X cx hZ hfr hlo hr hin => ?_)
  subst hZ
  exact s_X5_yesFacts cx (Nat.le_of_eq hfr.symm) (Nat.le_of_eq hlo.symm) hr (some a0)
/-! PolicyTree$Machine.factNow(I)I -/
theorem dX5_factNow_0 : decode cX5_factNow 0 = .ok (.aload_n 0, 1) := by decide +kernel
theorem dX5_factNow_1 : decode cX5_factNow 1 = .ok (.getfield 13, 3) := by decide +kernel
theorem dX5_factNow_4 : decode cX5_factNow 4 = .ok (.iload_n 1, 1) := by decide +kernel
theorem dX5_factNow_5 : decode cX5_factNow 5 = .ok (.iushr, 1) := by decide +kernel
theorem dX5_factNow_6 : decode cX5_factNow 6 = .ok (.iconst 1, 1) := by decide +kernel
theorem dX5_factNow_7 : decode cX5_factNow 7 = .ok (.iand, 1) := by decide +kernel
theorem dX5_factNow_8 : decode cX5_factNow 8 = .ok (.ifCond .ne 5, 3) := by decide +kernel
theorem dX5_factNow_11 : decode cX5_factNow 11 = .ok (.iconst (-1), 1) := by decide +kernel
theorem dX5_factNow_12 : decode cX5_factNow 12 = .ok (.ireturn, 1) := by decide +kernel
theorem dX5_factNow_13 : decode cX5_factNow 13 = .ok (.aload_n 0, 1) := by decide +kernel
theorem dX5_factNow_14 : decode cX5_factNow 14 = .ok (.getfield 17, 3) := by decide +kernel
theorem dX5_factNow_17 : decode cX5_factNow 17 = .ok (.iload_n 1, 1) := by decide +kernel
theorem dX5_factNow_18 : decode cX5_factNow 18 = .ok (.iushr, 1) := by decide +kernel
theorem dX5_factNow_19 : decode cX5_factNow 19 = .ok (.iconst 1, 1) := by decide +kernel
theorem dX5_factNow_20 : decode cX5_factNow 20 = .ok (.iand, 1) := by decide +kernel
theorem dX5_factNow_21 : decode cX5_factNow 21 = .ok (.ireturn, 1) := by decide +kernel
def f_X5_factNow (r0 : Option Nat) (x1 : Int32) : Mo Int32 := mb (gI 8 1 r0) (fun v1 => (if ((jSh v1 x1) &&& (1 : Int32)) = 0 then mp (-1 : Int32) else mb (gI 8 2 r0) (fun v14 => mp ((jSh v14 x1) &&& (1 : Int32)))))
set_option maxRecDepth 100000 in
set_option maxHeartbeats 4000000 in
theorem s_X5_factNow {X : Cg} (cx : Cx X cX5_factNow RX5 2) (hfr : 0 ≤ (xR X).frames) (hlo : 0 ≤ (xR X).locals) (hr : (xM X).sig.returnType = (some .int)) (r0 : Option Nat) (x1 : Int32) : Sim X 2 (FiM X vI) 0 [(0, va_rf r0), (1, .int x1)] [] (f_X5_factNow r0 x1) := by
  unfold f_X5_factNow
  refine sm_aload_n cx 0 dX5_factNow_0 rfl rfl ?_
  refine sm_getI cx fl_X5_13 dX5_factNow_1 (fun v1 => ?_)
  refine sm_iload_n cx 1 dX5_factNow_4 rfl rfl ?_
  refine sm_iushr cx dX5_factNow_5 ?_
  refine sm_iconst (v := 1) cx dX5_factNow_6 (by decide) ?_
  refine sm_iand cx dX5_factNow_7 ?_
  refine sm_if_ne (tgt := 13) cx dX5_factNow_8 (by decide) ?_ ?_
  · refine sm_aload_n cx 0 dX5_factNow_13 rfl rfl ?_
    refine sm_getI cx fl_X5_17 dX5_factNow_14 (fun v14 => ?_)
    refine sm_iload_n cx 1 dX5_factNow_17 rfl rfl ?_
    refine sm_iushr cx dX5_factNow_18 ?_
    refine sm_iconst (v := 1) cx dX5_factNow_19 (by decide) ?_
    refine sm_iand cx dX5_factNow_20 ?_
    exact sm_iret cx hr dX5_factNow_21
  · refine sm_iconst (v := -1) cx dX5_factNow_11 (by decide) ?_
    exact sm_iret cx hr dX5_factNow_12
set_option maxRecDepth 100000 in
set_option maxHeartbeats 4000000 in
theorem ct_X5_factNow (Z : Nat → Nat) {r0 : Option Nat} (a0 : Nat) (h0 : r0 = some a0) (x1 : Int32) : Ct yX5_factNow cX5_factNow 2 (some .int) 0 0 Z [.ref a0, .int x1] vI (f_X5_factNow r0 x1) := by
  subst h0
  refine ct_of (lv0 := [(0, va_rf (some a0)), (1, .int x1)]) (by decide +kernel) (by simp [lg_sl, ct_i, ct_l, ct_r, rf_cat]) (by show _ = ([(0, Value.ref a0), (1, .int x1)] : List (Nat × Value)); simp [lv_args, ct_i, ct_l, ct_r, rf_cat]) (fun X cx hZ hfr hlo hr hin => ?_)
  subst hZ
  exact s_X5_factNow cx (Nat.le_of_eq hfr.symm) (Nat.le_of_eq hlo.symm) hr (some a0) x1
/-! PolicyTree$Machine.learn(II)V -/
theorem dX5_learn_0 : decode cX5_learn 0 = .ok (.iconst 1, 1) := by decide +kernel
theorem dX5_learn_1 : decode cX5_learn 1 = .ok (.iload_n 1, 1) := by decide +kernel
theorem dX5_learn_2 : decode cX5_learn 2 = .ok (.ishl, 1) := by decide +kernel
theorem dX5_learn_3 : decode cX5_learn 3 = .ok (.istore_n 3, 1) := by decide +kernel
theorem dX5_learn_4 : decode cX5_learn 4 = .ok (.aload_n 0, 1) := by decide +kernel
theorem dX5_learn_5 : decode cX5_learn 5 = .ok (.iload_n 2, 1) := by decide +kernel
theorem dX5_learn_6 : decode cX5_learn 6 = .ok (.ifCond .ge 14, 3) := by decide +kernel
theorem dX5_learn_9 : decode cX5_learn 9 = .ok (.aload_n 0, 1) := by decide +kernel
theorem dX5_learn_10 : decode cX5_learn 10 = .ok (.getfield 13, 3) := by decide +kernel
theorem dX5_learn_13 : decode cX5_learn 13 = .ok (.iload_n 3, 1) := by decide +kernel
theorem dX5_learn_14 : decode cX5_learn 14 = .ok (.iconst (-1), 1) := by decide +kernel
theorem dX5_learn_15 : decode cX5_learn 15 = .ok (.ixor, 1) := by decide +kernel
theorem dX5_learn_16 : decode cX5_learn 16 = .ok (.iand, 1) := by decide +kernel
theorem dX5_learn_17 : decode cX5_learn 17 = .ok (.goto 9, 3) := by decide +kernel
theorem dX5_learn_20 : decode cX5_learn 20 = .ok (.aload_n 0, 1) := by decide +kernel
theorem dX5_learn_21 : decode cX5_learn 21 = .ok (.getfield 13, 3) := by decide +kernel
theorem dX5_learn_24 : decode cX5_learn 24 = .ok (.iload_n 3, 1) := by decide +kernel
theorem dX5_learn_25 : decode cX5_learn 25 = .ok (.ior, 1) := by decide +kernel
theorem dX5_learn_26 : decode cX5_learn 26 = .ok (.putfield 13, 3) := by decide +kernel
theorem dX5_learn_29 : decode cX5_learn 29 = .ok (.aload_n 0, 1) := by decide +kernel
theorem dX5_learn_30 : decode cX5_learn 30 = .ok (.iload_n 2, 1) := by decide +kernel
theorem dX5_learn_31 : decode cX5_learn 31 = .ok (.ifCond .le 12, 3) := by decide +kernel
theorem dX5_learn_34 : decode cX5_learn 34 = .ok (.aload_n 0, 1) := by decide +kernel
theorem dX5_learn_35 : decode cX5_learn 35 = .ok (.getfield 17, 3) := by decide +kernel
theorem dX5_learn_38 : decode cX5_learn 38 = .ok (.iload_n 3, 1) := by decide +kernel
theorem dX5_learn_39 : decode cX5_learn 39 = .ok (.ior, 1) := by decide +kernel
theorem dX5_learn_40 : decode cX5_learn 40 = .ok (.goto 11, 3) := by decide +kernel
theorem dX5_learn_43 : decode cX5_learn 43 = .ok (.aload_n 0, 1) := by decide +kernel
theorem dX5_learn_44 : decode cX5_learn 44 = .ok (.getfield 17, 3) := by decide +kernel
theorem dX5_learn_47 : decode cX5_learn 47 = .ok (.iload_n 3, 1) := by decide +kernel
theorem dX5_learn_48 : decode cX5_learn 48 = .ok (.iconst (-1), 1) := by decide +kernel
theorem dX5_learn_49 : decode cX5_learn 49 = .ok (.ixor, 1) := by decide +kernel
theorem dX5_learn_50 : decode cX5_learn 50 = .ok (.iand, 1) := by decide +kernel
theorem dX5_learn_51 : decode cX5_learn 51 = .ok (.putfield 17, 3) := by decide +kernel
theorem dX5_learn_54 : decode cX5_learn 54 = .ok (.return_, 1) := by decide +kernel
def f_X5_learn_51 (sr0 : Option Nat) (sx1 : Int32) : Mo Unit := mb (pV 8 2 sr0 (.int sx1)) (fun _ => mp ())
set_option maxRecDepth 100000 in
set_option maxHeartbeats 4000000 in
theorem s_X5_learn_51 {X : Cg} (cx : Cx X cX5_learn RX5 4) (hfr : 0 ≤ (xR X).frames) (hlo : 0 ≤ (xR X).locals) (hr : (xM X).sig.returnType = none) (sr0 : Option Nat) (sx1 : Int32) : Sim X 4 (FiM X vV) 51 [] [.int sx1, va_rf sr0] (f_X5_learn_51 sr0 sx1) := by
  unfold f_X5_learn_51
  refine sm_putV cx fl_X5_17 rfl rfl dX5_learn_51 ?_
  exact sm_vret cx hr dX5_learn_54
def f_X5_learn_26 (r0 : Option Nat) (x2 : Int32) (x3 : Int32) (sr0 : Option Nat) (sx1 : Int32) : Mo Unit := mb (pV 8 1 sr0 (.int sx1)) (fun _ => (if x2 ≤ 0 then mb (gI 8 2 r0) (fun v44 => f_X5_learn_51 r0 (v44 &&& (x3 ^^^ (-1 : Int32)))) else mb (gI 8 2 r0) (fun v35 => f_X5_learn_51 r0 (v35 ||| x3))))
set_option maxRecDepth 100000 in
set_option maxHeartbeats 4000000 in
theorem s_X5_learn_26 {X : Cg} (cx : Cx X cX5_learn RX5 4) (hfr : 0 ≤ (xR X).frames) (hlo : 0 ≤ (xR X).locals) (hr : (xM X).sig.returnType = none) (r0 : Option Nat) (x2 : Int32) (x3 : Int32) (sr0 : Option Nat) (sx1 : Int32) : Sim X 4 (FiM X vV) 26 [(0, va_rf r0), (2, .int x2), (3, .int x3)] [.int sx1, va_rf sr0] (f_X5_learn_26 r0 x2 x3 sr0 sx1) := by
  unfold f_X5_learn_26
  refine sm_putV cx fl_X5_13 rfl rfl dX5_learn_26 ?_
  refine sm_aload_n cx 0 dX5_learn_29 rfl rfl ?_
  refine sm_iload_n cx 1 dX5_learn_30 rfl rfl ?_
  refine sm_if_le (tgt := 43) cx dX5_learn_31 (by decide) ?_ ?_
  · refine sm_aload_n cx 0 dX5_learn_43 rfl rfl ?_
    refine sm_getI cx fl_X5_17 dX5_learn_44 (fun v44 => ?_)
    refine sm_iload_n cx 2 dX5_learn_47 rfl rfl ?_
    refine sm_iconst (v := -1) cx dX5_learn_48 (by decide) ?_
    refine sm_ixor cx dX5_learn_49 ?_
    refine sm_iand cx dX5_learn_50 ?_
    exact sm_lv [] rfl (s_X5_learn_51 cx hfr hlo hr r0 (v44 &&& (x3 ^^^ (-1 : Int32))))
  · refine sm_aload_n cx 0 dX5_learn_34 rfl rfl ?_
    refine sm_getI cx fl_X5_17 dX5_learn_35 (fun v35 => ?_)
    refine sm_iload_n cx 2 dX5_learn_38 rfl rfl ?_
    refine sm_ior cx dX5_learn_39 ?_
    refine sm_goto (tgt := 51) cx dX5_learn_40 (by decide) ?_
    exact sm_lv [] rfl (s_X5_learn_51 cx hfr hlo hr r0 (v35 ||| x3))
def f_X5_learn (r0 : Option Nat) (x1 : Int32) (x2 : Int32) : Mo Unit := (if 0 ≤ x2 then mb (gI 8 1 r0) (fun v21 => f_X5_learn_26 r0 x2 ((1 : Int32) <<< (x1 &&& 31)) r0 (v21 ||| ((1 : Int32) <<< (x1 &&& 31)))) else mb (gI 8 1 r0) (fun v10 => f_X5_learn_26 r0 x2 ((1 : Int32) <<< (x1 &&& 31)) r0 (v10 &&& (((1 : Int32) <<< (x1 &&& 31)) ^^^ (-1 : Int32)))))
set_option maxRecDepth 100000 in
set_option maxHeartbeats 4000000 in
theorem s_X5_learn {X : Cg} (cx : Cx X cX5_learn RX5 4) (hfr : 0 ≤ (xR X).frames) (hlo : 0 ≤ (xR X).locals) (hr : (xM X).sig.returnType = none) (r0 : Option Nat) (x1 : Int32) (x2 : Int32) : Sim X 4 (FiM X vV) 0 [(0, va_rf r0), (1, .int x1), (2, .int x2)] [] (f_X5_learn r0 x1 x2) := by
  unfold f_X5_learn
  refine sm_iconst (v := 1) cx dX5_learn_0 (by decide) ?_
  refine sm_iload_n cx 1 dX5_learn_1 rfl rfl ?_
  refine sm_ishl cx dX5_learn_2 ?_
  refine sm_istore_n cx [(3, .int ((1 : Int32) <<< (x1 &&& 31))), (0, va_rf r0), (1, .int x1), (2, .int x2)] dX5_learn_3 rfl (by decide) rfl (nc1 rfl) rfl ?_
  refine sm_aload_n cx 1 dX5_learn_4 rfl rfl ?_
  refine sm_iload_n cx 3 dX5_learn_5 rfl rfl ?_
  refine sm_if_ge (tgt := 20) cx dX5_learn_6 (by decide) ?_ ?_
  · refine sm_aload_n cx 1 dX5_learn_20 rfl rfl ?_
    refine sm_getI cx fl_X5_13 dX5_learn_21 (fun v21 => ?_)
    refine sm_iload_n cx 0 dX5_learn_24 rfl rfl ?_
    refine sm_ior cx dX5_learn_25 ?_
    exact sm_lv [1, 3, 0] rfl (s_X5_learn_26 cx hfr hlo hr r0 x2 ((1 : Int32) <<< (x1 &&& 31)) r0 (v21 ||| ((1 : Int32) <<< (x1 &&& 31))))
  · refine sm_aload_n cx 1 dX5_learn_9 rfl rfl ?_
    refine sm_getI cx fl_X5_13 dX5_learn_10 (fun v10 => ?_)
    refine sm_iload_n cx 0 dX5_learn_13 rfl rfl ?_
    refine sm_iconst (v := -1) cx dX5_learn_14 (by decide) ?_
    refine sm_ixor cx dX5_learn_15 ?_
    refine sm_iand cx dX5_learn_16 ?_
    refine sm_goto (tgt := 26) cx dX5_learn_17 (by decide) ?_
    exact sm_lv [1, 3, 0] rfl (s_X5_learn_26 cx hfr hlo hr r0 x2 ((1 : Int32) <<< (x1 &&& 31)) r0 (v10 &&& (((1 : Int32) <<< (x1 &&& 31)) ^^^ (-1 : Int32))))
set_option maxRecDepth 100000 in
set_option maxHeartbeats 4000000 in
theorem ct_X5_learn (Z : Nat → Nat) {r0 : Option Nat} (a0 : Nat) (h0 : r0 = some a0) (x1 : Int32) (x2 : Int32) : Ct yX5_learn cX5_learn 4 none 0 0 Z [.ref a0, .int x1, .int x2] vV (f_X5_learn r0 x1 x2) := by
  subst h0
  refine ct_of (lv0 := [(0, va_rf (some a0)), (1, .int x1), (2, .int x2)]) (by decide +kernel) (by simp [lg_sl, ct_i, ct_l, ct_r, rf_cat]) (by show _ = ([(0, Value.ref a0), (1, .int x1), (2, .int x2)] : List (Nat × Value)); simp [lv_args, ct_i, ct_l, ct_r, rf_cat]) (fun X cx hZ hfr hlo hr hin => ?_)
  subst hZ
  exact s_X5_learn cx (Nat.le_of_eq hfr.symm) (Nat.le_of_eq hlo.symm) hr (some a0) x1 x2
/-! PolicyTree$Node.<init>(ILPolicyTree$Node;)V -/
theorem dX6_init_0 : decode cX6_init 0 = .ok (.aload_n 0, 1) := by decide +kernel
theorem dX6_init_1 : decode cX6_init 1 = .ok (.invokespecial 1, 3) := by decide +kernel
theorem dX6_init_4 : decode cX6_init 4 = .ok (.aload_n 0, 1) := by decide +kernel
theorem dX6_init_5 : decode cX6_init 5 = .ok (.new 7, 3) := by decide +kernel
theorem dX6_init_8 : decode cX6_init 8 = .ok (.dup, 1) := by decide +kernel
theorem dX6_init_9 : decode cX6_init 9 = .ok (.invokespecial 9, 3) := by decide +kernel
theorem dX6_init_12 : decode cX6_init 12 = .ok (.putfield 10, 3) := by decide +kernel
theorem dX6_init_15 : decode cX6_init 15 = .ok (.aload_n 0, 1) := by decide +kernel
theorem dX6_init_16 : decode cX6_init 16 = .ok (.iload_n 1, 1) := by decide +kernel
theorem dX6_init_17 : decode cX6_init 17 = .ok (.putfield 16, 3) := by decide +kernel
theorem dX6_init_20 : decode cX6_init 20 = .ok (.aload_n 0, 1) := by decide +kernel
theorem dX6_init_21 : decode cX6_init 21 = .ok (.aload_n 2, 1) := by decide +kernel
theorem dX6_init_22 : decode cX6_init 22 = .ok (.putfield 20, 3) := by decide +kernel
theorem dX6_init_25 : decode cX6_init 25 = .ok (.return_, 1) := by decide +kernel
def f_X6_init (Z : Nat → Nat) (r0 : Option Nat) (x1 : Int32) (r2 : Option Nat) : Mo Unit := mb (mo 9 r0 (mp ())) (fun _ => mb (nO 2 [.int 0, .null, .int 0]) (fun v5 => mb (mo 2 v5 (f_Jx4a65c_init_da8c8 Z v5)) (fun _ => mb (pV 9 3 r0 (va_rf v5)) (fun _ => mb (pV 9 0 r0 (.int x1)) (fun _ => mb (pV 9 1 r0 (va_rf r2)) (fun _ => mp ()))))))
set_option maxRecDepth 100000 in
set_option maxHeartbeats 4000000 in
theorem s_X6_init {X : Cg} (cx : Cx X cX6_init RX6 3) (hfr : 4 ≤ (xR X).frames) (hlo : 72 ≤ (xR X).locals) (hr : (xM X).sig.returnType = none) (hin : (xM X).name = "<init>") (r0 : Option Nat) (x1 : Int32) (r2 : Option Nat) : Sim X 3 (FiM X vV) 0 [(0, va_rf r0), (1, .int x1), (2, va_rf r2)] [] (f_X6_init (xZ X) r0 x1 r2) := by
  unfold f_X6_init
  refine sm_aload_n cx 0 dX6_init_0 rfl rfl ?_
  refine sm_obj (ci := 9) cx wd_1_203 wd_1_41 wd_1_42 (Nat.le_trans (by decide) hfr) (Nat.le_trans (by decide) hlo) dX6_init_1 rfl ?_
  refine sm_aload_n cx 0 dX6_init_4 rfl rfl ?_
  refine sm_new cx nw_X6_7 dX6_init_5 (fun v5 => ?_)
  refine sm_dup cx dX6_init_8 (rf_cat _) ?_
  refine sm_callI (ci := 2) (toV := vV) cx [] ci_X6_9 (fun a h => ct_Jx4a65c_init_da8c8 (xZ X) a h) (Nat.le_trans (by decide) hfr) (Nat.le_trans (by decide) hlo) rfl (cat_le _ (Nat.le_of_ble_eq_true rfl)) dX6_init_9 (fun _ => ?_)
  refine sm_putF cx hin fl_X6_10 (nr_rf _) (ft_rf _) dX6_init_12 ?_
  refine sm_aload_n cx 0 dX6_init_15 rfl rfl ?_
  refine sm_iload_n cx 1 dX6_init_16 rfl rfl ?_
  refine sm_putF cx hin fl_X6_16 rfl rfl dX6_init_17 ?_
  refine sm_aload_n cx 0 dX6_init_20 rfl rfl ?_
  refine sm_aload_n cx 2 dX6_init_21 rfl rfl ?_
  refine sm_putV cx fl_X6_20 (nr_rf _) (ft_rf _) dX6_init_22 ?_
  exact sm_vret cx hr dX6_init_25
set_option maxRecDepth 100000 in
set_option maxHeartbeats 4000000 in
theorem ct_X6_init (Z : Nat → Nat) {r0 : Option Nat} (a0 : Nat) (h0 : r0 = some a0) (x1 : Int32) (r2 : Option Nat) : Ct yX6_init cX6_init 3 none 4 72 Z [.ref a0, .int x1, va_rf r2] vV (f_X6_init Z r0 x1 r2) := by
  subst h0
  refine ct_of (lv0 := [(0, va_rf (some a0)), (1, .int x1), (2, va_rf r2)]) (by decide +kernel) (by simp [lg_sl, ct_i, ct_l, ct_r, rf_cat]) (by show _ = ([(0, Value.ref a0), (1, .int x1), (2, va_rf r2)] : List (Nat × Value)); simp [lv_args, ct_i, ct_l, ct_r, rf_cat]) (fun X cx hZ hfr hlo hr hin => ?_)
  subst hZ
  exact s_X6_init cx (Nat.le_of_eq hfr.symm) (Nat.le_of_eq hlo.symm) hr hin (some a0) x1 r2
/-! PolicyTree$Node.isWithin(LPolicyTree$Node;)Z -/
theorem dX6_isWithin_0 : decode cX6_isWithin 0 = .ok (.aload_n 0, 1) := by decide +kernel
theorem dX6_isWithin_1 : decode cX6_isWithin 1 = .ok (.astore_n 2, 1) := by decide +kernel
theorem dX6_isWithin_2 : decode cX6_isWithin 2 = .ok (.aload_n 2, 1) := by decide +kernel
theorem dX6_isWithin_3 : decode cX6_isWithin 3 = .ok (.ifnull 18, 3) := by decide +kernel
theorem dX6_isWithin_6 : decode cX6_isWithin 6 = .ok (.aload_n 2, 1) := by decide +kernel
theorem dX6_isWithin_7 : decode cX6_isWithin 7 = .ok (.aload_n 1, 1) := by decide +kernel
theorem dX6_isWithin_8 : decode cX6_isWithin 8 = .ok (.if_acmp .ne 5, 3) := by decide +kernel
theorem dX6_isWithin_11 : decode cX6_isWithin 11 = .ok (.iconst 1, 1) := by decide +kernel
theorem dX6_isWithin_12 : decode cX6_isWithin 12 = .ok (.ireturn, 1) := by decide +kernel
theorem dX6_isWithin_13 : decode cX6_isWithin 13 = .ok (.aload_n 2, 1) := by decide +kernel
theorem dX6_isWithin_14 : decode cX6_isWithin 14 = .ok (.getfield 20, 3) := by decide +kernel
theorem dX6_isWithin_17 : decode cX6_isWithin 17 = .ok (.astore_n 2, 1) := by decide +kernel
theorem dX6_isWithin_18 : decode cX6_isWithin 18 = .ok (.goto (-16), 3) := by decide +kernel
theorem dX6_isWithin_21 : decode cX6_isWithin 21 = .ok (.iconst 0, 1) := by decide +kernel
theorem dX6_isWithin_22 : decode cX6_isWithin 22 = .ok (.ireturn, 1) := by decide +kernel
def f_X6_isWithin_2 (r1 : Option Nat) : Nat → Option Nat → Mo Int32
  | 0, _ => mf
  | n + 1, r2 => (if r2 = none then rz .boolean (0 : Int32) else (if r2 = r1 then rz .boolean (1 : Int32) else mb (gR 9 1 r2) (fun v14 => (f_X6_isWithin_2 r1 n) v14)))
set_option maxRecDepth 100000 in
set_option maxHeartbeats 4000000 in
theorem s_X6_isWithin_2 {X : Cg} (cx : Cx X cX6_isWithin RX6 3) (hfr : 0 ≤ (xR X).frames) (hlo : 0 ≤ (xR X).locals) (hr : (xM X).sig.returnType = (some .boolean)) (r1 : Option Nat) : ∀ (n : Nat) (r2 : Option Nat), Sim X 3 (FiM X vI) 2 [(1, va_rf r1), (2, va_rf r2)] [] (f_X6_isWithin_2 r1 n r2) := by
  intro n
  induction n with
  | zero =>
    intro _
    exact sm_mf
  | succ n ih =>
    intro r2
    rw [f_X6_isWithin_2]
    refine sm_aload_n cx 1 dX6_isWithin_2 rfl rfl ?_
    refine sm_ifnull (tgt := 21) cx dX6_isWithin_3 (by decide) ?_ ?_
    · refine sm_iconst (v := 0) cx dX6_isWithin_21 (by decide) ?_
      exact sm_zret cx hr dX6_isWithin_22
    · refine sm_aload_n cx 1 dX6_isWithin_6 rfl rfl ?_
      refine sm_aload_n cx 0 dX6_isWithin_7 rfl rfl ?_
      refine sm_acmp_ne (tgt := 13) cx dX6_isWithin_8 (by decide) ?_ ?_
      · refine sm_aload_n cx 1 dX6_isWithin_13 rfl rfl ?_
        refine sm_getR cx fl_X6_20 dX6_isWithin_14 (fun v14 => ?_)
        refine sm_astore_n cx [(2, va_rf v14), (1, va_rf r1)] dX6_isWithin_17 rfl (by decide) rfl (nc1 (rf_cat _)) rfl ?_
        refine sm_goto (tgt := 2) cx dX6_isWithin_18 (by decide) ?_
        exact sm_lv [1, 0] rfl (ih v14)
      · refine sm_iconst (v := 1) cx dX6_isWithin_11 (by decide) ?_
        exact sm_zret cx hr dX6_isWithin_12
def f_X6_isWithin (r0 : Option Nat) (r1 : Option Nat) : Mo Int32 := f_X6_isWithin_2 r1 fuL r0
set_option maxRecDepth 100000 in
set_option maxHeartbeats 4000000 in
theorem s_X6_isWithin {X : Cg} (cx : Cx X cX6_isWithin RX6 3) (hfr : 0 ≤ (xR X).frames) (hlo : 0 ≤ (xR X).locals) (hr : (xM X).sig.returnType = (some .boolean)) (r0 : Option Nat) (r1 : Option Nat) : Sim X 3 (FiM X vI) 0 [(0, va_rf r0), (1, va_rf r1)] [] (f_X6_isWithin r0 r1) := by
  unfold f_X6_isWithin
  refine sm_aload_n cx 0 dX6_isWithin_0 rfl rfl ?_
  refine sm_astore_n cx [(2, va_rf r0), (0, va_rf r0), (1, va_rf r1)] dX6_isWithin_1 rfl (by decide) rfl (nc1 (rf_cat _)) rfl ?_
  exact sm_lv [2, 0] rfl (s_X6_isWithin_2 cx hfr hlo hr r1 fuL r0)
set_option maxRecDepth 100000 in
set_option maxHeartbeats 4000000 in
theorem ct_X6_isWithin (Z : Nat → Nat) {r0 : Option Nat} (a0 : Nat) (h0 : r0 = some a0) (r1 : Option Nat) : Ct yX6_isWithin cX6_isWithin 3 (some .boolean) 0 0 Z [.ref a0, va_rf r1] vI (f_X6_isWithin r0 r1) := by
  subst h0
  refine ct_of (lv0 := [(0, va_rf (some a0)), (1, va_rf r1)]) (by decide +kernel) (by simp [lg_sl, ct_i, ct_l, ct_r, rf_cat]) (by show _ = ([(0, Value.ref a0), (1, va_rf r1)] : List (Nat × Value)); simp [lv_args, ct_i, ct_l, ct_r, rf_cat]) (fun X cx hZ hfr hlo hr hin => ?_)
  subst hZ
  exact s_X6_isWithin cx (Nat.le_of_eq hfr.symm) (Nat.le_of_eq hlo.symm) hr (some a0) r1
/-! PolicyTree$Node.size()I -/
theorem dX6_size_0 : decode cX6_size 0 = .ok (.aload_n 0, 1) := by decide +kernel
theorem dX6_size_1 : decode cX6_size 1 = .ok (.getfield 10, 3) := by decide +kernel
theorem dX6_size_4 : decode cX6_size 4 = .ok (.invokevirtual 24, 3) := by decide +kernel
theorem dX6_size_7 : decode cX6_size 7 = .ok (.ireturn, 1) := by decide +kernel
def f_X6_size (r0 : Option Nat) : Mo Int32 := mb (gR 9 3 r0) (fun v1 => mb (mo 2 v1 (f_Jx4a65c_size_8abf5 v1)) (fun v4 => mp v4))
set_option maxRecDepth 100000 in
set_option maxHeartbeats 4000000 in
theorem s_X6_size {X : Cg} (cx : Cx X cX6_size RX6 1) (hfr : 1 ≤ (xR X).frames) (hlo : 20 ≤ (xR X).locals) (hr : (xM X).sig.returnType = (some .int)) (r0 : Option Nat) : Sim X 1 (FiM X vI) 0 [(0, va_rf r0)] [] (f_X6_size r0) := by
  unfold f_X6_size
  refine sm_aload_n cx 0 dX6_size_0 rfl rfl ?_
  refine sm_getR cx fl_X6_10 dX6_size_1 (fun v1 => ?_)
  refine sm_callV (T := TJx4a65c) (N := 3) (toV := vI) cx [] rfl cv_X6_24 (fun a h => ct_Jx4a65c_size_8abf5 (xZ X) a h) (Nat.le_trans (by decide) hfr) (Nat.le_trans (by decide) hlo) rfl (cat_le _ (Nat.le_of_ble_eq_true rfl)) dX6_size_4 (fun v4 => ?_)
  exact sm_iret cx hr dX6_size_7
set_option maxRecDepth 100000 in
set_option maxHeartbeats 4000000 in
theorem ct_X6_size (Z : Nat → Nat) {r0 : Option Nat} (a0 : Nat) (h0 : r0 = some a0) : Ct yX6_size cX6_size 1 (some .int) 1 20 Z [.ref a0] vI (f_X6_size r0) := by
  subst h0
  refine ct_of (lv0 := [(0, va_rf (some a0))]) (by decide +kernel) (by simp [lg_sl, ct_i, ct_l, ct_r, rf_cat]) (by show _ = ([(0, Value.ref a0)] : List (Nat × Value)); simp [lv_args, ct_i, ct_l, ct_r, rf_cat]) (fun X cx hZ hfr hlo hr hin => ?_)
  subst hZ
  exact s_X6_size cx (Nat.le_of_eq hfr.symm) (Nat.le_of_eq hlo.symm) hr (some a0)
/-! PolicyTree$Node.linkAt(I)LPolicyTree$Link; -/
theorem dX6_linkAt_0 : decode cX6_linkAt 0 = .ok (.iload_n 1, 1) := by decide +kernel
theorem dX6_linkAt_1 : decode cX6_linkAt 1 = .ok (.ifCond .lt 28, 3) := by decide +kernel
theorem dX6_linkAt_4 : decode cX6_linkAt 4 = .ok (.iload_n 1, 1) := by decide +kernel
theorem dX6_linkAt_5 : decode cX6_linkAt 5 = .ok (.aload_n 0, 1) := by decide +kernel
theorem dX6_linkAt_6 : decode cX6_linkAt 6 = .ok (.getfield 10, 3) := by decide +kernel
theorem dX6_linkAt_9 : decode cX6_linkAt 9 = .ok (.invokevirtual 24, 3) := by decide +kernel
theorem dX6_linkAt_12 : decode cX6_linkAt 12 = .ok (.if_icmp .ge 17, 3) := by decide +kernel
theorem dX6_linkAt_15 : decode cX6_linkAt 15 = .ok (.aload_n 0, 1) := by decide +kernel
theorem dX6_linkAt_16 : decode cX6_linkAt 16 = .ok (.getfield 10, 3) := by decide +kernel
theorem dX6_linkAt_19 : decode cX6_linkAt 19 = .ok (.iload_n 1, 1) := by decide +kernel
theorem dX6_linkAt_20 : decode cX6_linkAt 20 = .ok (.invokevirtual 28, 3) := by decide +kernel
theorem dX6_linkAt_23 : decode cX6_linkAt 23 = .ok (.checkcast 32, 3) := by decide +kernel
theorem dX6_linkAt_26 : decode cX6_linkAt 26 = .ok (.goto 4, 3) := by decide +kernel
theorem dX6_linkAt_29 : decode cX6_linkAt 29 = .ok (.aconst_null, 1) := by decide +kernel
theorem dX6_linkAt_30 : decode cX6_linkAt 30 = .ok (.areturn, 1) := by decide +kernel
def f_X6_linkAt_30 (sr0 : Option Nat) : Mo (Option Nat) := mp sr0
set_option maxRecDepth 100000 in
set_option maxHeartbeats 4000000 in
theorem s_X6_linkAt_30 {X : Cg} (cx : Cx X cX6_linkAt RX6 2) (hfr : 3 ≤ (xR X).frames) (hlo : 64 ≤ (xR X).locals) (hr : (xM X).sig.returnType = (some (.object "PolicyTree$Link"))) (sr0 : Option Nat) : Sim X 2 (FiM X vR) 30 [] [va_rf sr0] (f_X6_linkAt_30 sr0) := by
  unfold f_X6_linkAt_30
  exact sm_aret cx hr (Or.inl ⟨_, rfl⟩) dX6_linkAt_30
def f_X6_linkAt_29 : Mo (Option Nat) := f_X6_linkAt_30 none
set_option maxRecDepth 100000 in
set_option maxHeartbeats 4000000 in
theorem s_X6_linkAt_29 {X : Cg} (cx : Cx X cX6_linkAt RX6 2) (hfr : 3 ≤ (xR X).frames) (hlo : 64 ≤ (xR X).locals) (hr : (xM X).sig.returnType = (some (.object "PolicyTree$Link"))) : Sim X 2 (FiM X vR) 29 [] [] (f_X6_linkAt_29) := by
  unfold f_X6_linkAt_29
  refine sm_null cx dX6_linkAt_29 ?_
  exact sm_lv [] rfl (s_X6_linkAt_30 cx hfr hlo hr none)
def f_X6_linkAt (r0 : Option Nat) (x1 : Int32) : Mo (Option Nat) := (if x1 < 0 then f_X6_linkAt_29 else mb (gR 9 3 r0) (fun v6 => mb (mo 2 v6 (f_Jx4a65c_size_8abf5 v6)) (fun v9 => (if v9 ≤ x1 then f_X6_linkAt_29 else mb (gR 9 3 r0) (fun v16 => mb (mo 2 v16 (f_Jx4a65c_get_915e3 v16 x1)) (fun v20 => mb (ck 7 v20) (fun _ => f_X6_linkAt_30 v20)))))))
set_option maxRecDepth 100000 in
set_option maxHeartbeats 4000000 in
theorem s_X6_linkAt {X : Cg} (cx : Cx X cX6_linkAt RX6 2) (hfr : 3 ≤ (xR X).frames) (hlo : 64 ≤ (xR X).locals) (hr : (xM X).sig.returnType = (some (.object "PolicyTree$Link"))) (r0 : Option Nat) (x1 : Int32) : Sim X 2 (FiM X vR) 0 [(0, va_rf r0), (1, .int x1)] [] (f_X6_linkAt r0 x1) := by
  unfold f_X6_linkAt
  refine sm_iload_n cx 1 dX6_linkAt_0 rfl rfl ?_
  refine sm_if_lt (tgt := 29) cx dX6_linkAt_1 (by decide) ?_ ?_
  · exact sm_lv [] rfl (s_X6_linkAt_29 cx hfr hlo hr)
  · refine sm_iload_n cx 1 dX6_linkAt_4 rfl rfl ?_
    refine sm_aload_n cx 0 dX6_linkAt_5 rfl rfl ?_
    refine sm_getR cx fl_X6_10 dX6_linkAt_6 (fun v6 => ?_)
    refine sm_callV (T := TJx4a65c) (N := 3) (toV := vI) cx [] rfl cv_X6_24 (fun a h => ct_Jx4a65c_size_8abf5 (xZ X) a h) (Nat.le_trans (by decide) hfr) (Nat.le_trans (by decide) hlo) rfl (cat_le _ (Nat.le_of_ble_eq_true rfl)) dX6_linkAt_9 (fun v9 => ?_)
    refine sm_icmp_ge (tgt := 29) cx dX6_linkAt_12 (by decide) ?_ ?_
    · exact sm_lv [] rfl (s_X6_linkAt_29 cx hfr hlo hr)
    · refine sm_aload_n cx 0 dX6_linkAt_15 rfl rfl ?_
      refine sm_getR cx fl_X6_10 dX6_linkAt_16 (fun v16 => ?_)
      refine sm_iload_n cx 1 dX6_linkAt_19 rfl rfl ?_
      refine sm_callV (T := TJx4a65c) (N := 3) (toV := vR) cx [.int x1] rfl cv_X6_28 (fun a h => ct_Jx4a65c_get_915e3 (xZ X) a h x1) (Nat.le_trans (by decide) hfr) (Nat.le_trans (by decide) hlo) rfl (cat_le _ (Nat.le_of_ble_eq_true rfl)) dX6_linkAt_20 (fun v20 => ?_)
      refine sm_ck (T := TX4) (N := 7) cx rfl wd_3_98 dX6_linkAt_23 ?_
      refine sm_goto (tgt := 30) cx dX6_linkAt_26 (by decide) ?_
      exact sm_lv [] rfl (s_X6_linkAt_30 cx hfr hlo hr v20)
set_option maxRecDepth 100000 in
set_option maxHeartbeats 4000000 in
theorem ct_X6_linkAt (Z : Nat → Nat) {r0 : Option Nat} (a0 : Nat) (h0 : r0 = some a0) (x1 : Int32) : Ct yX6_linkAt cX6_linkAt 2 (some (.object "PolicyTree$Link")) 3 64 Z [.ref a0, .int x1] vR (f_X6_linkAt r0 x1) := by
  subst h0
  refine ct_of (lv0 := [(0, va_rf (some a0)), (1, .int x1)]) (by decide +kernel) (by simp [lg_sl, ct_i, ct_l, ct_r, rf_cat]) (by show _ = ([(0, Value.ref a0), (1, .int x1)] : List (Nat × Value)); simp [lv_args, ct_i, ct_l, ct_r, rf_cat]) (fun X cx hZ hfr hlo hr hin => ?_)
  subst hZ
  exact s_X6_linkAt cx (Nat.le_of_eq hfr.symm) (Nat.le_of_eq hlo.symm) hr (some a0) x1
/-! PolicyTree$Node.insert(LPolicyTree$Link;)V -/
theorem dX6_insert_0 : decode cX6_insert 0 = .ok (.aload_n 0, 1) := by decide +kernel
theorem dX6_insert_1 : decode cX6_insert 1 = .ok (.getfield 10, 3) := by decide +kernel
theorem dX6_insert_4 : decode cX6_insert 4 = .ok (.invokevirtual 24, 3) := by decide +kernel
theorem dX6_insert_7 : decode cX6_insert 7 = .ok (.istore_n 2, 1) := by decide +kernel
theorem dX6_insert_8 : decode cX6_insert 8 = .ok (.aload_n 0, 1) := by decide +kernel
theorem dX6_insert_9 : decode cX6_insert 9 = .ok (.getfield 10, 3) := by decide +kernel
theorem dX6_insert_12 : decode cX6_insert 12 = .ok (.invokevirtual 24, 3) := by decide +kernel
theorem dX6_insert_15 : decode cX6_insert 15 = .ok (.iconst 1, 1) := by decide +kernel
theorem dX6_insert_16 : decode cX6_insert 16 = .ok (.isub, 1) := by decide +kernel
theorem dX6_insert_17 : decode cX6_insert 17 = .ok (.istore_n 3, 1) := by decide +kernel
theorem dX6_insert_18 : decode cX6_insert 18 = .ok (.iload_n 3, 1) := by decide +kernel
theorem dX6_insert_19 : decode cX6_insert 19 = .ok (.ifCond .lt 35, 3) := by decide +kernel
theorem dX6_insert_22 : decode cX6_insert 22 = .ok (.aload_n 0, 1) := by decide +kernel
theorem dX6_insert_23 : decode cX6_insert 23 = .ok (.getfield 10, 3) := by decide +kernel
theorem dX6_insert_26 : decode cX6_insert 26 = .ok (.iload_n 3, 1) := by decide +kernel
theorem dX6_insert_27 : decode cX6_insert 27 = .ok (.invokevirtual 28, 3) := by decide +kernel
theorem dX6_insert_30 : decode cX6_insert 30 = .ok (.checkcast 32, 3) := by decide +kernel
theorem dX6_insert_33 : decode cX6_insert 33 = .ok (.getfield 34, 3) := by decide +kernel
theorem dX6_insert_36 : decode cX6_insert 36 = .ok (.aload_n 1, 1) := by decide +kernel
theorem dX6_insert_37 : decode cX6_insert 37 = .ok (.getfield 34, 3) := by decide +kernel
theorem dX6_insert_40 : decode cX6_insert 40 = .ok (.if_icmp .gt 6, 3) := by decide +kernel
theorem dX6_insert_43 : decode cX6_insert 43 = .ok (.goto 11, 3) := by decide +kernel
theorem dX6_insert_46 : decode cX6_insert 46 = .ok (.iload_n 3, 1) := by decide +kernel
theorem dX6_insert_47 : decode cX6_insert 47 = .ok (.istore_n 2, 1) := by decide +kernel
theorem dX6_insert_48 : decode cX6_insert 48 = .ok (.iinc 3 (-1), 3) := by decide +kernel
theorem dX6_insert_51 : decode cX6_insert 51 = .ok (.goto (-33), 3) := by decide +kernel
theorem dX6_insert_54 : decode cX6_insert 54 = .ok (.aload_n 0, 1) := by decide +kernel
theorem dX6_insert_55 : decode cX6_insert 55 = .ok (.getfield 10, 3) := by decide +kernel
theorem dX6_insert_58 : decode cX6_insert 58 = .ok (.iload_n 2, 1) := by decide +kernel
theorem dX6_insert_59 : decode cX6_insert 59 = .ok (.aload_n 1, 1) := by decide +kernel
theorem dX6_insert_60 : decode cX6_insert 60 = .ok (.invokevirtual 37, 3) := by decide +kernel
theorem dX6_insert_63 : decode cX6_insert 63 = .ok (.return_, 1) := by decide +kernel
def f_X6_insert_54 (Z : Nat → Nat) (r0 : Option Nat) (r1 : Option Nat) (x2 : Int32) : Mo Unit := mb (gR 9 3 r0) (fun v55 => mb (mo 2 v55 (f_Jx4a65c_add_7a177 Z v55 x2 r1)) (fun _ => mp ()))
set_option maxRecDepth 100000 in
set_option maxHeartbeats 4000000 in
theorem s_X6_insert_54 {X : Cg} (cx : Cx X cX6_insert RX6 4) (hfr : 6 ≤ (xR X).frames) (hlo : 150 ≤ (xR X).locals) (hr : (xM X).sig.returnType = none) (r0 : Option Nat) (r1 : Option Nat) (x2 : Int32) : Sim X 4 (FiM X vV) 54 [(0, va_rf r0), (1, va_rf r1), (2, .int x2)] [] (f_X6_insert_54 (xZ X) r0 r1 x2) := by
  unfold f_X6_insert_54
  refine sm_aload_n cx 0 dX6_insert_54 rfl rfl ?_
  refine sm_getR cx fl_X6_10 dX6_insert_55 (fun v55 => ?_)
  refine sm_iload_n cx 2 dX6_insert_58 rfl rfl ?_
  refine sm_aload_n cx 1 dX6_insert_59 rfl rfl ?_
  refine sm_callV (T := TJx4a65c) (N := 3) (toV := vV) cx [.int x2, va_rf r1] rfl cv_X6_37 (fun a h => ct_Jx4a65c_add_7a177 (xZ X) a h x2 r1) (Nat.le_trans (by decide) hfr) (Nat.le_trans (by decide) hlo) rfl (cat_le _ (Nat.le_of_ble_eq_true rfl)) dX6_insert_60 (fun _ => ?_)
  exact sm_vret cx hr dX6_insert_63
def f_X6_insert_18 (Z : Nat → Nat) (r0 : Option Nat) (r1 : Option Nat) : Nat → Int32 → Int32 → Mo Unit
  | 0, _, _ => mf
  | n + 1, x2, x3 => (if x3 < 0 then f_X6_insert_54 Z r0 r1 x2 else mb (gR 9 3 r0) (fun v23 => mb (mo 2 v23 (f_Jx4a65c_get_915e3 v23 x3)) (fun v27 => mb (ck 7 v27) (fun _ => mb (gI 7 3 v27) (fun v33 => mb (gI 7 3 r1) (fun v37 => (if v37 < v33 then (f_X6_insert_18 Z r0 r1 n) x3 (x3 + (-1)) else f_X6_insert_54 Z r0 r1 x2)))))))
set_option maxRecDepth 100000 in
set_option maxHeartbeats 4000000 in
theorem s_X6_insert_18 {X : Cg} (cx : Cx X cX6_insert RX6 4) (hfr : 6 ≤ (xR X).frames) (hlo : 150 ≤ (xR X).locals) (hr : (xM X).sig.returnType = none) (r0 : Option Nat) (r1 : Option Nat) : ∀ (n : Nat) (x2 : Int32) (x3 : Int32), Sim X 4 (FiM X vV) 18 [(0, va_rf r0), (1, va_rf r1), (2, .int x2), (3, .int x3)] [] (f_X6_insert_18 (xZ X) r0 r1 n x2 x3) := by
  intro n
  induction n with
  | zero =>
    intro _ _
    exact sm_mf
  | succ n ih =>
    intro x2 x3
    rw [f_X6_insert_18]
    refine sm_iload_n cx 3 dX6_insert_18 rfl rfl ?_
    refine sm_if_lt (tgt := 54) cx dX6_insert_19 (by decide) ?_ ?_
    · exact sm_lv [0, 1, 2] rfl (s_X6_insert_54 cx hfr hlo hr r0 r1 x2)
    · refine sm_aload_n cx 0 dX6_insert_22 rfl rfl ?_
      refine sm_getR cx fl_X6_10 dX6_insert_23 (fun v23 => ?_)
      refine sm_iload_n cx 3 dX6_insert_26 rfl rfl ?_
      refine sm_callV (T := TJx4a65c) (N := 3) (toV := vR) cx [.int x3] rfl cv_X6_28 (fun a h => ct_Jx4a65c_get_915e3 (xZ X) a h x3) (Nat.le_trans (by decide) hfr) (Nat.le_trans (by decide) hlo) rfl (cat_le _ (Nat.le_of_ble_eq_true rfl)) dX6_insert_27 (fun v27 => ?_)
      refine sm_ck (T := TX4) (N := 7) cx rfl wd_3_98 dX6_insert_30 ?_
      refine sm_getI cx fl_X6_34 dX6_insert_33 (fun v33 => ?_)
      refine sm_aload_n cx 1 dX6_insert_36 rfl rfl ?_
      refine sm_getI cx fl_X6_34 dX6_insert_37 (fun v37 => ?_)
      refine sm_icmp_gt (tgt := 46) cx dX6_insert_40 (by decide) ?_ ?_
      · refine sm_iload_n cx 3 dX6_insert_46 rfl rfl ?_
        refine sm_istore_n cx [(2, .int x3), (0, va_rf r0), (1, va_rf r1), (3, .int x3)] dX6_insert_47 rfl (by decide) rfl (nc1 (rf_cat _)) rfl ?_
        refine sm_iinc cx 3 [(3, .int (x3 + (-1))), (2, .int x3), (0, va_rf r0), (1, va_rf r1)] dX6_insert_48 rfl rfl (by decide) rfl (nc1 rfl) rfl ?_
        refine sm_goto (tgt := 18) cx dX6_insert_51 (by decide) ?_
        exact sm_lv [2, 3, 1, 0] rfl (ih x3 (x3 + (-1)))
      · refine sm_goto (tgt := 54) cx dX6_insert_43 (by decide) ?_
        exact sm_lv [0, 1, 2] rfl (s_X6_insert_54 cx hfr hlo hr r0 r1 x2)
def f_X6_insert (Z : Nat → Nat) (r0 : Option Nat) (r1 : Option Nat) : Mo Unit := mb (gR 9 3 r0) (fun v1 => mb (mo 2 v1 (f_Jx4a65c_size_8abf5 v1)) (fun v4 => mb (gR 9 3 r0) (fun v9 => mb (mo 2 v9 (f_Jx4a65c_size_8abf5 v9)) (fun v12 => f_X6_insert_18 Z r0 r1 fuL v4 (v12 - (1 : Int32))))))
set_option maxRecDepth 100000 in
set_option maxHeartbeats 4000000 in
theorem s_X6_insert {X : Cg} (cx : Cx X cX6_insert RX6 4) (hfr : 6 ≤ (xR X).frames) (hlo : 150 ≤ (xR X).locals) (hr : (xM X).sig.returnType = none) (r0 : Option Nat) (r1 : Option Nat) : Sim X 4 (FiM X vV) 0 [(0, va_rf r0), (1, va_rf r1)] [] (f_X6_insert (xZ X) r0 r1) := by
  unfold f_X6_insert
  refine sm_aload_n cx 0 dX6_insert_0 rfl rfl ?_
  refine sm_getR cx fl_X6_10 dX6_insert_1 (fun v1 => ?_)
  refine sm_callV (T := TJx4a65c) (N := 3) (toV := vI) cx [] rfl cv_X6_24 (fun a h => ct_Jx4a65c_size_8abf5 (xZ X) a h) (Nat.le_trans (by decide) hfr) (Nat.le_trans (by decide) hlo) rfl (cat_le _ (Nat.le_of_ble_eq_true rfl)) dX6_insert_4 (fun v4 => ?_)
  refine sm_istore_n cx [(2, .int v4), (0, va_rf r0), (1, va_rf r1)] dX6_insert_7 rfl (by decide) rfl (nc1 (rf_cat _)) rfl ?_
  refine sm_aload_n cx 1 dX6_insert_8 rfl rfl ?_
  refine sm_getR cx fl_X6_10 dX6_insert_9 (fun v9 => ?_)
  refine sm_callV (T := TJx4a65c) (N := 3) (toV := vI) cx [] rfl cv_X6_24 (fun a h => ct_Jx4a65c_size_8abf5 (xZ X) a h) (Nat.le_trans (by decide) hfr) (Nat.le_trans (by decide) hlo) rfl (cat_le _ (Nat.le_of_ble_eq_true rfl)) dX6_insert_12 (fun v12 => ?_)
  refine sm_iconst (v := 1) cx dX6_insert_15 (by decide) ?_
  refine sm_isub cx dX6_insert_16 ?_
  refine sm_istore_n cx [(3, .int (v12 - (1 : Int32))), (2, .int v4), (0, va_rf r0), (1, va_rf r1)] dX6_insert_17 rfl (by decide) rfl (nc1 rfl) rfl ?_
  exact sm_lv [2, 3, 1, 0] rfl (s_X6_insert_18 cx hfr hlo hr r0 r1 fuL v4 (v12 - (1 : Int32)))
set_option maxRecDepth 100000 in
set_option maxHeartbeats 4000000 in
theorem ct_X6_insert (Z : Nat → Nat) {r0 : Option Nat} (a0 : Nat) (h0 : r0 = some a0) (r1 : Option Nat) : Ct yX6_insert cX6_insert 4 none 6 150 Z [.ref a0, va_rf r1] vV (f_X6_insert Z r0 r1) := by
  subst h0
  refine ct_of (lv0 := [(0, va_rf (some a0)), (1, va_rf r1)]) (by decide +kernel) (by simp [lg_sl, ct_i, ct_l, ct_r, rf_cat]) (by show _ = ([(0, Value.ref a0), (1, va_rf r1)] : List (Nat × Value)); simp [lv_args, ct_i, ct_l, ct_r, rf_cat]) (fun X cx hZ hfr hlo hr hin => ?_)
  subst hZ
  exact s_X6_insert cx (Nat.le_of_eq hfr.symm) (Nat.le_of_eq hlo.symm) hr (some a0) r1
/-! PolicyTree$Node.remove(LPolicyTree$Link;)V -/
theorem dX6_remove_0 : decode cX6_remove 0 = .ok (.iconst 0, 1) := by decide +kernel
theorem dX6_remove_1 : decode cX6_remove 1 = .ok (.istore_n 2, 1) := by decide +kernel
theorem dX6_remove_2 : decode cX6_remove 2 = .ok (.iload_n 2, 1) := by decide +kernel
theorem dX6_remove_3 : decode cX6_remove 3 = .ok (.aload_n 0, 1) := by decide +kernel
theorem dX6_remove_4 : decode cX6_remove 4 = .ok (.getfield 10, 3) := by decide +kernel
theorem dX6_remove_7 : decode cX6_remove 7 = .ok (.invokevirtual 24, 3) := by decide +kernel
theorem dX6_remove_10 : decode cX6_remove 10 = .ok (.if_icmp .ge 31, 3) := by decide +kernel
theorem dX6_remove_13 : decode cX6_remove 13 = .ok (.aload_n 0, 1) := by decide +kernel
theorem dX6_remove_14 : decode cX6_remove 14 = .ok (.getfield 10, 3) := by decide +kernel
theorem dX6_remove_17 : decode cX6_remove 17 = .ok (.iload_n 2, 1) := by decide +kernel
theorem dX6_remove_18 : decode cX6_remove 18 = .ok (.invokevirtual 28, 3) := by decide +kernel
theorem dX6_remove_21 : decode cX6_remove 21 = .ok (.aload_n 1, 1) := by decide +kernel
theorem dX6_remove_22 : decode cX6_remove 22 = .ok (.if_acmp .ne 13, 3) := by decide +kernel
theorem dX6_remove_25 : decode cX6_remove 25 = .ok (.aload_n 0, 1) := by decide +kernel
theorem dX6_remove_26 : decode cX6_remove 26 = .ok (.getfield 10, 3) := by decide +kernel
theorem dX6_remove_29 : decode cX6_remove 29 = .ok (.iload_n 2, 1) := by decide +kernel
theorem dX6_remove_30 : decode cX6_remove 30 = .ok (.invokevirtual 41, 3) := by decide +kernel
theorem dX6_remove_33 : decode cX6_remove 33 = .ok (.pop, 1) := by decide +kernel
theorem dX6_remove_34 : decode cX6_remove 34 = .ok (.return_, 1) := by decide +kernel
theorem dX6_remove_35 : decode cX6_remove 35 = .ok (.iinc 2 1, 3) := by decide +kernel
theorem dX6_remove_38 : decode cX6_remove 38 = .ok (.goto (-36), 3) := by decide +kernel
theorem dX6_remove_41 : decode cX6_remove 41 = .ok (.return_, 1) := by decide +kernel
def f_X6_remove_2 (r0 : Option Nat) (r1 : Option Nat) : Nat → Int32 → Mo Unit
  | 0, _ => mf
  | n + 1, x2 => mb (gR 9 3 r0) (fun v4 => mb (mo 2 v4 (f_Jx4a65c_size_8abf5 v4)) (fun v7 => (if v7 ≤ x2 then mp () else mb (gR 9 3 r0) (fun v14 => mb (mo 2 v14 (f_Jx4a65c_get_915e3 v14 x2)) (fun v18 => (if v18 = r1 then mb (gR 9 3 r0) (fun v26 => mb (mo 2 v26 (f_Jx4a65c_remove_915e3 v26 x2)) (fun v30 => mp ())) else (f_X6_remove_2 r0 r1 n) (x2 + 1)))))))
set_option maxRecDepth 100000 in
set_option maxHeartbeats 4000000 in
theorem s_X6_remove_2 {X : Cg} (cx : Cx X cX6_remove RX6 3) (hfr : 3 ≤ (xR X).frames) (hlo : 85 ≤ (xR X).locals) (hr : (xM X).sig.returnType = none) (r0 : Option Nat) (r1 : Option Nat) : ∀ (n : Nat) (x2 : Int32), Sim X 3 (FiM X vV) 2 [(0, va_rf r0), (1, va_rf r1), (2, .int x2)] [] (f_X6_remove_2 r0 r1 n x2) := by
  intro n
  induction n with
  | zero =>
    intro _
    exact sm_mf
  | succ n ih =>
    intro x2
    rw [f_X6_remove_2]
    refine sm_iload_n cx 2 dX6_remove_2 rfl rfl ?_
    refine sm_aload_n cx 0 dX6_remove_3 rfl rfl ?_
    refine sm_getR cx fl_X6_10 dX6_remove_4 (fun v4 => ?_)
    refine sm_callV (T := TJx4a65c) (N := 3) (toV := vI) cx [] rfl cv_X6_24 (fun a h => ct_Jx4a65c_size_8abf5 (xZ X) a h) (Nat.le_trans (by decide) hfr) (Nat.le_trans (by decide) hlo) rfl (cat_le _ (Nat.le_of_ble_eq_true rfl)) dX6_remove_7 (fun v7 => ?_)
    refine sm_icmp_ge (tgt := 41) cx dX6_remove_10 (by decide) ?_ ?_
    · exact sm_vret cx hr dX6_remove_41
    · refine sm_aload_n cx 0 dX6_remove_13 rfl rfl ?_
      refine sm_getR cx fl_X6_10 dX6_remove_14 (fun v14 => ?_)
      refine sm_iload_n cx 2 dX6_remove_17 rfl rfl ?_
      refine sm_callV (T := TJx4a65c) (N := 3) (toV := vR) cx [.int x2] rfl cv_X6_28 (fun a h => ct_Jx4a65c_get_915e3 (xZ X) a h x2) (Nat.le_trans (by decide) hfr) (Nat.le_trans (by decide) hlo) rfl (cat_le _ (Nat.le_of_ble_eq_true rfl)) dX6_remove_18 (fun v18 => ?_)
      refine sm_aload_n cx 1 dX6_remove_21 rfl rfl ?_
      refine sm_acmp_ne (tgt := 35) cx dX6_remove_22 (by decide) ?_ ?_
      · refine sm_iinc cx 2 [(2, .int (x2 + 1)), (0, va_rf r0), (1, va_rf r1)] dX6_remove_35 rfl rfl (by decide) rfl (nc1 (rf_cat _)) rfl ?_
        refine sm_goto (tgt := 2) cx dX6_remove_38 (by decide) ?_
        exact sm_lv [1, 2, 0] rfl (ih (x2 + 1))
      · refine sm_aload_n cx 0 dX6_remove_25 rfl rfl ?_
        refine sm_getR cx fl_X6_10 dX6_remove_26 (fun v26 => ?_)
        refine sm_iload_n cx 2 dX6_remove_29 rfl rfl ?_
        refine sm_callV (T := TJx4a65c) (N := 3) (toV := vR) cx [.int x2] rfl cv_X6_41 (fun a h => ct_Jx4a65c_remove_915e3 (xZ X) a h x2) (Nat.le_trans (by decide) hfr) (Nat.le_trans (by decide) hlo) rfl (cat_le _ (Nat.le_of_ble_eq_true rfl)) dX6_remove_30 (fun v30 => ?_)
        refine sm_pop cx dX6_remove_33 (rf_cat _) ?_
        exact sm_vret cx hr dX6_remove_34
def f_X6_remove (r0 : Option Nat) (r1 : Option Nat) : Mo Unit := f_X6_remove_2 r0 r1 fuL (0 : Int32)
set_option maxRecDepth 100000 in
set_option maxHeartbeats 4000000 in
theorem s_X6_remove {X : Cg} (cx : Cx X cX6_remove RX6 3) (hfr : 3 ≤ (xR X).frames) (hlo : 85 ≤ (xR X).locals) (hr : (xM X).sig.returnType = none) (r0 : Option Nat) (r1 : Option Nat) : Sim X 3 (FiM X vV) 0 [(0, va_rf r0), (1, va_rf r1)] [] (f_X6_remove r0 r1) := by
  unfold f_X6_remove
  refine sm_iconst (v := 0) cx dX6_remove_0 (by decide) ?_
  refine sm_istore_n cx [(2, .int (0 : Int32)), (0, va_rf r0), (1, va_rf r1)] dX6_remove_1 rfl (by decide) rfl (nc1 (rf_cat _)) rfl ?_
  exact sm_lv [1, 2, 0] rfl (s_X6_remove_2 cx hfr hlo hr r0 r1 fuL (0 : Int32))
set_option maxRecDepth 100000 in
set_option maxHeartbeats 4000000 in
theorem ct_X6_remove (Z : Nat → Nat) {r0 : Option Nat} (a0 : Nat) (h0 : r0 = some a0) (r1 : Option Nat) : Ct yX6_remove cX6_remove 3 none 3 85 Z [.ref a0, va_rf r1] vV (f_X6_remove r0 r1) := by
  subst h0
  refine ct_of (lv0 := [(0, va_rf (some a0)), (1, va_rf r1)]) (by decide +kernel) (by simp [lg_sl, ct_i, ct_l, ct_r, rf_cat]) (by show _ = ([(0, Value.ref a0), (1, va_rf r1)] : List (Nat × Value)); simp [lv_args, ct_i, ct_l, ct_r, rf_cat]) (fun X cx hZ hfr hlo hr hin => ?_)
  subst hZ
  exact s_X6_remove cx (Nat.le_of_eq hfr.symm) (Nat.le_of_eq hlo.symm) hr (some a0) r1
/-! PolicyTree$Tape.<init>()V -/
theorem dX10_init_0 : decode cX10_init 0 = .ok (.aload_n 0, 1) := by decide +kernel
theorem dX10_init_1 : decode cX10_init 1 = .ok (.invokespecial 3, 3) := by decide +kernel
theorem dX10_init_4 : decode cX10_init 4 = .ok (.aload_n 0, 1) := by decide +kernel
theorem dX10_init_5 : decode cX10_init 5 = .ok (.sipush 200, 3) := by decide +kernel
theorem dX10_init_8 : decode cX10_init 8 = .ok (.newarray .byte, 2) := by decide +kernel
theorem dX10_init_10 : decode cX10_init 10 = .ok (.putfield 11, 3) := by decide +kernel
theorem dX10_init_13 : decode cX10_init 13 = .ok (.return_, 1) := by decide +kernel
def f_X10_init (r0 : Option Nat) : Mo Unit := mb (mo 13 r0 (mp ())) (fun _ => mb (nA 0 (200 : Int32)) (fun v8 => mb (pV 13 0 r0 (va_rf v8)) (fun _ => mp ())))
set_option maxRecDepth 100000 in
set_option maxHeartbeats 4000000 in
theorem s_X10_init {X : Cg} (cx : Cx X cX10_init RX10 1) (hfr : 1 ≤ (xR X).frames) (hlo : 12 ≤ (xR X).locals) (hr : (xM X).sig.returnType = none) (hin : (xM X).name = "<init>") (r0 : Option Nat) : Sim X 1 (FiM X vV) 0 [(0, va_rf r0)] [] (f_X10_init r0) := by
  unfold f_X10_init
  refine sm_aload_n cx 0 dX10_init_0 rfl rfl ?_
  refine sm_obj (ci := 13) cx wd_1_92 wd_1_41 wd_1_42 (Nat.le_trans (by decide) hfr) (Nat.le_trans (by decide) hlo) dX10_init_1 rfl ?_
  refine sm_aload_n cx 0 dX10_init_4 rfl rfl ?_
  refine sm_sipush (v := 200) cx dX10_init_5 (by decide) ?_
  refine sm_newa0 cx dX10_init_8 (fun v8 => ?_)
  refine sm_putF cx hin fl_X10_11 (nr_ra _) (ft_ra _) dX10_init_10 ?_
  exact sm_vret cx hr dX10_init_13
set_option maxRecDepth 100000 in
set_option maxHeartbeats 4000000 in
theorem ct_X10_init (Z : Nat → Nat) {r0 : Option Nat} (a0 : Nat) (h0 : r0 = some a0) : Ct yX10_init cX10_init 1 none 1 12 Z [.ref a0] vV (f_X10_init r0) := by
  subst h0
  refine ct_of (lv0 := [(0, va_rf (some a0))]) (by decide +kernel) (by simp [lg_sl, ct_i, ct_l, ct_r, rf_cat]) (by show _ = ([(0, Value.ref a0)] : List (Nat × Value)); simp [lv_args, ct_i, ct_l, ct_r, rf_cat]) (fun X cx hZ hfr hlo hr hin => ?_)
  subst hZ
  exact s_X10_init cx (Nat.le_of_eq hfr.symm) (Nat.le_of_eq hlo.symm) hr hin (some a0)
/-! PolicyTree$Tape.size()I -/
theorem dX10_size_0 : decode cX10_size 0 = .ok (.aload_n 0, 1) := by decide +kernel
theorem dX10_size_1 : decode cX10_size 1 = .ok (.getfield 15, 3) := by decide +kernel
theorem dX10_size_4 : decode cX10_size 4 = .ok (.ireturn, 1) := by decide +kernel
def f_X10_size (r0 : Option Nat) : Mo Int32 := mb (gI 13 1 r0) (fun v1 => mp v1)
set_option maxRecDepth 100000 in
set_option maxHeartbeats 4000000 in
theorem s_X10_size {X : Cg} (cx : Cx X cX10_size RX10 1) (hfr : 0 ≤ (xR X).frames) (hlo : 0 ≤ (xR X).locals) (hr : (xM X).sig.returnType = (some .int)) (r0 : Option Nat) : Sim X 1 (FiM X vI) 0 [(0, va_rf r0)] [] (f_X10_size r0) := by
  unfold f_X10_size
  refine sm_aload_n cx 0 dX10_size_0 rfl rfl ?_
  refine sm_getI cx fl_X10_15 dX10_size_1 (fun v1 => ?_)
  exact sm_iret cx hr dX10_size_4
set_option maxRecDepth 100000 in
set_option maxHeartbeats 4000000 in
theorem ct_X10_size (Z : Nat → Nat) {r0 : Option Nat} (a0 : Nat) (h0 : r0 = some a0) : Ct yX10_size cX10_size 1 (some .int) 0 0 Z [.ref a0] vI (f_X10_size r0) := by
  subst h0
  refine ct_of (lv0 := [(0, va_rf (some a0))]) (by decide +kernel) (by simp [lg_sl, ct_i, ct_l, ct_r, rf_cat]) (by show _ = ([(0, Value.ref a0)] : List (Nat × Value)); simp [lv_args, ct_i, ct_l, ct_r, rf_cat]) (fun X cx hZ hfr hlo hr hin => ?_)
  subst hZ
  exact s_X10_size cx (Nat.le_of_eq hfr.symm) (Nat.le_of_eq hlo.symm) hr (some a0)
/-! PolicyTree$Tape.hasRoom(I)Z -/
theorem dX10_hasRoom_0 : decode cX10_hasRoom 0 = .ok (.aload_n 0, 1) := by decide +kernel
theorem dX10_hasRoom_1 : decode cX10_hasRoom 1 = .ok (.getfield 15, 3) := by decide +kernel
theorem dX10_hasRoom_4 : decode cX10_hasRoom 4 = .ok (.iload_n 1, 1) := by decide +kernel
theorem dX10_hasRoom_5 : decode cX10_hasRoom 5 = .ok (.iadd, 1) := by decide +kernel
theorem dX10_hasRoom_6 : decode cX10_hasRoom 6 = .ok (.sipush 200, 3) := by decide +kernel
theorem dX10_hasRoom_9 : decode cX10_hasRoom 9 = .ok (.if_icmp .gt 7, 3) := by decide +kernel
theorem dX10_hasRoom_12 : decode cX10_hasRoom 12 = .ok (.iconst 1, 1) := by decide +kernel
theorem dX10_hasRoom_13 : decode cX10_hasRoom 13 = .ok (.goto 4, 3) := by decide +kernel
theorem dX10_hasRoom_16 : decode cX10_hasRoom 16 = .ok (.iconst 0, 1) := by decide +kernel
theorem dX10_hasRoom_17 : decode cX10_hasRoom 17 = .ok (.ireturn, 1) := by decide +kernel
def f_X10_hasRoom_17 (sx0 : Int32) : Mo Int32 := rz .boolean sx0
set_option maxRecDepth 100000 in
set_option maxHeartbeats 4000000 in
theorem s_X10_hasRoom_17 {X : Cg} (cx : Cx X cX10_hasRoom RX10 2) (hfr : 0 ≤ (xR X).frames) (hlo : 0 ≤ (xR X).locals) (hr : (xM X).sig.returnType = (some .boolean)) (sx0 : Int32) : Sim X 2 (FiM X vI) 17 [] [.int sx0] (f_X10_hasRoom_17 sx0) := by
  unfold f_X10_hasRoom_17
  exact sm_zret cx hr dX10_hasRoom_17
def f_X10_hasRoom (r0 : Option Nat) (x1 : Int32) : Mo Int32 := mb (gI 13 1 r0) (fun v1 => (if (200 : Int32) < (v1 + x1) then f_X10_hasRoom_17 (0 : Int32) else f_X10_hasRoom_17 (1 : Int32)))
set_option maxRecDepth 100000 in
set_option maxHeartbeats 4000000 in
theorem s_X10_hasRoom {X : Cg} (cx : Cx X cX10_hasRoom RX10 2) (hfr : 0 ≤ (xR X).frames) (hlo : 0 ≤ (xR X).locals) (hr : (xM X).sig.returnType = (some .boolean)) (r0 : Option Nat) (x1 : Int32) : Sim X 2 (FiM X vI) 0 [(0, va_rf r0), (1, .int x1)] [] (f_X10_hasRoom r0 x1) := by
  unfold f_X10_hasRoom
  refine sm_aload_n cx 0 dX10_hasRoom_0 rfl rfl ?_
  refine sm_getI cx fl_X10_15 dX10_hasRoom_1 (fun v1 => ?_)
  refine sm_iload_n cx 1 dX10_hasRoom_4 rfl rfl ?_
  refine sm_iadd cx dX10_hasRoom_5 ?_
  refine sm_sipush (v := 200) cx dX10_hasRoom_6 (by decide) ?_
  refine sm_icmp_gt (tgt := 16) cx dX10_hasRoom_9 (by decide) ?_ ?_
  · refine sm_iconst (v := 0) cx dX10_hasRoom_16 (by decide) ?_
    exact sm_lv [] rfl (s_X10_hasRoom_17 cx hfr hlo hr (0 : Int32))
  · refine sm_iconst (v := 1) cx dX10_hasRoom_12 (by decide) ?_
    refine sm_goto (tgt := 17) cx dX10_hasRoom_13 (by decide) ?_
    exact sm_lv [] rfl (s_X10_hasRoom_17 cx hfr hlo hr (1 : Int32))
set_option maxRecDepth 100000 in
set_option maxHeartbeats 4000000 in
theorem ct_X10_hasRoom (Z : Nat → Nat) {r0 : Option Nat} (a0 : Nat) (h0 : r0 = some a0) (x1 : Int32) : Ct yX10_hasRoom cX10_hasRoom 2 (some .boolean) 0 0 Z [.ref a0, .int x1] vI (f_X10_hasRoom r0 x1) := by
  subst h0
  refine ct_of (lv0 := [(0, va_rf (some a0)), (1, .int x1)]) (by decide +kernel) (by simp [lg_sl, ct_i, ct_l, ct_r, rf_cat]) (by show _ = ([(0, Value.ref a0), (1, .int x1)] : List (Nat × Value)); simp [lv_args, ct_i, ct_l, ct_r, rf_cat]) (fun X cx hZ hfr hlo hr hin => ?_)
  subst hZ
  exact s_X10_hasRoom cx (Nat.le_of_eq hfr.symm) (Nat.le_of_eq hlo.symm) hr (some a0) x1
/-! PolicyTree$Tape.addNumber(I)V -/
theorem dX10_addNumber_0 : decode cX10_addNumber 0 = .ok (.bipush 24, 2) := by decide +kernel
theorem dX10_addNumber_2 : decode cX10_addNumber 2 = .ok (.istore_n 2, 1) := by decide +kernel
theorem dX10_addNumber_3 : decode cX10_addNumber 3 = .ok (.iload_n 2, 1) := by decide +kernel
theorem dX10_addNumber_4 : decode cX10_addNumber 4 = .ok (.ifCond .lt 51, 3) := by decide +kernel
theorem dX10_addNumber_7 : decode cX10_addNumber 7 = .ok (.aload_n 0, 1) := by decide +kernel
theorem dX10_addNumber_8 : decode cX10_addNumber 8 = .ok (.getfield 15, 3) := by decide +kernel
theorem dX10_addNumber_11 : decode cX10_addNumber 11 = .ok (.ifCond .lt 38, 3) := by decide +kernel
theorem dX10_addNumber_14 : decode cX10_addNumber 14 = .ok (.aload_n 0, 1) := by decide +kernel
theorem dX10_addNumber_15 : decode cX10_addNumber 15 = .ok (.getfield 15, 3) := by decide +kernel
theorem dX10_addNumber_18 : decode cX10_addNumber 18 = .ok (.aload_n 0, 1) := by decide +kernel
theorem dX10_addNumber_19 : decode cX10_addNumber 19 = .ok (.getfield 11, 3) := by decide +kernel
theorem dX10_addNumber_22 : decode cX10_addNumber 22 = .ok (.arraylength, 1) := by decide +kernel
theorem dX10_addNumber_23 : decode cX10_addNumber 23 = .ok (.if_icmp .ge 26, 3) := by decide +kernel
theorem dX10_addNumber_26 : decode cX10_addNumber 26 = .ok (.aload_n 0, 1) := by decide +kernel
theorem dX10_addNumber_27 : decode cX10_addNumber 27 = .ok (.getfield 11, 3) := by decide +kernel
theorem dX10_addNumber_30 : decode cX10_addNumber 30 = .ok (.aload_n 0, 1) := by decide +kernel
theorem dX10_addNumber_31 : decode cX10_addNumber 31 = .ok (.getfield 15, 3) := by decide +kernel
theorem dX10_addNumber_34 : decode cX10_addNumber 34 = .ok (.iload_n 1, 1) := by decide +kernel
theorem dX10_addNumber_35 : decode cX10_addNumber 35 = .ok (.iload_n 2, 1) := by decide +kernel
theorem dX10_addNumber_36 : decode cX10_addNumber 36 = .ok (.iushr, 1) := by decide +kernel
theorem dX10_addNumber_37 : decode cX10_addNumber 37 = .ok (.i2b, 1) := by decide +kernel
theorem dX10_addNumber_38 : decode cX10_addNumber 38 = .ok (.bastore, 1) := by decide +kernel
theorem dX10_addNumber_39 : decode cX10_addNumber 39 = .ok (.aload_n 0, 1) := by decide +kernel
theorem dX10_addNumber_40 : decode cX10_addNumber 40 = .ok (.dup, 1) := by decide +kernel
theorem dX10_addNumber_41 : decode cX10_addNumber 41 = .ok (.getfield 15, 3) := by decide +kernel
theorem dX10_addNumber_44 : decode cX10_addNumber 44 = .ok (.iconst 1, 1) := by decide +kernel
theorem dX10_addNumber_45 : decode cX10_addNumber 45 = .ok (.iadd, 1) := by decide +kernel
theorem dX10_addNumber_46 : decode cX10_addNumber 46 = .ok (.putfield 15, 3) := by decide +kernel
theorem dX10_addNumber_49 : decode cX10_addNumber 49 = .ok (.iinc 2 (-8), 3) := by decide +kernel
theorem dX10_addNumber_52 : decode cX10_addNumber 52 = .ok (.goto (-49), 3) := by decide +kernel
theorem dX10_addNumber_55 : decode cX10_addNumber 55 = .ok (.return_, 1) := by decide +kernel
def f_X10_addNumber_49 (k3 : Int32 → Mo Unit) (r0 : Option Nat) (x1 : Int32) (x2 : Int32) : Mo Unit := k3 (x2 + (-8))
set_option maxRecDepth 100000 in
set_option maxHeartbeats 4000000 in
theorem s_X10_addNumber_49 {X : Cg} (cx : Cx X cX10_addNumber RX10 3) (hfr : 0 ≤ (xR X).frames) (hlo : 0 ≤ (xR X).locals) (hr : (xM X).sig.returnType = none) (r0 : Option Nat) (x1 : Int32) (x2 : Int32) {k3 : Int32 → Mo Unit} (hk3 : ∀ (x2 : Int32), Sim X 3 (FiM X vV) 3 [(0, va_rf r0), (1, .int x1), (2, .int x2)] [] (k3 x2)) : Sim X 3 (FiM X vV) 49 [(0, va_rf r0), (1, .int x1), (2, .int x2)] [] (f_X10_addNumber_49 k3 r0 x1 x2) := by
  unfold f_X10_addNumber_49
  refine sm_iinc cx 2 [(2, .int (x2 + (-8))), (0, va_rf r0), (1, .int x1)] dX10_addNumber_49 rfl rfl (by decide) rfl (nc1 rfl) rfl ?_
  refine sm_goto (tgt := 3) cx dX10_addNumber_52 (by decide) ?_
  exact sm_lv [1, 2, 0] rfl (hk3 (x2 + (-8)))
def f_X10_addNumber_3 (r0 : Option Nat) (x1 : Int32) : Nat → Int32 → Mo Unit
  | 0, _ => mf
  | n + 1, x2 => (if x2 < 0 then mp () else mb (gI 13 1 r0) (fun v8 => (if v8 < 0 then f_X10_addNumber_49 (f_X10_addNumber_3 r0 x1 n) r0 x1 x2 else mb (gI 13 1 r0) (fun v15 => mb (gR 13 0 r0) (fun v19 => mb (aN 0 v19) (fun v22 => (if v22 ≤ v15 then f_X10_addNumber_49 (f_X10_addNumber_3 r0 x1 n) r0 x1 x2 else mb (gR 13 0 r0) (fun v27 => mb (gI 13 1 r0) (fun v31 => mb (sI 0 v27 v31 (Int8.toInt32 (Int32.toInt8 (jSh x1 x2)))) (fun _ => mb (gI 13 1 r0) (fun v41 => mb (pV 13 1 r0 (.int (v41 + (1 : Int32)))) (fun _ => f_X10_addNumber_49 (f_X10_addNumber_3 r0 x1 n) r0 x1 x2))))))))))))
set_option maxRecDepth 100000 in
set_option maxHeartbeats 4000000 in
theorem s_X10_addNumber_3 {X : Cg} (cx : Cx X cX10_addNumber RX10 3) (hfr : 0 ≤ (xR X).frames) (hlo : 0 ≤ (xR X).locals) (hr : (xM X).sig.returnType = none) (r0 : Option Nat) (x1 : Int32) : ∀ (n : Nat) (x2 : Int32), Sim X 3 (FiM X vV) 3 [(0, va_rf r0), (1, .int x1), (2, .int x2)] [] (f_X10_addNumber_3 r0 x1 n x2) := by
  intro n
  induction n with
  | zero =>
    intro _
    exact sm_mf
  | succ n ih =>
    intro x2
    rw [f_X10_addNumber_3]
    refine sm_iload_n cx 2 dX10_addNumber_3 rfl rfl ?_
    refine sm_if_lt (tgt := 55) cx dX10_addNumber_4 (by decide) ?_ ?_
    · exact sm_vret cx hr dX10_addNumber_55
    · refine sm_aload_n cx 0 dX10_addNumber_7 rfl rfl ?_
      refine sm_getI cx fl_X10_15 dX10_addNumber_8 (fun v8 => ?_)
      refine sm_if_lt (tgt := 49) cx dX10_addNumber_11 (by decide) ?_ ?_
      · exact sm_lv [0, 1, 2] rfl (s_X10_addNumber_49 cx hfr hlo hr r0 x1 x2 ih)
      · refine sm_aload_n cx 0 dX10_addNumber_14 rfl rfl ?_
        refine sm_getI cx fl_X10_15 dX10_addNumber_15 (fun v15 => ?_)
        refine sm_aload_n cx 0 dX10_addNumber_18 rfl rfl ?_
        refine sm_getR cx fl_X10_11 dX10_addNumber_19 (fun v19 => ?_)
        refine sm_alen cx 0 (by decide) dX10_addNumber_22 (fun v22 => ?_)
        refine sm_icmp_ge (tgt := 49) cx dX10_addNumber_23 (by decide) ?_ ?_
        · exact sm_lv [0, 1, 2] rfl (s_X10_addNumber_49 cx hfr hlo hr r0 x1 x2 ih)
        · refine sm_aload_n cx 0 dX10_addNumber_26 rfl rfl ?_
          refine sm_getR cx fl_X10_11 dX10_addNumber_27 (fun v27 => ?_)
          refine sm_aload_n cx 0 dX10_addNumber_30 rfl rfl ?_
          refine sm_getI cx fl_X10_15 dX10_addNumber_31 (fun v31 => ?_)
          refine sm_iload_n cx 1 dX10_addNumber_34 rfl rfl ?_
          refine sm_iload_n cx 2 dX10_addNumber_35 rfl rfl ?_
          refine sm_iushr cx dX10_addNumber_36 ?_
          refine sm_i2b cx dX10_addNumber_37 ?_
          refine sm_bast cx dX10_addNumber_38 ?_
          refine sm_aload_n cx 0 dX10_addNumber_39 rfl rfl ?_
          refine sm_dup cx dX10_addNumber_40 (rf_cat _) ?_
          refine sm_getI cx fl_X10_15 dX10_addNumber_41 (fun v41 => ?_)
          refine sm_iconst (v := 1) cx dX10_addNumber_44 (by decide) ?_
          refine sm_iadd cx dX10_addNumber_45 ?_
          refine sm_putV cx fl_X10_15 rfl rfl dX10_addNumber_46 ?_
          exact sm_lv [0, 1, 2] rfl (s_X10_addNumber_49 cx hfr hlo hr r0 x1 x2 ih)
def f_X10_addNumber (r0 : Option Nat) (x1 : Int32) : Mo Unit := f_X10_addNumber_3 r0 x1 fuL (24 : Int32)
set_option maxRecDepth 100000 in
set_option maxHeartbeats 4000000 in
theorem s_X10_addNumber {X : Cg} (cx : Cx X cX10_addNumber RX10 3) (hfr : 0 ≤ (xR X).frames) (hlo : 0 ≤ (xR X).locals) (hr : (xM X).sig.returnType = none) (r0 : Option Nat) (x1 : Int32) : Sim X 3 (FiM X vV) 0 [(0, va_rf r0), (1, .int x1)] [] (f_X10_addNumber r0 x1) := by
  unfold f_X10_addNumber
  refine sm_bipush (v := 24) cx dX10_addNumber_0 (by decide) ?_
  refine sm_istore_n cx [(2, .int (24 : Int32)), (0, va_rf r0), (1, .int x1)] dX10_addNumber_2 rfl (by decide) rfl (nc1 rfl) rfl ?_
  exact sm_lv [1, 2, 0] rfl (s_X10_addNumber_3 cx hfr hlo hr r0 x1 fuL (24 : Int32))
set_option maxRecDepth 100000 in
set_option maxHeartbeats 4000000 in
theorem ct_X10_addNumber (Z : Nat → Nat) {r0 : Option Nat} (a0 : Nat) (h0 : r0 = some a0) (x1 : Int32) : Ct yX10_addNumber cX10_addNumber 3 none 0 0 Z [.ref a0, .int x1] vV (f_X10_addNumber r0 x1) := by
  subst h0
  refine ct_of (lv0 := [(0, va_rf (some a0)), (1, .int x1)]) (by decide +kernel) (by simp [lg_sl, ct_i, ct_l, ct_r, rf_cat]) (by show _ = ([(0, Value.ref a0), (1, .int x1)] : List (Nat × Value)); simp [lv_args, ct_i, ct_l, ct_r, rf_cat]) (fun X cx hZ hfr hlo hr hin => ?_)
  subst hZ
  exact s_X10_addNumber cx (Nat.le_of_eq hfr.symm) (Nat.le_of_eq hlo.symm) hr (some a0) x1
/-! PolicyTree$Tape.byteAt(I)I -/
theorem dX10_byteAt_0 : decode cX10_byteAt 0 = .ok (.iload_n 1, 1) := by decide +kernel
theorem dX10_byteAt_1 : decode cX10_byteAt 1 = .ok (.ifCond .lt 33, 3) := by decide +kernel
theorem dX10_byteAt_4 : decode cX10_byteAt 4 = .ok (.iload_n 1, 1) := by decide +kernel
theorem dX10_byteAt_5 : decode cX10_byteAt 5 = .ok (.aload_n 0, 1) := by decide +kernel
theorem dX10_byteAt_6 : decode cX10_byteAt 6 = .ok (.getfield 15, 3) := by decide +kernel
theorem dX10_byteAt_9 : decode cX10_byteAt 9 = .ok (.if_icmp .ge 25, 3) := by decide +kernel
theorem dX10_byteAt_12 : decode cX10_byteAt 12 = .ok (.iload_n 1, 1) := by decide +kernel
theorem dX10_byteAt_13 : decode cX10_byteAt 13 = .ok (.aload_n 0, 1) := by decide +kernel
theorem dX10_byteAt_14 : decode cX10_byteAt 14 = .ok (.getfield 11, 3) := by decide +kernel
theorem dX10_byteAt_17 : decode cX10_byteAt 17 = .ok (.arraylength, 1) := by decide +kernel
theorem dX10_byteAt_18 : decode cX10_byteAt 18 = .ok (.if_icmp .ge 16, 3) := by decide +kernel
theorem dX10_byteAt_21 : decode cX10_byteAt 21 = .ok (.aload_n 0, 1) := by decide +kernel
theorem dX10_byteAt_22 : decode cX10_byteAt 22 = .ok (.getfield 11, 3) := by decide +kernel
theorem dX10_byteAt_25 : decode cX10_byteAt 25 = .ok (.iload_n 1, 1) := by decide +kernel
theorem dX10_byteAt_26 : decode cX10_byteAt 26 = .ok (.baload, 1) := by decide +kernel
theorem dX10_byteAt_27 : decode cX10_byteAt 27 = .ok (.sipush 255, 3) := by decide +kernel
theorem dX10_byteAt_30 : decode cX10_byteAt 30 = .ok (.iand, 1) := by decide +kernel
theorem dX10_byteAt_31 : decode cX10_byteAt 31 = .ok (.goto 4, 3) := by decide +kernel
theorem dX10_byteAt_34 : decode cX10_byteAt 34 = .ok (.iconst (-1), 1) := by decide +kernel
theorem dX10_byteAt_35 : decode cX10_byteAt 35 = .ok (.ireturn, 1) := by decide +kernel
def f_X10_byteAt_35 (sx0 : Int32) : Mo Int32 := mp sx0
set_option maxRecDepth 100000 in
set_option maxHeartbeats 4000000 in
theorem s_X10_byteAt_35 {X : Cg} (cx : Cx X cX10_byteAt RX10 2) (hfr : 0 ≤ (xR X).frames) (hlo : 0 ≤ (xR X).locals) (hr : (xM X).sig.returnType = (some .int)) (sx0 : Int32) : Sim X 2 (FiM X vI) 35 [] [.int sx0] (f_X10_byteAt_35 sx0) := by
  unfold f_X10_byteAt_35
  exact sm_iret cx hr dX10_byteAt_35
def f_X10_byteAt_34 : Mo Int32 := f_X10_byteAt_35 (-1 : Int32)
set_option maxRecDepth 100000 in
set_option maxHeartbeats 4000000 in
theorem s_X10_byteAt_34 {X : Cg} (cx : Cx X cX10_byteAt RX10 2) (hfr : 0 ≤ (xR X).frames) (hlo : 0 ≤ (xR X).locals) (hr : (xM X).sig.returnType = (some .int)) : Sim X 2 (FiM X vI) 34 [] [] (f_X10_byteAt_34) := by
  unfold f_X10_byteAt_34
  refine sm_iconst (v := -1) cx dX10_byteAt_34 (by decide) ?_
  exact sm_lv [] rfl (s_X10_byteAt_35 cx hfr hlo hr (-1 : Int32))
def f_X10_byteAt (r0 : Option Nat) (x1 : Int32) : Mo Int32 := (if x1 < 0 then f_X10_byteAt_34 else mb (gI 13 1 r0) (fun v6 => (if v6 ≤ x1 then f_X10_byteAt_34 else mb (gR 13 0 r0) (fun v14 => mb (aN 0 v14) (fun v17 => (if v17 ≤ x1 then f_X10_byteAt_34 else mb (gR 13 0 r0) (fun v22 => mb (aI 0 v22 x1) (fun v26 => f_X10_byteAt_35 (v26 &&& (255 : Int32))))))))))
set_option maxRecDepth 100000 in
set_option maxHeartbeats 4000000 in
theorem s_X10_byteAt {X : Cg} (cx : Cx X cX10_byteAt RX10 2) (hfr : 0 ≤ (xR X).frames) (hlo : 0 ≤ (xR X).locals) (hr : (xM X).sig.returnType = (some .int)) (r0 : Option Nat) (x1 : Int32) : Sim X 2 (FiM X vI) 0 [(0, va_rf r0), (1, .int x1)] [] (f_X10_byteAt r0 x1) := by
  unfold f_X10_byteAt
  refine sm_iload_n cx 1 dX10_byteAt_0 rfl rfl ?_
  refine sm_if_lt (tgt := 34) cx dX10_byteAt_1 (by decide) ?_ ?_
  · exact sm_lv [] rfl (s_X10_byteAt_34 cx hfr hlo hr)
  · refine sm_iload_n cx 1 dX10_byteAt_4 rfl rfl ?_
    refine sm_aload_n cx 0 dX10_byteAt_5 rfl rfl ?_
    refine sm_getI cx fl_X10_15 dX10_byteAt_6 (fun v6 => ?_)
    refine sm_icmp_ge (tgt := 34) cx dX10_byteAt_9 (by decide) ?_ ?_
    · exact sm_lv [] rfl (s_X10_byteAt_34 cx hfr hlo hr)
    · refine sm_iload_n cx 1 dX10_byteAt_12 rfl rfl ?_
      refine sm_aload_n cx 0 dX10_byteAt_13 rfl rfl ?_
      refine sm_getR cx fl_X10_11 dX10_byteAt_14 (fun v14 => ?_)
      refine sm_alen cx 0 (by decide) dX10_byteAt_17 (fun v17 => ?_)
      refine sm_icmp_ge (tgt := 34) cx dX10_byteAt_18 (by decide) ?_ ?_
      · exact sm_lv [] rfl (s_X10_byteAt_34 cx hfr hlo hr)
      · refine sm_aload_n cx 0 dX10_byteAt_21 rfl rfl ?_
        refine sm_getR cx fl_X10_11 dX10_byteAt_22 (fun v22 => ?_)
        refine sm_iload_n cx 1 dX10_byteAt_25 rfl rfl ?_
        refine sm_bald cx dX10_byteAt_26 (fun v26 => ?_)
        refine sm_sipush (v := 255) cx dX10_byteAt_27 (by decide) ?_
        refine sm_iand cx dX10_byteAt_30 ?_
        refine sm_goto (tgt := 35) cx dX10_byteAt_31 (by decide) ?_
        exact sm_lv [] rfl (s_X10_byteAt_35 cx hfr hlo hr (v26 &&& (255 : Int32)))
set_option maxRecDepth 100000 in
set_option maxHeartbeats 4000000 in
theorem ct_X10_byteAt (Z : Nat → Nat) {r0 : Option Nat} (a0 : Nat) (h0 : r0 = some a0) (x1 : Int32) : Ct yX10_byteAt cX10_byteAt 2 (some .int) 0 0 Z [.ref a0, .int x1] vI (f_X10_byteAt r0 x1) := by
  subst h0
  refine ct_of (lv0 := [(0, va_rf (some a0)), (1, .int x1)]) (by decide +kernel) (by simp [lg_sl, ct_i, ct_l, ct_r, rf_cat]) (by show _ = ([(0, Value.ref a0), (1, .int x1)] : List (Nat × Value)); simp [lv_args, ct_i, ct_l, ct_r, rf_cat]) (fun X cx hZ hfr hlo hr hin => ?_)
  subst hZ
  exact s_X10_byteAt cx (Nat.le_of_eq hfr.symm) (Nat.le_of_eq hlo.symm) hr (some a0) x1
/-! PolicyTree$Tape.clear()V -/
theorem dX10_clear_0 : decode cX10_clear 0 = .ok (.aload_n 0, 1) := by decide +kernel
theorem dX10_clear_1 : decode cX10_clear 1 = .ok (.iconst 0, 1) := by decide +kernel
theorem dX10_clear_2 : decode cX10_clear 2 = .ok (.putfield 15, 3) := by decide +kernel
theorem dX10_clear_5 : decode cX10_clear 5 = .ok (.return_, 1) := by decide +kernel
def f_X10_clear (r0 : Option Nat) : Mo Unit := mb (pV 13 1 r0 (.int (0 : Int32))) (fun _ => mp ())
set_option maxRecDepth 100000 in
set_option maxHeartbeats 4000000 in
theorem s_X10_clear {X : Cg} (cx : Cx X cX10_clear RX10 1) (hfr : 0 ≤ (xR X).frames) (hlo : 0 ≤ (xR X).locals) (hr : (xM X).sig.returnType = none) (r0 : Option Nat) : Sim X 1 (FiM X vV) 0 [(0, va_rf r0)] [] (f_X10_clear r0) := by
  unfold f_X10_clear
  refine sm_aload_n cx 0 dX10_clear_0 rfl rfl ?_
  refine sm_iconst (v := 0) cx dX10_clear_1 (by decide) ?_
  refine sm_putV cx fl_X10_15 rfl rfl dX10_clear_2 ?_
  exact sm_vret cx hr dX10_clear_5
set_option maxRecDepth 100000 in
set_option maxHeartbeats 4000000 in
theorem ct_X10_clear (Z : Nat → Nat) {r0 : Option Nat} (a0 : Nat) (h0 : r0 = some a0) : Ct yX10_clear cX10_clear 1 none 0 0 Z [.ref a0] vV (f_X10_clear r0) := by
  subst h0
  refine ct_of (lv0 := [(0, va_rf (some a0))]) (by decide +kernel) (by simp [lg_sl, ct_i, ct_l, ct_r, rf_cat]) (by show _ = ([(0, Value.ref a0)] : List (Nat × Value)); simp [lv_args, ct_i, ct_l, ct_r, rf_cat]) (fun X cx hZ hfr hlo hr hin => ?_)
  subst hZ
  exact s_X10_clear cx (Nat.le_of_eq hfr.symm) (Nat.le_of_eq hlo.symm) hr (some a0)
/-! PolicyTree$Link.<init>(ILPolicyTree$Node;LPolicyTree$Bundle;IZLPolicyTree$Filter;)V -/
theorem dX4_init_0 : decode cX4_init 0 = .ok (.aload_n 0, 1) := by decide +kernel
theorem dX4_init_1 : decode cX4_init 1 = .ok (.invokespecial 1, 3) := by decide +kernel
theorem dX4_init_4 : decode cX4_init 4 = .ok (.aload_n 0, 1) := by decide +kernel
theorem dX4_init_5 : decode cX4_init 5 = .ok (.iload_n 1, 1) := by decide +kernel
theorem dX4_init_6 : decode cX4_init 6 = .ok (.putfield 7, 3) := by decide +kernel
theorem dX4_init_9 : decode cX4_init 9 = .ok (.aload_n 0, 1) := by decide +kernel
theorem dX4_init_10 : decode cX4_init 10 = .ok (.aload_n 2, 1) := by decide +kernel
theorem dX4_init_11 : decode cX4_init 11 = .ok (.putfield 13, 3) := by decide +kernel
theorem dX4_init_14 : decode cX4_init 14 = .ok (.aload_n 0, 1) := by decide +kernel
theorem dX4_init_15 : decode cX4_init 15 = .ok (.aload_n 3, 1) := by decide +kernel
theorem dX4_init_16 : decode cX4_init 16 = .ok (.putfield 17, 3) := by decide +kernel
theorem dX4_init_19 : decode cX4_init 19 = .ok (.aload_n 0, 1) := by decide +kernel
theorem dX4_init_20 : decode cX4_init 20 = .ok (.iload 4, 2) := by decide +kernel
theorem dX4_init_22 : decode cX4_init 22 = .ok (.putfield 21, 3) := by decide +kernel
theorem dX4_init_25 : decode cX4_init 25 = .ok (.aload_n 0, 1) := by decide +kernel
theorem dX4_init_26 : decode cX4_init 26 = .ok (.iload 5, 2) := by decide +kernel
theorem dX4_init_28 : decode cX4_init 28 = .ok (.putfield 24, 3) := by decide +kernel
theorem dX4_init_31 : decode cX4_init 31 = .ok (.aload_n 0, 1) := by decide +kernel
theorem dX4_init_32 : decode cX4_init 32 = .ok (.aload 6, 2) := by decide +kernel
theorem dX4_init_34 : decode cX4_init 34 = .ok (.putfield 28, 3) := by decide +kernel
theorem dX4_init_37 : decode cX4_init 37 = .ok (.return_, 1) := by decide +kernel
def f_X4_init (r0 : Option Nat) (x1 : Int32) (r2 : Option Nat) (r3 : Option Nat) (x4 : Int32) (x5 : Int32) (r6 : Option Nat) : Mo Unit := mb (mo 7 r0 (mp ())) (fun _ => mb (pV 7 0 r0 (.int x1)) (fun _ => mb (pV 7 1 r0 (va_rf r2)) (fun _ => mb (pV 7 2 r0 (va_rf r3)) (fun _ => mb (pV 7 3 r0 (.int x4)) (fun _ => mb (pZ 7 4 r0 x5) (fun _ => mb (pV 7 5 r0 (va_rf r6)) (fun _ => mp ())))))))
set_option maxRecDepth 100000 in
set_option maxHeartbeats 4000000 in
theorem s_X4_init {X : Cg} (cx : Cx X cX4_init RX4 7) (hfr : 1 ≤ (xR X).frames) (hlo : 12 ≤ (xR X).locals) (hr : (xM X).sig.returnType = none) (hin : (xM X).name = "<init>") (r0 : Option Nat) (x1 : Int32) (r2 : Option Nat) (r3 : Option Nat) (x4 : Int32) (x5 : Int32) (r6 : Option Nat) : Sim X 7 (FiM X vV) 0 [(0, va_rf r0), (1, .int x1), (2, va_rf r2), (3, va_rf r3), (4, .int x4), (5, .int x5), (6, va_rf r6)] [] (f_X4_init r0 x1 r2 r3 x4 x5 r6) := by
  unfold f_X4_init
  refine sm_aload_n cx 0 dX4_init_0 rfl rfl ?_
  refine sm_obj (ci := 7) cx wd_4_223 wd_1_41 wd_1_42 (Nat.le_trans (by decide) hfr) (Nat.le_trans (by decide) hlo) dX4_init_1 rfl ?_
  refine sm_aload_n cx 0 dX4_init_4 rfl rfl ?_
  refine sm_iload_n cx 1 dX4_init_5 rfl rfl ?_
  refine sm_putF cx hin fl_X4_7 rfl rfl dX4_init_6 ?_
  refine sm_aload_n cx 0 dX4_init_9 rfl rfl ?_
  refine sm_aload_n cx 2 dX4_init_10 rfl rfl ?_
  refine sm_putF cx hin fl_X4_13 (nr_rf _) (ft_rf _) dX4_init_11 ?_
  refine sm_aload_n cx 0 dX4_init_14 rfl rfl ?_
  refine sm_aload_n cx 3 dX4_init_15 rfl rfl ?_
  refine sm_putF cx hin fl_X4_17 (nr_rf _) (ft_rf _) dX4_init_16 ?_
  refine sm_aload_n cx 0 dX4_init_19 rfl rfl ?_
  refine sm_iload cx 4 dX4_init_20 rfl ?_
  refine sm_putF cx hin fl_X4_21 rfl rfl dX4_init_22 ?_
  refine sm_aload_n cx 0 dX4_init_25 rfl rfl ?_
  refine sm_iload cx 5 dX4_init_26 rfl ?_
  refine sm_putFZ cx hin fl_X4_24 dX4_init_28 ?_
  refine sm_aload_n cx 0 dX4_init_31 rfl rfl ?_
  refine sm_aload cx 6 dX4_init_32 rfl ?_
  refine sm_putF cx hin fl_X4_28 (nr_rf _) (ft_rf _) dX4_init_34 ?_
  exact sm_vret cx hr dX4_init_37
set_option maxRecDepth 100000 in
set_option maxHeartbeats 4000000 in
theorem ct_X4_init (Z : Nat → Nat) {r0 : Option Nat} (a0 : Nat) (h0 : r0 = some a0) (x1 : Int32) (r2 : Option Nat) (r3 : Option Nat) (x4 : Int32) (x5 : Int32) (r6 : Option Nat) : Ct yX4_init cX4_init 7 none 1 12 Z [.ref a0, .int x1, va_rf r2, va_rf r3, .int x4, .int x5, va_rf r6] vV (f_X4_init r0 x1 r2 r3 x4 x5 r6) := by
  subst h0
  refine ct_of (lv0 := [(0, va_rf (some a0)), (1, .int x1), (2, va_rf r2), (3, va_rf r3), (4, .int x4), (5, .int x5), (6, va_rf r6)]) (by decide +kernel) (by simp [lg_sl, ct_i, ct_l, ct_r, rf_cat]) (by show _ = ([(0, Value.ref a0), (1, .int x1), (2, va_rf r2), (3, va_rf r3), (4, .int x4), (5, .int x5), (6, va_rf r6)] : List (Nat × Value)); simp [lv_args, ct_i, ct_l, ct_r, rf_cat]) (fun X cx hZ hfr hlo hr hin => ?_)
  subst hZ
  exact s_X4_init cx (Nat.le_of_eq hfr.symm) (Nat.le_of_eq hlo.symm) hr hin (some a0) x1 r2 r3 x4 x5 r6
/-! PolicyTree$Link.quarrelsWith(LPolicyTree$Link;I)Z -/
theorem dX4_quarrelsWith_0 : decode cX4_quarrelsWith 0 = .ok (.aload_n 0, 1) := by decide +kernel
theorem dX4_quarrelsWith_1 : decode cX4_quarrelsWith 1 = .ok (.getfield 32, 3) := by decide +kernel
theorem dX4_quarrelsWith_4 : decode cX4_quarrelsWith 4 = .ok (.ifCond .ne 62, 3) := by decide +kernel
theorem dX4_quarrelsWith_7 : decode cX4_quarrelsWith 7 = .ok (.aload_n 1, 1) := by decide +kernel
theorem dX4_quarrelsWith_8 : decode cX4_quarrelsWith 8 = .ok (.getfield 32, 3) := by decide +kernel
theorem dX4_quarrelsWith_11 : decode cX4_quarrelsWith 11 = .ok (.ifCond .ne 55, 3) := by decide +kernel
theorem dX4_quarrelsWith_14 : decode cX4_quarrelsWith 14 = .ok (.aload_n 0, 1) := by decide +kernel
theorem dX4_quarrelsWith_15 : decode cX4_quarrelsWith 15 = .ok (.getfield 13, 3) := by decide +kernel
theorem dX4_quarrelsWith_18 : decode cX4_quarrelsWith 18 = .ok (.aload_n 1, 1) := by decide +kernel
theorem dX4_quarrelsWith_19 : decode cX4_quarrelsWith 19 = .ok (.getfield 13, 3) := by decide +kernel
theorem dX4_quarrelsWith_22 : decode cX4_quarrelsWith 22 = .ok (.if_acmp .ne 44, 3) := by decide +kernel
theorem dX4_quarrelsWith_25 : decode cX4_quarrelsWith 25 = .ok (.aload_n 0, 1) := by decide +kernel
theorem dX4_quarrelsWith_26 : decode cX4_quarrelsWith 26 = .ok (.getfield 24, 3) := by decide +kernel
theorem dX4_quarrelsWith_29 : decode cX4_quarrelsWith 29 = .ok (.aload_n 1, 1) := by decide +kernel
theorem dX4_quarrelsWith_30 : decode cX4_quarrelsWith 30 = .ok (.getfield 24, 3) := by decide +kernel
theorem dX4_quarrelsWith_33 : decode cX4_quarrelsWith 33 = .ok (.if_icmp .ne 33, 3) := by decide +kernel
theorem dX4_quarrelsWith_36 : decode cX4_quarrelsWith 36 = .ok (.aload_n 0, 1) := by decide +kernel
theorem dX4_quarrelsWith_37 : decode cX4_quarrelsWith 37 = .ok (.getfield 21, 3) := by decide +kernel
theorem dX4_quarrelsWith_40 : decode cX4_quarrelsWith 40 = .ok (.aload_n 1, 1) := by decide +kernel
theorem dX4_quarrelsWith_41 : decode cX4_quarrelsWith 41 = .ok (.getfield 21, 3) := by decide +kernel
theorem dX4_quarrelsWith_44 : decode cX4_quarrelsWith 44 = .ok (.if_icmp .ne 22, 3) := by decide +kernel
theorem dX4_quarrelsWith_47 : decode cX4_quarrelsWith 47 = .ok (.aload_n 0, 1) := by decide +kernel
theorem dX4_quarrelsWith_48 : decode cX4_quarrelsWith 48 = .ok (.getfield 17, 3) := by decide +kernel
theorem dX4_quarrelsWith_51 : decode cX4_quarrelsWith 51 = .ok (.aload_n 1, 1) := by decide +kernel
theorem dX4_quarrelsWith_52 : decode cX4_quarrelsWith 52 = .ok (.getfield 17, 3) := by decide +kernel
theorem dX4_quarrelsWith_55 : decode cX4_quarrelsWith 55 = .ok (.iload_n 2, 1) := by decide +kernel
theorem dX4_quarrelsWith_56 : decode cX4_quarrelsWith 56 = .ok (.invokevirtual 35, 3) := by decide +kernel
theorem dX4_quarrelsWith_59 : decode cX4_quarrelsWith 59 = .ok (.ifCond .eq 7, 3) := by decide +kernel
theorem dX4_quarrelsWith_62 : decode cX4_quarrelsWith 62 = .ok (.iconst 1, 1) := by decide +kernel
theorem dX4_quarrelsWith_63 : decode cX4_quarrelsWith 63 = .ok (.goto 4, 3) := by decide +kernel
theorem dX4_quarrelsWith_66 : decode cX4_quarrelsWith 66 = .ok (.iconst 0, 1) := by decide +kernel
theorem dX4_quarrelsWith_67 : decode cX4_quarrelsWith 67 = .ok (.ireturn, 1) := by decide +kernel
def f_X4_quarrelsWith_67 (sx0 : Int32) : Mo Int32 := rz .boolean sx0
set_option maxRecDepth 100000 in
set_option maxHeartbeats 4000000 in
theorem s_X4_quarrelsWith_67 {X : Cg} (cx : Cx X cX4_quarrelsWith RX4 3) (hfr : 2 ≤ (xR X).frames) (hlo : 45 ≤ (xR X).locals) (hr : (xM X).sig.returnType = (some .boolean)) (sx0 : Int32) : Sim X 3 (FiM X vI) 67 [] [.int sx0] (f_X4_quarrelsWith_67 sx0) := by
  unfold f_X4_quarrelsWith_67
  exact sm_zret cx hr dX4_quarrelsWith_67
def f_X4_quarrelsWith_66 : Mo Int32 := f_X4_quarrelsWith_67 (0 : Int32)
set_option maxRecDepth 100000 in
set_option maxHeartbeats 4000000 in
theorem s_X4_quarrelsWith_66 {X : Cg} (cx : Cx X cX4_quarrelsWith RX4 3) (hfr : 2 ≤ (xR X).frames) (hlo : 45 ≤ (xR X).locals) (hr : (xM X).sig.returnType = (some .boolean)) : Sim X 3 (FiM X vI) 66 [] [] (f_X4_quarrelsWith_66) := by
  unfold f_X4_quarrelsWith_66
  refine sm_iconst (v := 0) cx dX4_quarrelsWith_66 (by decide) ?_
  exact sm_lv [] rfl (s_X4_quarrelsWith_67 cx hfr hlo hr (0 : Int32))
def f_X4_quarrelsWith (r0 : Option Nat) (r1 : Option Nat) (x2 : Int32) : Mo Int32 := mb (gI 7 6 r0) (fun v1 => (if v1 = 0 then mb (gI 7 6 r1) (fun v8 => (if v8 = 0 then mb (gR 7 1 r0) (fun v15 => mb (gR 7 1 r1) (fun v19 => (if v15 = v19 then mb (gI 7 4 r0) (fun v26 => mb (gI 7 4 r1) (fun v30 => (if v26 = v30 then mb (gI 7 3 r0) (fun v37 => mb (gI 7 3 r1) (fun v41 => (if v37 = v41 then mb (gR 7 2 r0) (fun v48 => mb (gR 7 2 r1) (fun v52 => mb (mo 3 v48 (f_X0_differs v48 v52 x2)) (fun v56 => (if v56 = 0 then f_X4_quarrelsWith_66 else f_X4_quarrelsWith_67 (1 : Int32))))) else f_X4_quarrelsWith_66))) else f_X4_quarrelsWith_66))) else f_X4_quarrelsWith_66))) else f_X4_quarrelsWith_66)) else f_X4_quarrelsWith_66))
set_option maxRecDepth 100000 in
set_option maxHeartbeats 4000000 in
theorem s_X4_quarrelsWith {X : Cg} (cx : Cx X cX4_quarrelsWith RX4 3) (hfr : 2 ≤ (xR X).frames) (hlo : 45 ≤ (xR X).locals) (hr : (xM X).sig.returnType = (some .boolean)) (r0 : Option Nat) (r1 : Option Nat) (x2 : Int32) : Sim X 3 (FiM X vI) 0 [(0, va_rf r0), (1, va_rf r1), (2, .int x2)] [] (f_X4_quarrelsWith r0 r1 x2) := by
  unfold f_X4_quarrelsWith
  refine sm_aload_n cx 0 dX4_quarrelsWith_0 rfl rfl ?_
  refine sm_getI cx fl_X4_32 dX4_quarrelsWith_1 (fun v1 => ?_)
  refine sm_if_ne (tgt := 66) cx dX4_quarrelsWith_4 (by decide) ?_ ?_
  · exact sm_lv [] rfl (s_X4_quarrelsWith_66 cx hfr hlo hr)
  · refine sm_aload_n cx 1 dX4_quarrelsWith_7 rfl rfl ?_
    refine sm_getI cx fl_X4_32 dX4_quarrelsWith_8 (fun v8 => ?_)
    refine sm_if_ne (tgt := 66) cx dX4_quarrelsWith_11 (by decide) ?_ ?_
    · exact sm_lv [] rfl (s_X4_quarrelsWith_66 cx hfr hlo hr)
    · refine sm_aload_n cx 0 dX4_quarrelsWith_14 rfl rfl ?_
      refine sm_getR cx fl_X4_13 dX4_quarrelsWith_15 (fun v15 => ?_)
      refine sm_aload_n cx 1 dX4_quarrelsWith_18 rfl rfl ?_
      refine sm_getR cx fl_X4_13 dX4_quarrelsWith_19 (fun v19 => ?_)
      refine sm_acmp_ne (tgt := 66) cx dX4_quarrelsWith_22 (by decide) ?_ ?_
      · exact sm_lv [] rfl (s_X4_quarrelsWith_66 cx hfr hlo hr)
      · refine sm_aload_n cx 0 dX4_quarrelsWith_25 rfl rfl ?_
        refine sm_getI cx fl_X4_24 dX4_quarrelsWith_26 (fun v26 => ?_)
        refine sm_aload_n cx 1 dX4_quarrelsWith_29 rfl rfl ?_
        refine sm_getI cx fl_X4_24 dX4_quarrelsWith_30 (fun v30 => ?_)
        refine sm_icmp_ne (tgt := 66) cx dX4_quarrelsWith_33 (by decide) ?_ ?_
        · exact sm_lv [] rfl (s_X4_quarrelsWith_66 cx hfr hlo hr)
        · refine sm_aload_n cx 0 dX4_quarrelsWith_36 rfl rfl ?_
          refine sm_getI cx fl_X4_21 dX4_quarrelsWith_37 (fun v37 => ?_)
          refine sm_aload_n cx 1 dX4_quarrelsWith_40 rfl rfl ?_
          refine sm_getI cx fl_X4_21 dX4_quarrelsWith_41 (fun v41 => ?_)
          refine sm_icmp_ne (tgt := 66) cx dX4_quarrelsWith_44 (by decide) ?_ ?_
          · exact sm_lv [] rfl (s_X4_quarrelsWith_66 cx hfr hlo hr)
          · refine sm_aload_n cx 0 dX4_quarrelsWith_47 rfl rfl ?_
            refine sm_getR cx fl_X4_17 dX4_quarrelsWith_48 (fun v48 => ?_)
            refine sm_aload_n cx 1 dX4_quarrelsWith_51 rfl rfl ?_
            refine sm_getR cx fl_X4_17 dX4_quarrelsWith_52 (fun v52 => ?_)
            refine sm_iload_n cx 2 dX4_quarrelsWith_55 rfl rfl ?_
            refine sm_callV (T := TX0) (N := 2) (toV := vI) cx [va_rf v52, .int x2] rfl cv_X4_35 (fun a h => ct_X0_differs (xZ X) a h v52 x2) (Nat.le_trans (by decide) hfr) (Nat.le_trans (by decide) hlo) rfl (cat_le _ (Nat.le_of_ble_eq_true rfl)) dX4_quarrelsWith_56 (fun v56 => ?_)
            refine sm_if_eq (tgt := 66) cx dX4_quarrelsWith_59 (by decide) ?_ ?_
            · exact sm_lv [] rfl (s_X4_quarrelsWith_66 cx hfr hlo hr)
            · refine sm_iconst (v := 1) cx dX4_quarrelsWith_62 (by decide) ?_
              refine sm_goto (tgt := 67) cx dX4_quarrelsWith_63 (by decide) ?_
              exact sm_lv [] rfl (s_X4_quarrelsWith_67 cx hfr hlo hr (1 : Int32))
set_option maxRecDepth 100000 in
set_option maxHeartbeats 4000000 in
theorem ct_X4_quarrelsWith (Z : Nat → Nat) {r0 : Option Nat} (a0 : Nat) (h0 : r0 = some a0) (r1 : Option Nat) (x2 : Int32) : Ct yX4_quarrelsWith cX4_quarrelsWith 3 (some .boolean) 2 45 Z [.ref a0, va_rf r1, .int x2] vI (f_X4_quarrelsWith r0 r1 x2) := by
  subst h0
  refine ct_of (lv0 := [(0, va_rf (some a0)), (1, va_rf r1), (2, .int x2)]) (by decide +kernel) (by simp [lg_sl, ct_i, ct_l, ct_r, rf_cat]) (by show _ = ([(0, Value.ref a0), (1, va_rf r1), (2, .int x2)] : List (Nat × Value)); simp [lv_args, ct_i, ct_l, ct_r, rf_cat]) (fun X cx hZ hfr hlo hr hin => ?_)
  subst hZ
  exact s_X4_quarrelsWith cx (Nat.le_of_eq hfr.symm) (Nat.le_of_eq hlo.symm) hr (some a0) r1 x2
/-! PolicyTree$Standing.spread(Z)J -/
theorem dX9_spread_0 : decode cX9_spread 0 = .ok (.iload_n 0, 1) := by decide +kernel
theorem dX9_spread_1 : decode cX9_spread 1 = .ok (.ifCond .eq 9, 3) := by decide +kernel
theorem dX9_spread_4 : decode cX9_spread 4 = .ok (.ldc2_w 50, 3) := by decide +kernel
theorem dX9_spread_7 : decode cX9_spread 7 = .ok (.goto 4, 3) := by decide +kernel
theorem dX9_spread_10 : decode cX9_spread 10 = .ok (.lconst 0, 1) := by decide +kernel
theorem dX9_spread_11 : decode cX9_spread 11 = .ok (.lreturn, 1) := by decide +kernel
def f_X9_spread_11 (sl0 : Int64) : Mo Int64 := mp sl0
set_option maxRecDepth 100000 in
set_option maxHeartbeats 4000000 in
theorem s_X9_spread_11 {X : Cg} (cx : Cx X cX9_spread RX9 1) (hfr : 0 ≤ (xR X).frames) (hlo : 0 ≤ (xR X).locals) (hr : (xM X).sig.returnType = (some .long)) (sl0 : Int64) : Sim X 1 (FiM X vL) 11 [] [.long sl0] (f_X9_spread_11 sl0) := by
  unfold f_X9_spread_11
  exact sm_lret cx hr dX9_spread_11
def f_X9_spread (x0 : Int32) : Mo Int64 := (if x0 = 0 then f_X9_spread_11 (0 : Int64) else f_X9_spread_11 (-1 : Int64))
set_option maxRecDepth 100000 in
set_option maxHeartbeats 4000000 in
theorem s_X9_spread {X : Cg} (cx : Cx X cX9_spread RX9 1) (hfr : 0 ≤ (xR X).frames) (hlo : 0 ≤ (xR X).locals) (hr : (xM X).sig.returnType = (some .long)) (x0 : Int32) : Sim X 1 (FiM X vL) 0 [(0, .int x0)] [] (f_X9_spread x0) := by
  unfold f_X9_spread
  refine sm_iload_n cx 0 dX9_spread_0 rfl rfl ?_
  refine sm_if_eq (tgt := 10) cx dX9_spread_1 (by decide) ?_ ?_
  · refine sm_lconst (v := 0) cx dX9_spread_10 (by decide) ?_
    exact sm_lv [] rfl (s_X9_spread_11 cx hfr hlo hr (0 : Int64))
  · refine sm_ldc2 (v := -1) cx dX9_spread_4 wd_3_114 ?_
    refine sm_goto (tgt := 11) cx dX9_spread_7 (by decide) ?_
    exact sm_lv [] rfl (s_X9_spread_11 cx hfr hlo hr (-1 : Int64))
set_option maxRecDepth 100000 in
set_option maxHeartbeats 4000000 in
theorem ct_X9_spread (Z : Nat → Nat) (x0 : Int32) : Ct yX9_spread cX9_spread 1 (some .long) 0 0 Z [.int x0] vL (f_X9_spread x0) := by
  refine ct_of (lv0 := [(0, .int x0)]) (by decide +kernel) (by simp [lg_sl, ct_i, ct_l, ct_r, rf_cat]) (by show _ = ([(0, .int x0)] : List (Nat × Value)); simp [lv_args, ct_i, ct_l, ct_r, rf_cat]) (fun X cx hZ hfr hlo hr hin => ?_)
  subst hZ
  exact s_X9_spread cx (Nat.le_of_eq hfr.symm) (Nat.le_of_eq hlo.symm) hr x0
/-! PolicyTree$Standing.<init>()V -/
theorem dX9_init_0 : decode cX9_init 0 = .ok (.aload_n 0, 1) := by decide +kernel
theorem dX9_init_1 : decode cX9_init 1 = .ok (.invokespecial 3, 3) := by decide +kernel
theorem dX9_init_4 : decode cX9_init 4 = .ok (.aload_n 0, 1) := by decide +kernel
theorem dX9_init_5 : decode cX9_init 5 = .ok (.bipush 64, 2) := by decide +kernel
theorem dX9_init_7 : decode cX9_init 7 = .ok (.newarray .long, 2) := by decide +kernel
theorem dX9_init_9 : decode cX9_init 9 = .ok (.putfield 11, 3) := by decide +kernel
theorem dX9_init_12 : decode cX9_init 12 = .ok (.aload_n 0, 1) := by decide +kernel
theorem dX9_init_13 : decode cX9_init 13 = .ok (.bipush 8, 2) := by decide +kernel
theorem dX9_init_15 : decode cX9_init 15 = .ok (.newarray .long, 2) := by decide +kernel
theorem dX9_init_17 : decode cX9_init 17 = .ok (.putfield 15, 3) := by decide +kernel
theorem dX9_init_20 : decode cX9_init 20 = .ok (.return_, 1) := by decide +kernel
def f_X9_init (r0 : Option Nat) : Mo Unit := mb (mo 12 r0 (mp ())) (fun _ => mb (nA 2 (64 : Int32)) (fun v7 => mb (pV 12 0 r0 (va_rf v7)) (fun _ => mb (nA 2 (8 : Int32)) (fun v15 => mb (pV 12 1 r0 (va_rf v15)) (fun _ => mp ())))))
set_option maxRecDepth 100000 in
set_option maxHeartbeats 4000000 in
theorem s_X9_init {X : Cg} (cx : Cx X cX9_init RX9 1) (hfr : 1 ≤ (xR X).frames) (hlo : 12 ≤ (xR X).locals) (hr : (xM X).sig.returnType = none) (hin : (xM X).name = "<init>") (r0 : Option Nat) : Sim X 1 (FiM X vV) 0 [(0, va_rf r0)] [] (f_X9_init r0) := by
  unfold f_X9_init
  refine sm_aload_n cx 0 dX9_init_0 rfl rfl ?_
  refine sm_obj (ci := 12) cx wd_1_148 wd_1_41 wd_1_42 (Nat.le_trans (by decide) hfr) (Nat.le_trans (by decide) hlo) dX9_init_1 rfl ?_
  refine sm_aload_n cx 0 dX9_init_4 rfl rfl ?_
  refine sm_bipush (v := 64) cx dX9_init_5 (by decide) ?_
  refine sm_newa2 cx dX9_init_7 (fun v7 => ?_)
  refine sm_putF cx hin fl_X9_11 (nr_ra _) (ft_ra _) dX9_init_9 ?_
  refine sm_aload_n cx 0 dX9_init_12 rfl rfl ?_
  refine sm_bipush (v := 8) cx dX9_init_13 (by decide) ?_
  refine sm_newa2 cx dX9_init_15 (fun v15 => ?_)
  refine sm_putF cx hin fl_X9_15 (nr_ra _) (ft_ra _) dX9_init_17 ?_
  exact sm_vret cx hr dX9_init_20
set_option maxRecDepth 100000 in
set_option maxHeartbeats 4000000 in
theorem ct_X9_init (Z : Nat → Nat) {r0 : Option Nat} (a0 : Nat) (h0 : r0 = some a0) : Ct yX9_init cX9_init 1 none 1 12 Z [.ref a0] vV (f_X9_init r0) := by
  subst h0
  refine ct_of (lv0 := [(0, va_rf (some a0))]) (by decide +kernel) (by simp [lg_sl, ct_i, ct_l, ct_r, rf_cat]) (by show _ = ([(0, Value.ref a0)] : List (Nat × Value)); simp [lv_args, ct_i, ct_l, ct_r, rf_cat]) (fun X cx hZ hfr hlo hr hin => ?_)
  subst hZ
  exact s_X9_init cx (Nat.le_of_eq hfr.symm) (Nat.le_of_eq hlo.symm) hr hin (some a0)
/-! PolicyTree$Standing.enter(LPolicyTree$Machine;IJ)V -/
theorem dX9_enter_0 : decode cX9_enter 0 = .ok (.aload_n 0, 1) := by decide +kernel
theorem dX9_enter_1 : decode cX9_enter 1 = .ok (.aload_n 1, 1) := by decide +kernel
theorem dX9_enter_2 : decode cX9_enter 2 = .ok (.invokevirtual 18, 3) := by decide +kernel
theorem dX9_enter_5 : decode cX9_enter 5 = .ok (.putfield 24, 3) := by decide +kernel
theorem dX9_enter_8 : decode cX9_enter 8 = .ok (.aload_n 0, 1) := by decide +kernel
theorem dX9_enter_9 : decode cX9_enter 9 = .ok (.aload_n 1, 1) := by decide +kernel
theorem dX9_enter_10 : decode cX9_enter 10 = .ok (.invokevirtual 28, 3) := by decide +kernel
theorem dX9_enter_13 : decode cX9_enter 13 = .ok (.putfield 31, 3) := by decide +kernel
theorem dX9_enter_16 : decode cX9_enter 16 = .ok (.aload_n 0, 1) := by decide +kernel
theorem dX9_enter_17 : decode cX9_enter 17 = .ok (.iload_n 2, 1) := by decide +kernel
theorem dX9_enter_18 : decode cX9_enter 18 = .ok (.putfield 34, 3) := by decide +kernel
theorem dX9_enter_21 : decode cX9_enter 21 = .ok (.aload_n 0, 1) := by decide +kernel
theorem dX9_enter_22 : decode cX9_enter 22 = .ok (.lload_n 3, 1) := by decide +kernel
theorem dX9_enter_23 : decode cX9_enter 23 = .ok (.putfield 37, 3) := by decide +kernel
theorem dX9_enter_26 : decode cX9_enter 26 = .ok (.return_, 1) := by decide +kernel
def f_X9_enter (r0 : Option Nat) (r1 : Option Nat) (x2 : Int32) (l3 : Int64) : Mo Unit := mb (mo 8 r1 (f_X5_knownFacts r1)) (fun v2 => mb (pV 12 2 r0 (.int v2)) (fun _ => mb (mo 8 r1 (f_X5_yesFacts r1)) (fun v10 => mb (pV 12 3 r0 (.int v10)) (fun _ => mb (pV 12 4 r0 (.int x2)) (fun _ => mb (pV 12 5 r0 (.long l3)) (fun _ => mp ()))))))
set_option maxRecDepth 100000 in
set_option maxHeartbeats 4000000 in
theorem s_X9_enter {X : Cg} (cx : Cx X cX9_enter RX9 5) (hfr : 1 ≤ (xR X).frames) (hlo : 20 ≤ (xR X).locals) (hr : (xM X).sig.returnType = none) (r0 : Option Nat) (r1 : Option Nat) (x2 : Int32) (l3 : Int64) : Sim X 5 (FiM X vV) 0 [(0, va_rf r0), (1, va_rf r1), (2, .int x2), (3, .long l3)] [] (f_X9_enter r0 r1 x2 l3) := by
  unfold f_X9_enter
  refine sm_aload_n cx 0 dX9_enter_0 rfl rfl ?_
  refine sm_aload_n cx 1 dX9_enter_1 rfl rfl ?_
  refine sm_callV (T := TX5) (N := 3) (toV := vI) cx [] rfl cv_X9_18 (fun a h => ct_X5_knownFacts (xZ X) a h) (Nat.le_trans (by decide) hfr) (Nat.le_trans (by decide) hlo) rfl (cat_le _ (Nat.le_of_ble_eq_true rfl)) dX9_enter_2 (fun v2 => ?_)
  refine sm_putV cx fl_X9_24 rfl rfl dX9_enter_5 ?_
  refine sm_aload_n cx 0 dX9_enter_8 rfl rfl ?_
  refine sm_aload_n cx 1 dX9_enter_9 rfl rfl ?_
  refine sm_callV (T := TX5) (N := 3) (toV := vI) cx [] rfl cv_X9_28 (fun a h => ct_X5_yesFacts (xZ X) a h) (Nat.le_trans (by decide) hfr) (Nat.le_trans (by decide) hlo) rfl (cat_le _ (Nat.le_of_ble_eq_true rfl)) dX9_enter_10 (fun v10 => ?_)
  refine sm_putV cx fl_X9_31 rfl rfl dX9_enter_13 ?_
  refine sm_aload_n cx 0 dX9_enter_16 rfl rfl ?_
  refine sm_iload_n cx 2 dX9_enter_17 rfl rfl ?_
  refine sm_putV cx fl_X9_34 rfl rfl dX9_enter_18 ?_
  refine sm_aload_n cx 0 dX9_enter_21 rfl rfl ?_
  refine sm_lload_n cx 3 dX9_enter_22 rfl rfl ?_
  refine sm_putV cx fl_X9_37 rfl rfl dX9_enter_23 ?_
  exact sm_vret cx hr dX9_enter_26
set_option maxRecDepth 100000 in
set_option maxHeartbeats 4000000 in
theorem ct_X9_enter (Z : Nat → Nat) {r0 : Option Nat} (a0 : Nat) (h0 : r0 = some a0) (r1 : Option Nat) (x2 : Int32) (l3 : Int64) : Ct yX9_enter cX9_enter 5 none 1 20 Z [.ref a0, va_rf r1, .int x2, .long l3] vV (f_X9_enter r0 r1 x2 l3) := by
  subst h0
  refine ct_of (lv0 := [(0, va_rf (some a0)), (1, va_rf r1), (2, .int x2), (3, .long l3)]) (by decide +kernel) (by simp [lg_sl, ct_i, ct_l, ct_r, rf_cat]) (by show _ = ([(0, Value.ref a0), (1, va_rf r1), (2, .int x2), (3, .long l3)] : List (Nat × Value)); simp [lv_args, ct_i, ct_l, ct_r, rf_cat]) (fun X cx hZ hfr hlo hr hin => ?_)
  subst hZ
  exact s_X9_enter cx (Nat.le_of_eq hfr.symm) (Nat.le_of_eq hlo.symm) hr (some a0) r1 x2 l3
/-! PolicyTree$Standing.guess(I)V -/
theorem dX9_guess_0 : decode cX9_guess 0 = .ok (.iconst 0, 1) := by decide +kernel
theorem dX9_guess_1 : decode cX9_guess 1 = .ok (.istore_n 2, 1) := by decide +kernel
theorem dX9_guess_2 : decode cX9_guess 2 = .ok (.iload_n 2, 1) := by decide +kernel
theorem dX9_guess_3 : decode cX9_guess 3 = .ok (.aload_n 0, 1) := by decide +kernel
theorem dX9_guess_4 : decode cX9_guess 4 = .ok (.getfield 15, 3) := by decide +kernel
theorem dX9_guess_7 : decode cX9_guess 7 = .ok (.arraylength, 1) := by decide +kernel
theorem dX9_guess_8 : decode cX9_guess 8 = .ok (.if_icmp .ge 97, 3) := by decide +kernel
theorem dX9_guess_11 : decode cX9_guess 11 = .ok (.aload_n 0, 1) := by decide +kernel
theorem dX9_guess_12 : decode cX9_guess 12 = .ok (.getfield 24, 3) := by decide +kernel
theorem dX9_guess_15 : decode cX9_guess 15 = .ok (.iload_n 2, 1) := by decide +kernel
theorem dX9_guess_16 : decode cX9_guess 16 = .ok (.iushr, 1) := by decide +kernel
theorem dX9_guess_17 : decode cX9_guess 17 = .ok (.iconst 1, 1) := by decide +kernel
theorem dX9_guess_18 : decode cX9_guess 18 = .ok (.iand, 1) := by decide +kernel
theorem dX9_guess_19 : decode cX9_guess 19 = .ok (.ifCond .eq 31, 3) := by decide +kernel
theorem dX9_guess_22 : decode cX9_guess 22 = .ok (.aload_n 0, 1) := by decide +kernel
theorem dX9_guess_23 : decode cX9_guess 23 = .ok (.getfield 15, 3) := by decide +kernel
theorem dX9_guess_26 : decode cX9_guess 26 = .ok (.iload_n 2, 1) := by decide +kernel
theorem dX9_guess_27 : decode cX9_guess 27 = .ok (.aload_n 0, 1) := by decide +kernel
theorem dX9_guess_28 : decode cX9_guess 28 = .ok (.getfield 31, 3) := by decide +kernel
theorem dX9_guess_31 : decode cX9_guess 31 = .ok (.iload_n 2, 1) := by decide +kernel
theorem dX9_guess_32 : decode cX9_guess 32 = .ok (.iushr, 1) := by decide +kernel
theorem dX9_guess_33 : decode cX9_guess 33 = .ok (.iconst 1, 1) := by decide +kernel
theorem dX9_guess_34 : decode cX9_guess 34 = .ok (.iand, 1) := by decide +kernel
theorem dX9_guess_35 : decode cX9_guess 35 = .ok (.ifCond .eq 7, 3) := by decide +kernel
theorem dX9_guess_38 : decode cX9_guess 38 = .ok (.iconst 1, 1) := by decide +kernel
theorem dX9_guess_39 : decode cX9_guess 39 = .ok (.goto 4, 3) := by decide +kernel
theorem dX9_guess_42 : decode cX9_guess 42 = .ok (.iconst 0, 1) := by decide +kernel
theorem dX9_guess_43 : decode cX9_guess 43 = .ok (.invokestatic 41, 3) := by decide +kernel
theorem dX9_guess_46 : decode cX9_guess 46 = .ok (.lastore, 1) := by decide +kernel
theorem dX9_guess_47 : decode cX9_guess 47 = .ok (.goto 52, 3) := by decide +kernel
theorem dX9_guess_50 : decode cX9_guess 50 = .ok (.iload_n 2, 1) := by decide +kernel
theorem dX9_guess_51 : decode cX9_guess 51 = .ok (.getstatic 45, 3) := by decide +kernel
theorem dX9_guess_54 : decode cX9_guess 54 = .ok (.arraylength, 1) := by decide +kernel
theorem dX9_guess_55 : decode cX9_guess 55 = .ok (.if_icmp .ge 17, 3) := by decide +kernel
theorem dX9_guess_58 : decode cX9_guess 58 = .ok (.aload_n 0, 1) := by decide +kernel
theorem dX9_guess_59 : decode cX9_guess 59 = .ok (.getfield 15, 3) := by decide +kernel
theorem dX9_guess_62 : decode cX9_guess 62 = .ok (.iload_n 2, 1) := by decide +kernel
theorem dX9_guess_63 : decode cX9_guess 63 = .ok (.getstatic 45, 3) := by decide +kernel
theorem dX9_guess_66 : decode cX9_guess 66 = .ok (.iload_n 2, 1) := by decide +kernel
theorem dX9_guess_67 : decode cX9_guess 67 = .ok (.laload, 1) := by decide +kernel
theorem dX9_guess_68 : decode cX9_guess 68 = .ok (.lastore, 1) := by decide +kernel
theorem dX9_guess_69 : decode cX9_guess 69 = .ok (.goto 30, 3) := by decide +kernel
theorem dX9_guess_72 : decode cX9_guess 72 = .ok (.aload_n 0, 1) := by decide +kernel
theorem dX9_guess_73 : decode cX9_guess 73 = .ok (.getfield 15, 3) := by decide +kernel
theorem dX9_guess_76 : decode cX9_guess 76 = .ok (.iload_n 2, 1) := by decide +kernel
theorem dX9_guess_77 : decode cX9_guess 77 = .ok (.iload_n 1, 1) := by decide +kernel
theorem dX9_guess_78 : decode cX9_guess 78 = .ok (.iload_n 2, 1) := by decide +kernel
theorem dX9_guess_79 : decode cX9_guess 79 = .ok (.getstatic 45, 3) := by decide +kernel
theorem dX9_guess_82 : decode cX9_guess 82 = .ok (.arraylength, 1) := by decide +kernel
theorem dX9_guess_83 : decode cX9_guess 83 = .ok (.isub, 1) := by decide +kernel
theorem dX9_guess_84 : decode cX9_guess 84 = .ok (.iushr, 1) := by decide +kernel
theorem dX9_guess_85 : decode cX9_guess 85 = .ok (.iconst 1, 1) := by decide +kernel
theorem dX9_guess_86 : decode cX9_guess 86 = .ok (.iand, 1) := by decide +kernel
theorem dX9_guess_87 : decode cX9_guess 87 = .ok (.ifCond .eq 7, 3) := by decide +kernel
theorem dX9_guess_90 : decode cX9_guess 90 = .ok (.iconst 1, 1) := by decide +kernel
theorem dX9_guess_91 : decode cX9_guess 91 = .ok (.goto 4, 3) := by decide +kernel
theorem dX9_guess_94 : decode cX9_guess 94 = .ok (.iconst 0, 1) := by decide +kernel
theorem dX9_guess_95 : decode cX9_guess 95 = .ok (.invokestatic 41, 3) := by decide +kernel
theorem dX9_guess_98 : decode cX9_guess 98 = .ok (.lastore, 1) := by decide +kernel
theorem dX9_guess_99 : decode cX9_guess 99 = .ok (.iinc 2 1, 3) := by decide +kernel
theorem dX9_guess_102 : decode cX9_guess 102 = .ok (.goto (-100), 3) := by decide +kernel
theorem dX9_guess_105 : decode cX9_guess 105 = .ok (.return_, 1) := by decide +kernel
def f_X9_guess_99 (Z : Nat → Nat) (k2 : Int32 → Mo Unit) (r0 : Option Nat) (x1 : Int32) (x2 : Int32) : Mo Unit := k2 (x2 + 1)
set_option maxRecDepth 100000 in
set_option maxHeartbeats 4000000 in
theorem s_X9_guess_99 {X : Cg} (cx : Cx X cX9_guess RX9 3) (hfr : 1 ≤ (xR X).frames) (hlo : 20 ≤ (xR X).locals) (hr : (xM X).sig.returnType = none) (r0 : Option Nat) (x1 : Int32) (x2 : Int32) {k2 : Int32 → Mo Unit} (hk2 : ∀ (x2 : Int32), Sim X 3 (FiM X vV) 2 [(0, va_rf r0), (1, .int x1), (2, .int x2)] [] (k2 x2)) : Sim X 3 (FiM X vV) 99 [(0, va_rf r0), (1, .int x1), (2, .int x2)] [] (f_X9_guess_99 (xZ X) k2 r0 x1 x2) := by
  unfold f_X9_guess_99
  refine sm_iinc cx 2 [(2, .int (x2 + 1)), (0, va_rf r0), (1, .int x1)] dX9_guess_99 rfl rfl (by decide) rfl (nc1 rfl) rfl ?_
  refine sm_goto (tgt := 2) cx dX9_guess_102 (by decide) ?_
  exact sm_lv [1, 2, 0] rfl (hk2 (x2 + 1))
def f_X9_guess_43 (Z : Nat → Nat) (k2 : Int32 → Mo Unit) (r0 : Option Nat) (x1 : Int32) (x2 : Int32) (sr0 : Option Nat) (sx1 : Int32) (sx2 : Int32) : Mo Unit := mb (f_X9_spread sx2) (fun v43 => mb (sL sr0 sx1 v43) (fun _ => f_X9_guess_99 Z k2 r0 x1 x2))
set_option maxRecDepth 100000 in
set_option maxHeartbeats 4000000 in
theorem s_X9_guess_43 {X : Cg} (cx : Cx X cX9_guess RX9 3) (hfr : 1 ≤ (xR X).frames) (hlo : 20 ≤ (xR X).locals) (hr : (xM X).sig.returnType = none) (r0 : Option Nat) (x1 : Int32) (x2 : Int32) (sr0 : Option Nat) (sx1 : Int32) (sx2 : Int32) {k2 : Int32 → Mo Unit} (hk2 : ∀ (x2 : Int32), Sim X 3 (FiM X vV) 2 [(0, va_rf r0), (1, .int x1), (2, .int x2)] [] (k2 x2)) : Sim X 3 (FiM X vV) 43 [(0, va_rf r0), (1, .int x1), (2, .int x2)] [.int sx2, .int sx1, va_rf sr0] (f_X9_guess_43 (xZ X) k2 r0 x1 x2 sr0 sx1 sx2) := by
  unfold f_X9_guess_43
  refine sm_callS (toV := vL) cx [.int sx2] cs_X9_41 (ct_X9_spread (xZ X) sx2) (Nat.le_trans (by decide) hfr) (Nat.le_trans (by decide) hlo) rfl (cat_le _ (Nat.le_of_ble_eq_true rfl)) dX9_guess_43 (fun v43 => ?_)
  refine sm_last cx dX9_guess_46 ?_
  refine sm_goto (tgt := 99) cx dX9_guess_47 (by decide) ?_
  exact sm_lv [0, 1, 2] rfl (s_X9_guess_99 cx hfr hlo hr r0 x1 x2 hk2)
def f_X9_guess_95 (Z : Nat → Nat) (k2 : Int32 → Mo Unit) (r0 : Option Nat) (x1 : Int32) (x2 : Int32) (sr0 : Option Nat) (sx1 : Int32) (sx2 : Int32) : Mo Unit := mb (f_X9_spread sx2) (fun v95 => mb (sL sr0 sx1 v95) (fun _ => f_X9_guess_99 Z k2 r0 x1 x2))
set_option maxRecDepth 100000 in
set_option maxHeartbeats 4000000 in
theorem s_X9_guess_95 {X : Cg} (cx : Cx X cX9_guess RX9 3) (hfr : 1 ≤ (xR X).frames) (hlo : 20 ≤ (xR X).locals) (hr : (xM X).sig.returnType = none) (r0 : Option Nat) (x1 : Int32) (x2 : Int32) (sr0 : Option Nat) (sx1 : Int32) (sx2 : Int32) {k2 : Int32 → Mo Unit} (hk2 : ∀ (x2 : Int32), Sim X 3 (FiM X vV) 2 [(0, va_rf r0), (1, .int x1), (2, .int x2)] [] (k2 x2)) : Sim X 3 (FiM X vV) 95 [(0, va_rf r0), (1, .int x1), (2, .int x2)] [.int sx2, .int sx1, va_rf sr0] (f_X9_guess_95 (xZ X) k2 r0 x1 x2 sr0 sx1 sx2) := by
  unfold f_X9_guess_95
  refine sm_callS (toV := vL) cx [.int sx2] cs_X9_41 (ct_X9_spread (xZ X) sx2) (Nat.le_trans (by decide) hfr) (Nat.le_trans (by decide) hlo) rfl (cat_le _ (Nat.le_of_ble_eq_true rfl)) dX9_guess_95 (fun v95 => ?_)
  refine sm_last cx dX9_guess_98 ?_
  exact sm_lv [0, 1, 2] rfl (s_X9_guess_99 cx hfr hlo hr r0 x1 x2 hk2)
def f_X9_guess_2 (Z : Nat → Nat) (r0 : Option Nat) (x1 : Int32) : Nat → Int32 → Mo Unit
  | 0, _ => mf
  | n + 1, x2 => mb (gR 12 1 r0) (fun v4 => mb (aN 2 v4) (fun v7 => (if v7 ≤ x2 then mp () else mb (gI 12 2 r0) (fun v12 => (if ((jSh v12 x2) &&& (1 : Int32)) = 0 then mb (aGn (some (Z 1)) Z) (fun v54 => (if v54 ≤ x2 then mb (gR 12 1 r0) (fun v73 => mb (aGn (some (Z 1)) Z) (fun v82 => (if ((jSh x1 (x2 - v82)) &&& (1 : Int32)) = 0 then f_X9_guess_95 Z (f_X9_guess_2 Z r0 x1 n) r0 x1 x2 v73 x2 (0 : Int32) else f_X9_guess_95 Z (f_X9_guess_2 Z r0 x1 n) r0 x1 x2 v73 x2 (1 : Int32)))) else mb (gR 12 1 r0) (fun v59 => mb (aG (some (Z 1)) Z x2) (fun v67 => mb (sL v59 x2 v67) (fun _ => f_X9_guess_99 Z (f_X9_guess_2 Z r0 x1 n) r0 x1 x2))))) else mb (gR 12 1 r0) (fun v23 => mb (gI 12 3 r0) (fun v28 => (if ((jSh v28 x2) &&& (1 : Int32)) = 0 then f_X9_guess_43 Z (f_X9_guess_2 Z r0 x1 n) r0 x1 x2 v23 x2 (0 : Int32) else f_X9_guess_43 Z (f_X9_guess_2 Z r0 x1 n) r0 x1 x2 v23 x2 (1 : Int32)))))))))
set_option maxRecDepth 100000 in
set_option maxHeartbeats 4000000 in
theorem s_X9_guess_2 {X : Cg} (cx : Cx X cX9_guess RX9 3) (hfr : 1 ≤ (xR X).frames) (hlo : 20 ≤ (xR X).locals) (hr : (xM X).sig.returnType = none) (r0 : Option Nat) (x1 : Int32) : ∀ (n : Nat) (x2 : Int32), Sim X 3 (FiM X vV) 2 [(0, va_rf r0), (1, .int x1), (2, .int x2)] [] (f_X9_guess_2 (xZ X) r0 x1 n x2) := by
  intro n
  induction n with
  | zero =>
    intro _
    exact sm_mf
  | succ n ih =>
    intro x2
    rw [f_X9_guess_2]
    refine sm_iload_n cx 2 dX9_guess_2 rfl rfl ?_
    refine sm_aload_n cx 0 dX9_guess_3 rfl rfl ?_
    refine sm_getR cx fl_X9_15 dX9_guess_4 (fun v4 => ?_)
    refine sm_alen cx 2 (by decide) dX9_guess_7 (fun v7 => ?_)
    refine sm_icmp_ge (tgt := 105) cx dX9_guess_8 (by decide) ?_ ?_
    · exact sm_vret cx hr dX9_guess_105
    · refine sm_aload_n cx 0 dX9_guess_11 rfl rfl ?_
      refine sm_getI cx fl_X9_24 dX9_guess_12 (fun v12 => ?_)
      refine sm_iload_n cx 2 dX9_guess_15 rfl rfl ?_
      refine sm_iushr cx dX9_guess_16 ?_
      refine sm_iconst (v := 1) cx dX9_guess_17 (by decide) ?_
      refine sm_iand cx dX9_guess_18 ?_
      refine sm_if_eq (tgt := 50) cx dX9_guess_19 (by decide) ?_ ?_
      · refine sm_iload_n cx 2 dX9_guess_50 rfl rfl ?_
        refine sm_gsG cx wd_3_115 dX9_guess_51 ?_
        refine sm_aGn cx dX9_guess_54 (fun v54 => ?_)
        refine sm_icmp_ge (tgt := 72) cx dX9_guess_55 (by decide) ?_ ?_
        · refine sm_aload_n cx 0 dX9_guess_72 rfl rfl ?_
          refine sm_getR cx fl_X9_15 dX9_guess_73 (fun v73 => ?_)
          refine sm_iload_n cx 2 dX9_guess_76 rfl rfl ?_
          refine sm_iload_n cx 1 dX9_guess_77 rfl rfl ?_
          refine sm_iload_n cx 2 dX9_guess_78 rfl rfl ?_
          refine sm_gsG cx wd_3_115 dX9_guess_79 ?_
          refine sm_aGn cx dX9_guess_82 (fun v82 => ?_)
          refine sm_isub cx dX9_guess_83 ?_
          refine sm_iushr cx dX9_guess_84 ?_
          refine sm_iconst (v := 1) cx dX9_guess_85 (by decide) ?_
          refine sm_iand cx dX9_guess_86 ?_
          refine sm_if_eq (tgt := 94) cx dX9_guess_87 (by decide) ?_ ?_
          · refine sm_iconst (v := 0) cx dX9_guess_94 (by decide) ?_
            exact sm_lv [0, 1, 2] rfl (s_X9_guess_95 cx hfr hlo hr r0 x1 x2 v73 x2 (0 : Int32) ih)
          · refine sm_iconst (v := 1) cx dX9_guess_90 (by decide) ?_
            refine sm_goto (tgt := 95) cx dX9_guess_91 (by decide) ?_
            exact sm_lv [0, 1, 2] rfl (s_X9_guess_95 cx hfr hlo hr r0 x1 x2 v73 x2 (1 : Int32) ih)
        · refine sm_aload_n cx 0 dX9_guess_58 rfl rfl ?_
          refine sm_getR cx fl_X9_15 dX9_guess_59 (fun v59 => ?_)
          refine sm_iload_n cx 2 dX9_guess_62 rfl rfl ?_
          refine sm_gsG cx wd_3_115 dX9_guess_63 ?_
          refine sm_iload_n cx 2 dX9_guess_66 rfl rfl ?_
          refine sm_aG cx dX9_guess_67 (fun v67 => ?_)
          refine sm_last cx dX9_guess_68 ?_
          refine sm_goto (tgt := 99) cx dX9_guess_69 (by decide) ?_
          exact sm_lv [0, 1, 2] rfl (s_X9_guess_99 cx hfr hlo hr r0 x1 x2 ih)
      · refine sm_aload_n cx 0 dX9_guess_22 rfl rfl ?_
        refine sm_getR cx fl_X9_15 dX9_guess_23 (fun v23 => ?_)
        refine sm_iload_n cx 2 dX9_guess_26 rfl rfl ?_
        refine sm_aload_n cx 0 dX9_guess_27 rfl rfl ?_
        refine sm_getI cx fl_X9_31 dX9_guess_28 (fun v28 => ?_)
        refine sm_iload_n cx 2 dX9_guess_31 rfl rfl ?_
        refine sm_iushr cx dX9_guess_32 ?_
        refine sm_iconst (v := 1) cx dX9_guess_33 (by decide) ?_
        refine sm_iand cx dX9_guess_34 ?_
        refine sm_if_eq (tgt := 42) cx dX9_guess_35 (by decide) ?_ ?_
        · refine sm_iconst (v := 0) cx dX9_guess_42 (by decide) ?_
          exact sm_lv [0, 1, 2] rfl (s_X9_guess_43 cx hfr hlo hr r0 x1 x2 v23 x2 (0 : Int32) ih)
        · refine sm_iconst (v := 1) cx dX9_guess_38 (by decide) ?_
          refine sm_goto (tgt := 43) cx dX9_guess_39 (by decide) ?_
          exact sm_lv [0, 1, 2] rfl (s_X9_guess_43 cx hfr hlo hr r0 x1 x2 v23 x2 (1 : Int32) ih)
def f_X9_guess (Z : Nat → Nat) (r0 : Option Nat) (x1 : Int32) : Mo Unit := f_X9_guess_2 Z r0 x1 fuL (0 : Int32)
set_option maxRecDepth 100000 in
set_option maxHeartbeats 4000000 in
theorem s_X9_guess {X : Cg} (cx : Cx X cX9_guess RX9 3) (hfr : 1 ≤ (xR X).frames) (hlo : 20 ≤ (xR X).locals) (hr : (xM X).sig.returnType = none) (r0 : Option Nat) (x1 : Int32) : Sim X 3 (FiM X vV) 0 [(0, va_rf r0), (1, .int x1)] [] (f_X9_guess (xZ X) r0 x1) := by
  unfold f_X9_guess
  refine sm_iconst (v := 0) cx dX9_guess_0 (by decide) ?_
  refine sm_istore_n cx [(2, .int (0 : Int32)), (0, va_rf r0), (1, .int x1)] dX9_guess_1 rfl (by decide) rfl (nc1 rfl) rfl ?_
  exact sm_lv [1, 2, 0] rfl (s_X9_guess_2 cx hfr hlo hr r0 x1 fuL (0 : Int32))
set_option maxRecDepth 100000 in
set_option maxHeartbeats 4000000 in
theorem ct_X9_guess (Z : Nat → Nat) {r0 : Option Nat} (a0 : Nat) (h0 : r0 = some a0) (x1 : Int32) : Ct yX9_guess cX9_guess 3 none 1 20 Z [.ref a0, .int x1] vV (f_X9_guess Z r0 x1) := by
  subst h0
  refine ct_of (lv0 := [(0, va_rf (some a0)), (1, .int x1)]) (by decide +kernel) (by simp [lg_sl, ct_i, ct_l, ct_r, rf_cat]) (by show _ = ([(0, Value.ref a0), (1, .int x1)] : List (Nat × Value)); simp [lv_args, ct_i, ct_l, ct_r, rf_cat]) (fun X cx hZ hfr hlo hr hin => ?_)
  subst hZ
  exact s_X9_guess cx (Nat.le_of_eq hfr.symm) (Nat.le_of_eq hlo.symm) hr (some a0) x1
/-! PolicyTree$Standing.knownFacts()I -/
theorem dX9_knownFacts_0 : decode cX9_knownFacts 0 = .ok (.aload_n 0, 1) := by decide +kernel
theorem dX9_knownFacts_1 : decode cX9_knownFacts 1 = .ok (.getfield 24, 3) := by decide +kernel
theorem dX9_knownFacts_4 : decode cX9_knownFacts 4 = .ok (.ireturn, 1) := by decide +kernel
def f_X9_knownFacts (r0 : Option Nat) : Mo Int32 := mb (gI 12 2 r0) (fun v1 => mp v1)
set_option maxRecDepth 100000 in
set_option maxHeartbeats 4000000 in
theorem s_X9_knownFacts {X : Cg} (cx : Cx X cX9_knownFacts RX9 1) (hfr : 0 ≤ (xR X).frames) (hlo : 0 ≤ (xR X).locals) (hr : (xM X).sig.returnType = (some .int)) (r0 : Option Nat) : Sim X 1 (FiM X vI) 0 [(0, va_rf r0)] [] (f_X9_knownFacts r0) := by
  unfold f_X9_knownFacts
  refine sm_aload_n cx 0 dX9_knownFacts_0 rfl rfl ?_
  refine sm_getI cx fl_X9_24 dX9_knownFacts_1 (fun v1 => ?_)
  exact sm_iret cx hr dX9_knownFacts_4
set_option maxRecDepth 100000 in
set_option maxHeartbeats 4000000 in
theorem ct_X9_knownFacts (Z : Nat → Nat) {r0 : Option Nat} (a0 : Nat) (h0 : r0 = some a0) : Ct yX9_knownFacts cX9_knownFacts 1 (some .int) 0 0 Z [.ref a0] vI (f_X9_knownFacts r0) := by
  subst h0
  refine ct_of (lv0 := [(0, va_rf (some a0))]) (by decide +kernel) (by simp [lg_sl, ct_i, ct_l, ct_r, rf_cat]) (by show _ = ([(0, Value.ref a0)] : List (Nat × Value)); simp [lv_args, ct_i, ct_l, ct_r, rf_cat]) (fun X cx hZ hfr hlo hr hin => ?_)
  subst hZ
  exact s_X9_knownFacts cx (Nat.le_of_eq hfr.symm) (Nat.le_of_eq hlo.symm) hr (some a0)
/-! PolicyTree$Standing.weighAtom(II)J -/
theorem dX9_weighAtom_0 : decode cX9_weighAtom 0 = .ok (.iload_n 1, 1) := by decide +kernel
theorem dX9_weighAtom_1 : decode cX9_weighAtom 1 = .ok (.ifCond .ne 23, 3) := by decide +kernel
theorem dX9_weighAtom_4 : decode cX9_weighAtom 4 = .ok (.aload_n 0, 1) := by decide +kernel
theorem dX9_weighAtom_5 : decode cX9_weighAtom 5 = .ok (.getfield 34, 3) := by decide +kernel
theorem dX9_weighAtom_8 : decode cX9_weighAtom 8 = .ok (.iload_n 2, 1) := by decide +kernel
theorem dX9_weighAtom_9 : decode cX9_weighAtom 9 = .ok (.iushr, 1) := by decide +kernel
theorem dX9_weighAtom_10 : decode cX9_weighAtom 10 = .ok (.iconst 1, 1) := by decide +kernel
theorem dX9_weighAtom_11 : decode cX9_weighAtom 11 = .ok (.iand, 1) := by decide +kernel
theorem dX9_weighAtom_12 : decode cX9_weighAtom 12 = .ok (.ifCond .eq 7, 3) := by decide +kernel
theorem dX9_weighAtom_15 : decode cX9_weighAtom 15 = .ok (.iconst 1, 1) := by decide +kernel
theorem dX9_weighAtom_16 : decode cX9_weighAtom 16 = .ok (.goto 4, 3) := by decide +kernel
theorem dX9_weighAtom_19 : decode cX9_weighAtom 19 = .ok (.iconst 0, 1) := by decide +kernel
theorem dX9_weighAtom_20 : decode cX9_weighAtom 20 = .ok (.invokestatic 41, 3) := by decide +kernel
theorem dX9_weighAtom_23 : decode cX9_weighAtom 23 = .ok (.lreturn, 1) := by decide +kernel
theorem dX9_weighAtom_24 : decode cX9_weighAtom 24 = .ok (.iload_n 1, 1) := by decide +kernel
theorem dX9_weighAtom_25 : decode cX9_weighAtom 25 = .ok (.iconst 2, 1) := by decide +kernel
theorem dX9_weighAtom_26 : decode cX9_weighAtom 26 = .ok (.if_icmp .ne 25, 3) := by decide +kernel
theorem dX9_weighAtom_29 : decode cX9_weighAtom 29 = .ok (.aload_n 0, 1) := by decide +kernel
theorem dX9_weighAtom_30 : decode cX9_weighAtom 30 = .ok (.getfield 37, 3) := by decide +kernel
theorem dX9_weighAtom_33 : decode cX9_weighAtom 33 = .ok (.iload_n 2, 1) := by decide +kernel
theorem dX9_weighAtom_34 : decode cX9_weighAtom 34 = .ok (.lushr, 1) := by decide +kernel
theorem dX9_weighAtom_35 : decode cX9_weighAtom 35 = .ok (.lconst 1, 1) := by decide +kernel
theorem dX9_weighAtom_36 : decode cX9_weighAtom 36 = .ok (.land, 1) := by decide +kernel
theorem dX9_weighAtom_37 : decode cX9_weighAtom 37 = .ok (.lconst 0, 1) := by decide +kernel
theorem dX9_weighAtom_38 : decode cX9_weighAtom 38 = .ok (.lcmp, 1) := by decide +kernel
theorem dX9_weighAtom_39 : decode cX9_weighAtom 39 = .ok (.ifCond .eq 7, 3) := by decide +kernel
theorem dX9_weighAtom_42 : decode cX9_weighAtom 42 = .ok (.iconst 1, 1) := by decide +kernel
theorem dX9_weighAtom_43 : decode cX9_weighAtom 43 = .ok (.goto 4, 3) := by decide +kernel
theorem dX9_weighAtom_46 : decode cX9_weighAtom 46 = .ok (.iconst 0, 1) := by decide +kernel
theorem dX9_weighAtom_47 : decode cX9_weighAtom 47 = .ok (.invokestatic 41, 3) := by decide +kernel
theorem dX9_weighAtom_50 : decode cX9_weighAtom 50 = .ok (.lreturn, 1) := by decide +kernel
theorem dX9_weighAtom_51 : decode cX9_weighAtom 51 = .ok (.iload_n 2, 1) := by decide +kernel
theorem dX9_weighAtom_52 : decode cX9_weighAtom 52 = .ok (.ifCond .lt 21, 3) := by decide +kernel
theorem dX9_weighAtom_55 : decode cX9_weighAtom 55 = .ok (.iload_n 2, 1) := by decide +kernel
theorem dX9_weighAtom_56 : decode cX9_weighAtom 56 = .ok (.aload_n 0, 1) := by decide +kernel
theorem dX9_weighAtom_57 : decode cX9_weighAtom 57 = .ok (.getfield 15, 3) := by decide +kernel
theorem dX9_weighAtom_60 : decode cX9_weighAtom 60 = .ok (.arraylength, 1) := by decide +kernel
theorem dX9_weighAtom_61 : decode cX9_weighAtom 61 = .ok (.if_icmp .ge 12, 3) := by decide +kernel
theorem dX9_weighAtom_64 : decode cX9_weighAtom 64 = .ok (.aload_n 0, 1) := by decide +kernel
theorem dX9_weighAtom_65 : decode cX9_weighAtom 65 = .ok (.getfield 15, 3) := by decide +kernel
theorem dX9_weighAtom_68 : decode cX9_weighAtom 68 = .ok (.iload_n 2, 1) := by decide +kernel
theorem dX9_weighAtom_69 : decode cX9_weighAtom 69 = .ok (.laload, 1) := by decide +kernel
theorem dX9_weighAtom_70 : decode cX9_weighAtom 70 = .ok (.goto 4, 3) := by decide +kernel
theorem dX9_weighAtom_73 : decode cX9_weighAtom 73 = .ok (.lconst 0, 1) := by decide +kernel
theorem dX9_weighAtom_74 : decode cX9_weighAtom 74 = .ok (.lreturn, 1) := by decide +kernel
def f_X9_weighAtom_20 (sx0 : Int32) : Mo Int64 := mb (f_X9_spread sx0) (fun v20 => mp v20)
set_option maxRecDepth 100000 in
set_option maxHeartbeats 4000000 in
theorem s_X9_weighAtom_20 {X : Cg} (cx : Cx X cX9_weighAtom RX9 3) (hfr : 1 ≤ (xR X).frames) (hlo : 20 ≤ (xR X).locals) (hr : (xM X).sig.returnType = (some .long)) (sx0 : Int32) : Sim X 3 (FiM X vL) 20 [] [.int sx0] (f_X9_weighAtom_20 sx0) := by
  unfold f_X9_weighAtom_20
  refine sm_callS (toV := vL) cx [.int sx0] cs_X9_41 (ct_X9_spread (xZ X) sx0) (Nat.le_trans (by decide) hfr) (Nat.le_trans (by decide) hlo) rfl (cat_le _ (Nat.le_of_ble_eq_true rfl)) dX9_weighAtom_20 (fun v20 => ?_)
  exact sm_lret cx hr dX9_weighAtom_23
def f_X9_weighAtom_47 (sx0 : Int32) : Mo Int64 := mb (f_X9_spread sx0) (fun v47 => mp v47)
set_option maxRecDepth 100000 in
set_option maxHeartbeats 4000000 in
theorem s_X9_weighAtom_47 {X : Cg} (cx : Cx X cX9_weighAtom RX9 3) (hfr : 1 ≤ (xR X).frames) (hlo : 20 ≤ (xR X).locals) (hr : (xM X).sig.returnType = (some .long)) (sx0 : Int32) : Sim X 3 (FiM X vL) 47 [] [.int sx0] (f_X9_weighAtom_47 sx0) := by
  unfold f_X9_weighAtom_47
  refine sm_callS (toV := vL) cx [.int sx0] cs_X9_41 (ct_X9_spread (xZ X) sx0) (Nat.le_trans (by decide) hfr) (Nat.le_trans (by decide) hlo) rfl (cat_le _ (Nat.le_of_ble_eq_true rfl)) dX9_weighAtom_47 (fun v47 => ?_)
  exact sm_lret cx hr dX9_weighAtom_50
def f_X9_weighAtom_74 (sl0 : Int64) : Mo Int64 := mp sl0
set_option maxRecDepth 100000 in
set_option maxHeartbeats 4000000 in
theorem s_X9_weighAtom_74 {X : Cg} (cx : Cx X cX9_weighAtom RX9 3) (hfr : 1 ≤ (xR X).frames) (hlo : 20 ≤ (xR X).locals) (hr : (xM X).sig.returnType = (some .long)) (sl0 : Int64) : Sim X 3 (FiM X vL) 74 [] [.long sl0] (f_X9_weighAtom_74 sl0) := by
  unfold f_X9_weighAtom_74
  exact sm_lret cx hr dX9_weighAtom_74
def f_X9_weighAtom_73 : Mo Int64 := f_X9_weighAtom_74 (0 : Int64)
set_option maxRecDepth 100000 in
set_option maxHeartbeats 4000000 in
theorem s_X9_weighAtom_73 {X : Cg} (cx : Cx X cX9_weighAtom RX9 3) (hfr : 1 ≤ (xR X).frames) (hlo : 20 ≤ (xR X).locals) (hr : (xM X).sig.returnType = (some .long)) : Sim X 3 (FiM X vL) 73 [] [] (f_X9_weighAtom_73) := by
  unfold f_X9_weighAtom_73
  refine sm_lconst (v := 0) cx dX9_weighAtom_73 (by decide) ?_
  exact sm_lv [] rfl (s_X9_weighAtom_74 cx hfr hlo hr (0 : Int64))
def f_X9_weighAtom (r0 : Option Nat) (x1 : Int32) (x2 : Int32) : Mo Int64 := (if x1 = 0 then mb (gI 12 4 r0) (fun v5 => (if ((jSh v5 x2) &&& (1 : Int32)) = 0 then f_X9_weighAtom_20 (0 : Int32) else f_X9_weighAtom_20 (1 : Int32))) else (if x1 = (2 : Int32) then mb (gL 12 5 r0) (fun v30 => (if (lg_cmp ((jSL v30 x2) &&& (1 : Int64)) (0 : Int64)) = 0 then f_X9_weighAtom_47 (0 : Int32) else f_X9_weighAtom_47 (1 : Int32))) else (if x2 < 0 then f_X9_weighAtom_73 else mb (gR 12 1 r0) (fun v57 => mb (aN 2 v57) (fun v60 => (if v60 ≤ x2 then f_X9_weighAtom_73 else mb (gR 12 1 r0) (fun v65 => mb (aL v65 x2) (fun v69 => f_X9_weighAtom_74 v69))))))))
set_option maxRecDepth 100000 in
set_option maxHeartbeats 4000000 in
theorem s_X9_weighAtom {X : Cg} (cx : Cx X cX9_weighAtom RX9 3) (hfr : 1 ≤ (xR X).frames) (hlo : 20 ≤ (xR X).locals) (hr : (xM X).sig.returnType = (some .long)) (r0 : Option Nat) (x1 : Int32) (x2 : Int32) : Sim X 3 (FiM X vL) 0 [(0, va_rf r0), (1, .int x1), (2, .int x2)] [] (f_X9_weighAtom r0 x1 x2) := by
  unfold f_X9_weighAtom
  refine sm_iload_n cx 1 dX9_weighAtom_0 rfl rfl ?_
  refine sm_if_ne (tgt := 24) cx dX9_weighAtom_1 (by decide) ?_ ?_
  · refine sm_iload_n cx 1 dX9_weighAtom_24 rfl rfl ?_
    refine sm_iconst (v := 2) cx dX9_weighAtom_25 (by decide) ?_
    refine sm_icmp_ne (tgt := 51) cx dX9_weighAtom_26 (by decide) ?_ ?_
    · refine sm_iload_n cx 2 dX9_weighAtom_51 rfl rfl ?_
      refine sm_if_lt (tgt := 73) cx dX9_weighAtom_52 (by decide) ?_ ?_
      · exact sm_lv [] rfl (s_X9_weighAtom_73 cx hfr hlo hr)
      · refine sm_iload_n cx 2 dX9_weighAtom_55 rfl rfl ?_
        refine sm_aload_n cx 0 dX9_weighAtom_56 rfl rfl ?_
        refine sm_getR cx fl_X9_15 dX9_weighAtom_57 (fun v57 => ?_)
        refine sm_alen cx 2 (by decide) dX9_weighAtom_60 (fun v60 => ?_)
        refine sm_icmp_ge (tgt := 73) cx dX9_weighAtom_61 (by decide) ?_ ?_
        · exact sm_lv [] rfl (s_X9_weighAtom_73 cx hfr hlo hr)
        · refine sm_aload_n cx 0 dX9_weighAtom_64 rfl rfl ?_
          refine sm_getR cx fl_X9_15 dX9_weighAtom_65 (fun v65 => ?_)
          refine sm_iload_n cx 2 dX9_weighAtom_68 rfl rfl ?_
          refine sm_lald cx dX9_weighAtom_69 (fun v69 => ?_)
          refine sm_goto (tgt := 74) cx dX9_weighAtom_70 (by decide) ?_
          exact sm_lv [] rfl (s_X9_weighAtom_74 cx hfr hlo hr v69)
    · refine sm_aload_n cx 0 dX9_weighAtom_29 rfl rfl ?_
      refine sm_getL cx fl_X9_37 dX9_weighAtom_30 (fun v30 => ?_)
      refine sm_iload_n cx 2 dX9_weighAtom_33 rfl rfl ?_
      refine sm_lushr cx dX9_weighAtom_34 ?_
      refine sm_lconst (v := 1) cx dX9_weighAtom_35 (by decide) ?_
      refine sm_land cx dX9_weighAtom_36 ?_
      refine sm_lconst (v := 0) cx dX9_weighAtom_37 (by decide) ?_
      refine sm_lcmp cx dX9_weighAtom_38 ?_
      refine sm_if_eq (tgt := 46) cx dX9_weighAtom_39 (by decide) ?_ ?_
      · refine sm_iconst (v := 0) cx dX9_weighAtom_46 (by decide) ?_
        exact sm_lv [] rfl (s_X9_weighAtom_47 cx hfr hlo hr (0 : Int32))
      · refine sm_iconst (v := 1) cx dX9_weighAtom_42 (by decide) ?_
        refine sm_goto (tgt := 47) cx dX9_weighAtom_43 (by decide) ?_
        exact sm_lv [] rfl (s_X9_weighAtom_47 cx hfr hlo hr (1 : Int32))
  · refine sm_aload_n cx 0 dX9_weighAtom_4 rfl rfl ?_
    refine sm_getI cx fl_X9_34 dX9_weighAtom_5 (fun v5 => ?_)
    refine sm_iload_n cx 2 dX9_weighAtom_8 rfl rfl ?_
    refine sm_iushr cx dX9_weighAtom_9 ?_
    refine sm_iconst (v := 1) cx dX9_weighAtom_10 (by decide) ?_
    refine sm_iand cx dX9_weighAtom_11 ?_
    refine sm_if_eq (tgt := 19) cx dX9_weighAtom_12 (by decide) ?_ ?_
    · refine sm_iconst (v := 0) cx dX9_weighAtom_19 (by decide) ?_
      exact sm_lv [] rfl (s_X9_weighAtom_20 cx hfr hlo hr (0 : Int32))
    · refine sm_iconst (v := 1) cx dX9_weighAtom_15 (by decide) ?_
      refine sm_goto (tgt := 20) cx dX9_weighAtom_16 (by decide) ?_
      exact sm_lv [] rfl (s_X9_weighAtom_20 cx hfr hlo hr (1 : Int32))
set_option maxRecDepth 100000 in
set_option maxHeartbeats 4000000 in
theorem ct_X9_weighAtom (Z : Nat → Nat) {r0 : Option Nat} (a0 : Nat) (h0 : r0 = some a0) (x1 : Int32) (x2 : Int32) : Ct yX9_weighAtom cX9_weighAtom 3 (some .long) 1 20 Z [.ref a0, .int x1, .int x2] vL (f_X9_weighAtom r0 x1 x2) := by
  subst h0
  refine ct_of (lv0 := [(0, va_rf (some a0)), (1, .int x1), (2, .int x2)]) (by decide +kernel) (by simp [lg_sl, ct_i, ct_l, ct_r, rf_cat]) (by show _ = ([(0, Value.ref a0), (1, .int x1), (2, .int x2)] : List (Nat × Value)); simp [lv_args, ct_i, ct_l, ct_r, rf_cat]) (fun X cx hZ hfr hlo hr hin => ?_)
  subst hZ
  exact s_X9_weighAtom cx (Nat.le_of_eq hfr.symm) (Nat.le_of_eq hlo.symm) hr (some a0) x1 x2
/-! PolicyTree$Filter.<init>([I)V -/
theorem dX1_init_0 : decode cX1_init 0 = .ok (.aload_n 0, 1) := by decide +kernel
theorem dX1_init_1 : decode cX1_init 1 = .ok (.invokespecial 1, 3) := by decide +kernel
theorem dX1_init_4 : decode cX1_init 4 = .ok (.aload_n 0, 1) := by decide +kernel
theorem dX1_init_5 : decode cX1_init 5 = .ok (.aload_n 1, 1) := by decide +kernel
theorem dX1_init_6 : decode cX1_init 6 = .ok (.putfield 7, 3) := by decide +kernel
theorem dX1_init_9 : decode cX1_init 9 = .ok (.return_, 1) := by decide +kernel
def f_X1_init (r0 : Option Nat) (r1 : Option Nat) : Mo Unit := mb (mo 4 r0 (mp ())) (fun _ => mb (pV 4 0 r0 (va_rf r1)) (fun _ => mp ()))
set_option maxRecDepth 100000 in
set_option maxHeartbeats 4000000 in
theorem s_X1_init {X : Cg} (cx : Cx X cX1_init RX1 2) (hfr : 1 ≤ (xR X).frames) (hlo : 12 ≤ (xR X).locals) (hr : (xM X).sig.returnType = none) (hin : (xM X).name = "<init>") (r0 : Option Nat) (r1 : Option Nat) : Sim X 2 (FiM X vV) 0 [(0, va_rf r0), (1, va_rf r1)] [] (f_X1_init r0 r1) := by
  unfold f_X1_init
  refine sm_aload_n cx 0 dX1_init_0 rfl rfl ?_
  refine sm_obj (ci := 4) cx wd_4_215 wd_1_41 wd_1_42 (Nat.le_trans (by decide) hfr) (Nat.le_trans (by decide) hlo) dX1_init_1 rfl ?_
  refine sm_aload_n cx 0 dX1_init_4 rfl rfl ?_
  refine sm_aload_n cx 1 dX1_init_5 rfl rfl ?_
  refine sm_putF cx hin fl_X1_7 (nr_ra _) (ft_ra _) dX1_init_6 ?_
  exact sm_vret cx hr dX1_init_9
set_option maxRecDepth 100000 in
set_option maxHeartbeats 4000000 in
theorem ct_X1_init (Z : Nat → Nat) {r0 : Option Nat} (a0 : Nat) (h0 : r0 = some a0) (r1 : Option Nat) : Ct yX1_init cX1_init 2 none 1 12 Z [.ref a0, va_rf r1] vV (f_X1_init r0 r1) := by
  subst h0
  refine ct_of (lv0 := [(0, va_rf (some a0)), (1, va_rf r1)]) (by decide +kernel) (by simp [lg_sl, ct_i, ct_l, ct_r, rf_cat]) (by show _ = ([(0, Value.ref a0), (1, va_rf r1)] : List (Nat × Value)); simp [lv_args, ct_i, ct_l, ct_r, rf_cat]) (fun X cx hZ hfr hlo hr hin => ?_)
  subst hZ
  exact s_X1_init cx (Nat.le_of_eq hfr.symm) (Nat.le_of_eq hlo.symm) hr hin (some a0) r1
/-! PolicyTree$Filter.mentionedFacts()I -/
theorem dX1_mentionedFacts_0 : decode cX1_mentionedFacts 0 = .ok (.iconst 0, 1) := by decide +kernel
theorem dX1_mentionedFacts_1 : decode cX1_mentionedFacts 1 = .ok (.istore_n 1, 1) := by decide +kernel
theorem dX1_mentionedFacts_2 : decode cX1_mentionedFacts 2 = .ok (.iconst 0, 1) := by decide +kernel
theorem dX1_mentionedFacts_3 : decode cX1_mentionedFacts 3 = .ok (.istore_n 2, 1) := by decide +kernel
theorem dX1_mentionedFacts_4 : decode cX1_mentionedFacts 4 = .ok (.iload_n 2, 1) := by decide +kernel
theorem dX1_mentionedFacts_5 : decode cX1_mentionedFacts 5 = .ok (.aload_n 0, 1) := by decide +kernel
theorem dX1_mentionedFacts_6 : decode cX1_mentionedFacts 6 = .ok (.getfield 7, 3) := by decide +kernel
theorem dX1_mentionedFacts_9 : decode cX1_mentionedFacts 9 = .ok (.arraylength, 1) := by decide +kernel
theorem dX1_mentionedFacts_10 : decode cX1_mentionedFacts 10 = .ok (.if_icmp .ge 38, 3) := by decide +kernel
theorem dX1_mentionedFacts_13 : decode cX1_mentionedFacts 13 = .ok (.aload_n 0, 1) := by decide +kernel
theorem dX1_mentionedFacts_14 : decode cX1_mentionedFacts 14 = .ok (.getfield 7, 3) := by decide +kernel
theorem dX1_mentionedFacts_17 : decode cX1_mentionedFacts 17 = .ok (.iload_n 2, 1) := by decide +kernel
theorem dX1_mentionedFacts_18 : decode cX1_mentionedFacts 18 = .ok (.iaload, 1) := by decide +kernel
theorem dX1_mentionedFacts_19 : decode cX1_mentionedFacts 19 = .ok (.sipush 256, 3) := by decide +kernel
theorem dX1_mentionedFacts_22 : decode cX1_mentionedFacts 22 = .ok (.idiv, 1) := by decide +kernel
theorem dX1_mentionedFacts_23 : decode cX1_mentionedFacts 23 = .ok (.iconst 1, 1) := by decide +kernel
theorem dX1_mentionedFacts_24 : decode cX1_mentionedFacts 24 = .ok (.if_icmp .ne 18, 3) := by decide +kernel
theorem dX1_mentionedFacts_27 : decode cX1_mentionedFacts 27 = .ok (.iload_n 1, 1) := by decide +kernel
theorem dX1_mentionedFacts_28 : decode cX1_mentionedFacts 28 = .ok (.iconst 1, 1) := by decide +kernel
theorem dX1_mentionedFacts_29 : decode cX1_mentionedFacts 29 = .ok (.aload_n 0, 1) := by decide +kernel
theorem dX1_mentionedFacts_30 : decode cX1_mentionedFacts 30 = .ok (.getfield 7, 3) := by decide +kernel
theorem dX1_mentionedFacts_33 : decode cX1_mentionedFacts 33 = .ok (.iload_n 2, 1) := by decide +kernel
theorem dX1_mentionedFacts_34 : decode cX1_mentionedFacts 34 = .ok (.iaload, 1) := by decide +kernel
theorem dX1_mentionedFacts_35 : decode cX1_mentionedFacts 35 = .ok (.sipush 256, 3) := by decide +kernel
theorem dX1_mentionedFacts_38 : decode cX1_mentionedFacts 38 = .ok (.irem, 1) := by decide +kernel
theorem dX1_mentionedFacts_39 : decode cX1_mentionedFacts 39 = .ok (.ishl, 1) := by decide +kernel
theorem dX1_mentionedFacts_40 : decode cX1_mentionedFacts 40 = .ok (.ior, 1) := by decide +kernel
theorem dX1_mentionedFacts_41 : decode cX1_mentionedFacts 41 = .ok (.istore_n 1, 1) := by decide +kernel
theorem dX1_mentionedFacts_42 : decode cX1_mentionedFacts 42 = .ok (.iinc 2 1, 3) := by decide +kernel
theorem dX1_mentionedFacts_45 : decode cX1_mentionedFacts 45 = .ok (.goto (-41), 3) := by decide +kernel
theorem dX1_mentionedFacts_48 : decode cX1_mentionedFacts 48 = .ok (.iload_n 1, 1) := by decide +kernel
theorem dX1_mentionedFacts_49 : decode cX1_mentionedFacts 49 = .ok (.ireturn, 1) := by decide +kernel
def f_X1_mentionedFacts_42 (k4 : Int32 → Int32 → Mo Int32) (r0 : Option Nat) (x1 : Int32) (x2 : Int32) : Mo Int32 := k4 x1 (x2 + 1)
set_option maxRecDepth 100000 in
set_option maxHeartbeats 4000000 in
theorem s_X1_mentionedFacts_42 {X : Cg} (cx : Cx X cX1_mentionedFacts RX1 3) (hfr : 0 ≤ (xR X).frames) (hlo : 0 ≤ (xR X).locals) (hr : (xM X).sig.returnType = (some .int)) (r0 : Option Nat) (x1 : Int32) (x2 : Int32) {k4 : Int32 → Int32 → Mo Int32} (hk4 : ∀ (x1 : Int32) (x2 : Int32), Sim X 3 (FiM X vI) 4 [(0, va_rf r0), (1, .int x1), (2, .int x2)] [] (k4 x1 x2)) : Sim X 3 (FiM X vI) 42 [(0, va_rf r0), (1, .int x1), (2, .int x2)] [] (f_X1_mentionedFacts_42 k4 r0 x1 x2) := by
  unfold f_X1_mentionedFacts_42
  refine sm_iinc cx 2 [(2, .int (x2 + 1)), (0, va_rf r0), (1, .int x1)] dX1_mentionedFacts_42 rfl rfl (by decide) rfl (nc1 rfl) rfl ?_
  refine sm_goto (tgt := 4) cx dX1_mentionedFacts_45 (by decide) ?_
  exact sm_lv [1, 2, 0] rfl (hk4 x1 (x2 + 1))
def f_X1_mentionedFacts_4 (r0 : Option Nat) : Nat → Int32 → Int32 → Mo Int32
  | 0, _, _ => mf
  | n + 1, x1, x2 => mb (gR 4 0 r0) (fun v6 => mb (aN 1 v6) (fun v9 => (if v9 ≤ x2 then mp x1 else mb (gR 4 0 r0) (fun v14 => mb (aI 1 v14 x2) (fun v18 => (if (v18 / (256 : Int32)) = (1 : Int32) then mb (gR 4 0 r0) (fun v30 => mb (aI 1 v30 x2) (fun v34 => f_X1_mentionedFacts_42 (f_X1_mentionedFacts_4 r0 n) r0 (x1 ||| ((1 : Int32) <<< ((v34 - v34 / (256 : Int32) * (256 : Int32)) &&& 31))) x2)) else f_X1_mentionedFacts_42 (f_X1_mentionedFacts_4 r0 n) r0 x1 x2))))))
set_option maxRecDepth 100000 in
set_option maxHeartbeats 4000000 in
theorem s_X1_mentionedFacts_4 {X : Cg} (cx : Cx X cX1_mentionedFacts RX1 3) (hfr : 0 ≤ (xR X).frames) (hlo : 0 ≤ (xR X).locals) (hr : (xM X).sig.returnType = (some .int)) (r0 : Option Nat) : ∀ (n : Nat) (x1 : Int32) (x2 : Int32), Sim X 3 (FiM X vI) 4 [(0, va_rf r0), (1, .int x1), (2, .int x2)] [] (f_X1_mentionedFacts_4 r0 n x1 x2) := by
  intro n
  induction n with
  | zero =>
    intro _ _
    exact sm_mf
  | succ n ih =>
    intro x1 x2
    rw [f_X1_mentionedFacts_4]
    refine sm_iload_n cx 2 dX1_mentionedFacts_4 rfl rfl ?_
    refine sm_aload_n cx 0 dX1_mentionedFacts_5 rfl rfl ?_
    refine sm_getR cx fl_X1_7 dX1_mentionedFacts_6 (fun v6 => ?_)
    refine sm_alen cx 1 (by decide) dX1_mentionedFacts_9 (fun v9 => ?_)
    refine sm_icmp_ge (tgt := 48) cx dX1_mentionedFacts_10 (by decide) ?_ ?_
    · refine sm_iload_n cx 1 dX1_mentionedFacts_48 rfl rfl ?_
      exact sm_iret cx hr dX1_mentionedFacts_49
    · refine sm_aload_n cx 0 dX1_mentionedFacts_13 rfl rfl ?_
      refine sm_getR cx fl_X1_7 dX1_mentionedFacts_14 (fun v14 => ?_)
      refine sm_iload_n cx 2 dX1_mentionedFacts_17 rfl rfl ?_
      refine sm_iald cx dX1_mentionedFacts_18 (fun v18 => ?_)
      refine sm_sipush (v := 256) cx dX1_mentionedFacts_19 (by decide) ?_
      refine sm_idiv cx dX1_mentionedFacts_22 (by decide) ?_
      refine sm_iconst (v := 1) cx dX1_mentionedFacts_23 (by decide) ?_
      refine sm_icmp_ne (tgt := 42) cx dX1_mentionedFacts_24 (by decide) ?_ ?_
      · exact sm_lv [0, 1, 2] rfl (s_X1_mentionedFacts_42 cx hfr hlo hr r0 x1 x2 ih)
      · refine sm_iload_n cx 1 dX1_mentionedFacts_27 rfl rfl ?_
        refine sm_iconst (v := 1) cx dX1_mentionedFacts_28 (by decide) ?_
        refine sm_aload_n cx 0 dX1_mentionedFacts_29 rfl rfl ?_
        refine sm_getR cx fl_X1_7 dX1_mentionedFacts_30 (fun v30 => ?_)
        refine sm_iload_n cx 2 dX1_mentionedFacts_33 rfl rfl ?_
        refine sm_iald cx dX1_mentionedFacts_34 (fun v34 => ?_)
        refine sm_sipush (v := 256) cx dX1_mentionedFacts_35 (by decide) ?_
        refine sm_irem cx dX1_mentionedFacts_38 (by decide) ?_
        refine sm_ishl cx dX1_mentionedFacts_39 ?_
        refine sm_ior cx dX1_mentionedFacts_40 ?_
        refine sm_istore_n cx [(1, .int (x1 ||| ((1 : Int32) <<< ((v34 - v34 / (256 : Int32) * (256 : Int32)) &&& 31)))), (0, va_rf r0), (2, .int x2)] dX1_mentionedFacts_41 rfl (by decide) rfl (nc1 (rf_cat _)) rfl ?_
        exact sm_lv [1, 0, 2] rfl (s_X1_mentionedFacts_42 cx hfr hlo hr r0 (x1 ||| ((1 : Int32) <<< ((v34 - v34 / (256 : Int32) * (256 : Int32)) &&& 31))) x2 ih)
def f_X1_mentionedFacts (r0 : Option Nat) : Mo Int32 := f_X1_mentionedFacts_4 r0 fuL (0 : Int32) (0 : Int32)
set_option maxRecDepth 100000 in
set_option maxHeartbeats 4000000 in
theorem s_X1_mentionedFacts {X : Cg} (cx : Cx X cX1_mentionedFacts RX1 3) (hfr : 0 ≤ (xR X).frames) (hlo : 0 ≤ (xR X).locals) (hr : (xM X).sig.returnType = (some .int)) (r0 : Option Nat) : Sim X 3 (FiM X vI) 0 [(0, va_rf r0)] [] (f_X1_mentionedFacts r0) := by
  unfold f_X1_mentionedFacts
  refine sm_iconst (v := 0) cx dX1_mentionedFacts_0 (by decide) ?_
  refine sm_istore_n cx [(1, .int (0 : Int32)), (0, va_rf r0)] dX1_mentionedFacts_1 rfl (by decide) rfl (nc1 (rf_cat _)) rfl ?_
  refine sm_iconst (v := 0) cx dX1_mentionedFacts_2 (by decide) ?_
  refine sm_istore_n cx [(2, .int (0 : Int32)), (1, .int (0 : Int32)), (0, va_rf r0)] dX1_mentionedFacts_3 rfl (by decide) rfl (nc1 rfl) rfl ?_
  exact sm_lv [2, 1, 0] rfl (s_X1_mentionedFacts_4 cx hfr hlo hr r0 fuL (0 : Int32) (0 : Int32))
set_option maxRecDepth 100000 in
set_option maxHeartbeats 4000000 in
theorem ct_X1_mentionedFacts (Z : Nat → Nat) {r0 : Option Nat} (a0 : Nat) (h0 : r0 = some a0) : Ct yX1_mentionedFacts cX1_mentionedFacts 3 (some .int) 0 0 Z [.ref a0] vI (f_X1_mentionedFacts r0) := by
  subst h0
  refine ct_of (lv0 := [(0, va_rf (some a0))]) (by decide +kernel) (by simp [lg_sl, ct_i, ct_l, ct_r, rf_cat]) (by show _ = ([(0, Value.ref a0)] : List (Nat × Value)); simp [lv_args, ct_i, ct_l, ct_r, rf_cat]) (fun X cx hZ hfr hlo hr hin => ?_)
  subst hZ
  exact s_X1_mentionedFacts cx (Nat.le_of_eq hfr.symm) (Nat.le_of_eq hlo.symm) hr (some a0)
/-! PolicyTree$Filter.weigh(LPolicyTree$Standing;)J -/
theorem dX1_weigh_0 : decode cX1_weigh 0 = .ok (.aload_n 1, 1) := by decide +kernel
theorem dX1_weigh_1 : decode cX1_weigh 1 = .ok (.getfield 13, 3) := by decide +kernel
theorem dX1_weigh_4 : decode cX1_weigh 4 = .ok (.astore_n 2, 1) := by decide +kernel
theorem dX1_weigh_5 : decode cX1_weigh 5 = .ok (.iconst 0, 1) := by decide +kernel
theorem dX1_weigh_6 : decode cX1_weigh 6 = .ok (.istore_n 3, 1) := by decide +kernel
theorem dX1_weigh_7 : decode cX1_weigh 7 = .ok (.iconst 0, 1) := by decide +kernel
theorem dX1_weigh_8 : decode cX1_weigh 8 = .ok (.istore 4, 2) := by decide +kernel
theorem dX1_weigh_10 : decode cX1_weigh 10 = .ok (.iload 4, 2) := by decide +kernel
theorem dX1_weigh_12 : decode cX1_weigh 12 = .ok (.aload_n 0, 1) := by decide +kernel
theorem dX1_weigh_13 : decode cX1_weigh 13 = .ok (.getfield 7, 3) := by decide +kernel
theorem dX1_weigh_16 : decode cX1_weigh 16 = .ok (.arraylength, 1) := by decide +kernel
theorem dX1_weigh_17 : decode cX1_weigh 17 = .ok (.if_icmp .ge 128, 3) := by decide +kernel
theorem dX1_weigh_20 : decode cX1_weigh 20 = .ok (.aload_n 0, 1) := by decide +kernel
theorem dX1_weigh_21 : decode cX1_weigh 21 = .ok (.getfield 7, 3) := by decide +kernel
theorem dX1_weigh_24 : decode cX1_weigh 24 = .ok (.iload 4, 2) := by decide +kernel
theorem dX1_weigh_26 : decode cX1_weigh 26 = .ok (.iaload, 1) := by decide +kernel
theorem dX1_weigh_27 : decode cX1_weigh 27 = .ok (.sipush 256, 3) := by decide +kernel
theorem dX1_weigh_30 : decode cX1_weigh 30 = .ok (.idiv, 1) := by decide +kernel
theorem dX1_weigh_31 : decode cX1_weigh 31 = .ok (.istore 5, 2) := by decide +kernel
theorem dX1_weigh_33 : decode cX1_weigh 33 = .ok (.iload 5, 2) := by decide +kernel
theorem dX1_weigh_35 : decode cX1_weigh 35 = .ok (.iconst 3, 1) := by decide +kernel
theorem dX1_weigh_36 : decode cX1_weigh 36 = .ok (.if_icmp .ge 35, 3) := by decide +kernel
theorem dX1_weigh_39 : decode cX1_weigh 39 = .ok (.iload_n 3, 1) := by decide +kernel
theorem dX1_weigh_40 : decode cX1_weigh 40 = .ok (.aload_n 2, 1) := by decide +kernel
theorem dX1_weigh_41 : decode cX1_weigh 41 = .ok (.arraylength, 1) := by decide +kernel
theorem dX1_weigh_42 : decode cX1_weigh 42 = .ok (.if_icmp .ge 97, 3) := by decide +kernel
theorem dX1_weigh_45 : decode cX1_weigh 45 = .ok (.aload_n 2, 1) := by decide +kernel
theorem dX1_weigh_46 : decode cX1_weigh 46 = .ok (.iload_n 3, 1) := by decide +kernel
theorem dX1_weigh_47 : decode cX1_weigh 47 = .ok (.aload_n 1, 1) := by decide +kernel
theorem dX1_weigh_48 : decode cX1_weigh 48 = .ok (.iload 5, 2) := by decide +kernel
theorem dX1_weigh_50 : decode cX1_weigh 50 = .ok (.aload_n 0, 1) := by decide +kernel
theorem dX1_weigh_51 : decode cX1_weigh 51 = .ok (.getfield 7, 3) := by decide +kernel
theorem dX1_weigh_54 : decode cX1_weigh 54 = .ok (.iload 4, 2) := by decide +kernel
theorem dX1_weigh_56 : decode cX1_weigh 56 = .ok (.iaload, 1) := by decide +kernel
theorem dX1_weigh_57 : decode cX1_weigh 57 = .ok (.sipush 256, 3) := by decide +kernel
theorem dX1_weigh_60 : decode cX1_weigh 60 = .ok (.irem, 1) := by decide +kernel
theorem dX1_weigh_61 : decode cX1_weigh 61 = .ok (.invokevirtual 19, 3) := by decide +kernel
theorem dX1_weigh_64 : decode cX1_weigh 64 = .ok (.lastore, 1) := by decide +kernel
theorem dX1_weigh_65 : decode cX1_weigh 65 = .ok (.iinc 3 1, 3) := by decide +kernel
theorem dX1_weigh_68 : decode cX1_weigh 68 = .ok (.goto 71, 3) := by decide +kernel
theorem dX1_weigh_71 : decode cX1_weigh 71 = .ok (.iload 5, 2) := by decide +kernel
theorem dX1_weigh_73 : decode cX1_weigh 73 = .ok (.iconst 3, 1) := by decide +kernel
theorem dX1_weigh_74 : decode cX1_weigh 74 = .ok (.if_icmp .ne 24, 3) := by decide +kernel
theorem dX1_weigh_77 : decode cX1_weigh 77 = .ok (.iload_n 3, 1) := by decide +kernel
theorem dX1_weigh_78 : decode cX1_weigh 78 = .ok (.ifCond .le 61, 3) := by decide +kernel
theorem dX1_weigh_81 : decode cX1_weigh 81 = .ok (.aload_n 2, 1) := by decide +kernel
theorem dX1_weigh_82 : decode cX1_weigh 82 = .ok (.iload_n 3, 1) := by decide +kernel
theorem dX1_weigh_83 : decode cX1_weigh 83 = .ok (.iconst 1, 1) := by decide +kernel
theorem dX1_weigh_84 : decode cX1_weigh 84 = .ok (.isub, 1) := by decide +kernel
theorem dX1_weigh_85 : decode cX1_weigh 85 = .ok (.aload_n 2, 1) := by decide +kernel
theorem dX1_weigh_86 : decode cX1_weigh 86 = .ok (.iload_n 3, 1) := by decide +kernel
theorem dX1_weigh_87 : decode cX1_weigh 87 = .ok (.iconst 1, 1) := by decide +kernel
theorem dX1_weigh_88 : decode cX1_weigh 88 = .ok (.isub, 1) := by decide +kernel
theorem dX1_weigh_89 : decode cX1_weigh 89 = .ok (.laload, 1) := by decide +kernel
theorem dX1_weigh_90 : decode cX1_weigh 90 = .ok (.ldc2_w 23, 3) := by decide +kernel
theorem dX1_weigh_93 : decode cX1_weigh 93 = .ok (.lxor, 1) := by decide +kernel
theorem dX1_weigh_94 : decode cX1_weigh 94 = .ok (.lastore, 1) := by decide +kernel
theorem dX1_weigh_95 : decode cX1_weigh 95 = .ok (.goto 44, 3) := by decide +kernel
theorem dX1_weigh_98 : decode cX1_weigh 98 = .ok (.iload_n 3, 1) := by decide +kernel
theorem dX1_weigh_99 : decode cX1_weigh 99 = .ok (.iconst 1, 1) := by decide +kernel
theorem dX1_weigh_100 : decode cX1_weigh 100 = .ok (.if_icmp .le 39, 3) := by decide +kernel
theorem dX1_weigh_103 : decode cX1_weigh 103 = .ok (.iinc 3 (-1), 3) := by decide +kernel
theorem dX1_weigh_106 : decode cX1_weigh 106 = .ok (.aload_n 2, 1) := by decide +kernel
theorem dX1_weigh_107 : decode cX1_weigh 107 = .ok (.iload_n 3, 1) := by decide +kernel
theorem dX1_weigh_108 : decode cX1_weigh 108 = .ok (.iconst 1, 1) := by decide +kernel
theorem dX1_weigh_109 : decode cX1_weigh 109 = .ok (.isub, 1) := by decide +kernel
theorem dX1_weigh_110 : decode cX1_weigh 110 = .ok (.laload, 1) := by decide +kernel
theorem dX1_weigh_111 : decode cX1_weigh 111 = .ok (.lstore 6, 2) := by decide +kernel
theorem dX1_weigh_113 : decode cX1_weigh 113 = .ok (.aload_n 2, 1) := by decide +kernel
theorem dX1_weigh_114 : decode cX1_weigh 114 = .ok (.iload_n 3, 1) := by decide +kernel
theorem dX1_weigh_115 : decode cX1_weigh 115 = .ok (.iconst 1, 1) := by decide +kernel
theorem dX1_weigh_116 : decode cX1_weigh 116 = .ok (.isub, 1) := by decide +kernel
theorem dX1_weigh_117 : decode cX1_weigh 117 = .ok (.iload 5, 2) := by decide +kernel
theorem dX1_weigh_119 : decode cX1_weigh 119 = .ok (.iconst 4, 1) := by decide +kernel
theorem dX1_weigh_120 : decode cX1_weigh 120 = .ok (.if_icmp .ne 12, 3) := by decide +kernel
theorem dX1_weigh_123 : decode cX1_weigh 123 = .ok (.lload 6, 2) := by decide +kernel
theorem dX1_weigh_125 : decode cX1_weigh 125 = .ok (.aload_n 2, 1) := by decide +kernel
theorem dX1_weigh_126 : decode cX1_weigh 126 = .ok (.iload_n 3, 1) := by decide +kernel
theorem dX1_weigh_127 : decode cX1_weigh 127 = .ok (.laload, 1) := by decide +kernel
theorem dX1_weigh_128 : decode cX1_weigh 128 = .ok (.land, 1) := by decide +kernel
theorem dX1_weigh_129 : decode cX1_weigh 129 = .ok (.goto 9, 3) := by decide +kernel
theorem dX1_weigh_132 : decode cX1_weigh 132 = .ok (.lload 6, 2) := by decide +kernel
theorem dX1_weigh_134 : decode cX1_weigh 134 = .ok (.aload_n 2, 1) := by decide +kernel
theorem dX1_weigh_135 : decode cX1_weigh 135 = .ok (.iload_n 3, 1) := by decide +kernel
theorem dX1_weigh_136 : decode cX1_weigh 136 = .ok (.laload, 1) := by decide +kernel
theorem dX1_weigh_137 : decode cX1_weigh 137 = .ok (.lor, 1) := by decide +kernel
theorem dX1_weigh_138 : decode cX1_weigh 138 = .ok (.lastore, 1) := by decide +kernel
theorem dX1_weigh_139 : decode cX1_weigh 139 = .ok (.iinc 4 1, 3) := by decide +kernel
theorem dX1_weigh_142 : decode cX1_weigh 142 = .ok (.goto (-132), 3) := by decide +kernel
theorem dX1_weigh_145 : decode cX1_weigh 145 = .ok (.iload_n 3, 1) := by decide +kernel
theorem dX1_weigh_146 : decode cX1_weigh 146 = .ok (.ifCond .le 11, 3) := by decide +kernel
theorem dX1_weigh_149 : decode cX1_weigh 149 = .ok (.aload_n 2, 1) := by decide +kernel
theorem dX1_weigh_150 : decode cX1_weigh 150 = .ok (.iload_n 3, 1) := by decide +kernel
theorem dX1_weigh_151 : decode cX1_weigh 151 = .ok (.iconst 1, 1) := by decide +kernel
theorem dX1_weigh_152 : decode cX1_weigh 152 = .ok (.isub, 1) := by decide +kernel
theorem dX1_weigh_153 : decode cX1_weigh 153 = .ok (.laload, 1) := by decide +kernel
theorem dX1_weigh_154 : decode cX1_weigh 154 = .ok (.goto 6, 3) := by decide +kernel
theorem dX1_weigh_157 : decode cX1_weigh 157 = .ok (.ldc2_w 23, 3) := by decide +kernel
theorem dX1_weigh_160 : decode cX1_weigh 160 = .ok (.lreturn, 1) := by decide +kernel
def f_X1_weigh_139 (k10 : Int32 → Int32 → Mo Int64) (r0 : Option Nat) (r1 : Option Nat) (r2 : Option Nat) (x3 : Int32) (x4 : Int32) : Mo Int64 := k10 x3 (x4 + 1)
set_option maxRecDepth 100000 in
set_option maxHeartbeats 4000000 in
theorem s_X1_weigh_139 {X : Cg} (cx : Cx X cX1_weigh RX1 8) (hfr : 2 ≤ (xR X).frames) (hlo : 42 ≤ (xR X).locals) (hr : (xM X).sig.returnType = (some .long)) (r0 : Option Nat) (r1 : Option Nat) (r2 : Option Nat) (x3 : Int32) (x4 : Int32) {k10 : Int32 → Int32 → Mo Int64} (hk10 : ∀ (x3 : Int32) (x4 : Int32), Sim X 8 (FiM X vL) 10 [(0, va_rf r0), (1, va_rf r1), (2, va_rf r2), (3, .int x3), (4, .int x4)] [] (k10 x3 x4)) : Sim X 8 (FiM X vL) 139 [(0, va_rf r0), (1, va_rf r1), (2, va_rf r2), (3, .int x3), (4, .int x4)] [] (f_X1_weigh_139 k10 r0 r1 r2 x3 x4) := by
  unfold f_X1_weigh_139
  refine sm_iinc cx 4 [(4, .int (x4 + 1)), (0, va_rf r0), (1, va_rf r1), (2, va_rf r2), (3, .int x3)] dX1_weigh_139 rfl rfl (by decide) rfl (nc1 rfl) rfl ?_
  refine sm_goto (tgt := 10) cx dX1_weigh_142 (by decide) ?_
  exact sm_lv [1, 2, 3, 4, 0] rfl (hk10 x3 (x4 + 1))
def f_X1_weigh_138 (k10 : Int32 → Int32 → Mo Int64) (r0 : Option Nat) (r1 : Option Nat) (r2 : Option Nat) (x3 : Int32) (x4 : Int32) (sr0 : Option Nat) (sx1 : Int32) (sl2 : Int64) : Mo Int64 := mb (sL sr0 sx1 sl2) (fun _ => f_X1_weigh_139 k10 r0 r1 r2 x3 x4)
set_option maxRecDepth 100000 in
set_option maxHeartbeats 4000000 in
theorem s_X1_weigh_138 {X : Cg} (cx : Cx X cX1_weigh RX1 8) (hfr : 2 ≤ (xR X).frames) (hlo : 42 ≤ (xR X).locals) (hr : (xM X).sig.returnType = (some .long)) (r0 : Option Nat) (r1 : Option Nat) (r2 : Option Nat) (x3 : Int32) (x4 : Int32) (sr0 : Option Nat) (sx1 : Int32) (sl2 : Int64) {k10 : Int32 → Int32 → Mo Int64} (hk10 : ∀ (x3 : Int32) (x4 : Int32), Sim X 8 (FiM X vL) 10 [(0, va_rf r0), (1, va_rf r1), (2, va_rf r2), (3, .int x3), (4, .int x4)] [] (k10 x3 x4)) : Sim X 8 (FiM X vL) 138 [(0, va_rf r0), (1, va_rf r1), (2, va_rf r2), (3, .int x3), (4, .int x4)] [.long sl2, .int sx1, va_rf sr0] (f_X1_weigh_138 k10 r0 r1 r2 x3 x4 sr0 sx1 sl2) := by
  unfold f_X1_weigh_138
  refine sm_last cx dX1_weigh_138 ?_
  exact sm_lv [0, 1, 2, 3, 4] rfl (s_X1_weigh_139 cx hfr hlo hr r0 r1 r2 x3 x4 hk10)
def f_X1_weigh_160 (sl0 : Int64) : Mo Int64 := mp sl0
set_option maxRecDepth 100000 in
set_option maxHeartbeats 4000000 in
theorem s_X1_weigh_160 {X : Cg} (cx : Cx X cX1_weigh RX1 8) (hfr : 2 ≤ (xR X).frames) (hlo : 42 ≤ (xR X).locals) (hr : (xM X).sig.returnType = (some .long)) (sl0 : Int64) : Sim X 8 (FiM X vL) 160 [] [.long sl0] (f_X1_weigh_160 sl0) := by
  unfold f_X1_weigh_160
  exact sm_lret cx hr dX1_weigh_160
def f_X1_weigh_10 (r0 : Option Nat) (r1 : Option Nat) (r2 : Option Nat) : Nat → Int32 → Int32 → Mo Int64
  | 0, _, _ => mf
  | n + 1, x3, x4 => mb (gR 4 0 r0) (fun v13 => mb (aN 1 v13) (fun v16 => (if v16 ≤ x4 then (if x3 ≤ 0 then f_X1_weigh_160 (-1 : Int64) else mb (aL r2 (x3 - (1 : Int32))) (fun v153 => f_X1_weigh_160 v153)) else mb (gR 4 0 r0) (fun v21 => mb (aI 1 v21 x4) (fun v26 => (if (3 : Int32) ≤ (v26 / (256 : Int32)) then (if (v26 / (256 : Int32)) = (3 : Int32) then (if x3 ≤ 0 then f_X1_weigh_139 (f_X1_weigh_10 r0 r1 r2 n) r0 r1 r2 x3 x4 else mb (aL r2 (x3 - (1 : Int32))) (fun v89 => mb (sL r2 (x3 - (1 : Int32)) (v89 ^^^ (-1 : Int64))) (fun _ => f_X1_weigh_139 (f_X1_weigh_10 r0 r1 r2 n) r0 r1 r2 x3 x4))) else (if x3 ≤ (1 : Int32) then f_X1_weigh_139 (f_X1_weigh_10 r0 r1 r2 n) r0 r1 r2 x3 x4 else mb (aL r2 ((x3 + (-1)) - (1 : Int32))) (fun v110 => (if (v26 / (256 : Int32)) = (4 : Int32) then mb (aL r2 (x3 + (-1))) (fun v127 => f_X1_weigh_138 (f_X1_weigh_10 r0 r1 r2 n) r0 r1 r2 (x3 + (-1)) x4 r2 ((x3 + (-1)) - (1 : Int32)) (v110 &&& v127)) else mb (aL r2 (x3 + (-1))) (fun v136 => f_X1_weigh_138 (f_X1_weigh_10 r0 r1 r2 n) r0 r1 r2 (x3 + (-1)) x4 r2 ((x3 + (-1)) - (1 : Int32)) (v110 ||| v136)))))) else mb (aN 2 r2) (fun v41 => (if v41 ≤ x3 then f_X1_weigh_139 (f_X1_weigh_10 r0 r1 r2 n) r0 r1 r2 x3 x4 else mb (gR 4 0 r0) (fun v51 => mb (aI 1 v51 x4) (fun v56 => mb (mo 12 r1 (f_X9_weighAtom r1 (v26 / (256 : Int32)) (v56 - v56 / (256 : Int32) * (256 : Int32)))) (fun v61 => mb (sL r2 x3 v61) (fun _ => f_X1_weigh_139 (f_X1_weigh_10 r0 r1 r2 n) r0 r1 r2 (x3 + 1) x4))))))))))))
set_option maxRecDepth 100000 in
set_option maxHeartbeats 4000000 in
theorem s_X1_weigh_10 {X : Cg} (cx : Cx X cX1_weigh RX1 8) (hfr : 2 ≤ (xR X).frames) (hlo : 42 ≤ (xR X).locals) (hr : (xM X).sig.returnType = (some .long)) (r0 : Option Nat) (r1 : Option Nat) (r2 : Option Nat) : ∀ (n : Nat) (x3 : Int32) (x4 : Int32), Sim X 8 (FiM X vL) 10 [(0, va_rf r0), (1, va_rf r1), (2, va_rf r2), (3, .int x3), (4, .int x4)] [] (f_X1_weigh_10 r0 r1 r2 n x3 x4) := by
  intro n
  induction n with
  | zero =>
    intro _ _
    exact sm_mf
  | succ n ih =>
    intro x3 x4
    rw [f_X1_weigh_10]
    refine sm_iload cx 4 dX1_weigh_10 rfl ?_
    refine sm_aload_n cx 0 dX1_weigh_12 rfl rfl ?_
    refine sm_getR cx fl_X1_7 dX1_weigh_13 (fun v13 => ?_)
    refine sm_alen cx 1 (by decide) dX1_weigh_16 (fun v16 => ?_)
    refine sm_icmp_ge (tgt := 145) cx dX1_weigh_17 (by decide) ?_ ?_
    · refine sm_iload_n cx 3 dX1_weigh_145 rfl rfl ?_
      refine sm_if_le (tgt := 157) cx dX1_weigh_146 (by decide) ?_ ?_
      · refine sm_ldc2 (v := -1) cx dX1_weigh_157 wd_3_126 ?_
        exact sm_lv [] rfl (s_X1_weigh_160 cx hfr hlo hr (-1 : Int64))
      · refine sm_aload_n cx 2 dX1_weigh_149 rfl rfl ?_
        refine sm_iload_n cx 3 dX1_weigh_150 rfl rfl ?_
        refine sm_iconst (v := 1) cx dX1_weigh_151 (by decide) ?_
        refine sm_isub cx dX1_weigh_152 ?_
        refine sm_lald cx dX1_weigh_153 (fun v153 => ?_)
        refine sm_goto (tgt := 160) cx dX1_weigh_154 (by decide) ?_
        exact sm_lv [] rfl (s_X1_weigh_160 cx hfr hlo hr v153)
    · refine sm_aload_n cx 0 dX1_weigh_20 rfl rfl ?_
      refine sm_getR cx fl_X1_7 dX1_weigh_21 (fun v21 => ?_)
      refine sm_iload cx 4 dX1_weigh_24 rfl ?_
      refine sm_iald cx dX1_weigh_26 (fun v26 => ?_)
      refine sm_sipush (v := 256) cx dX1_weigh_27 (by decide) ?_
      refine sm_idiv cx dX1_weigh_30 (by decide) ?_
      refine sm_istore cx [(5, .int (v26 / (256 : Int32))), (0, va_rf r0), (1, va_rf r1), (2, va_rf r2), (3, .int x3), (4, .int x4)] dX1_weigh_31 (by decide) rfl (nc1 rfl) rfl ?_
      refine sm_iload cx 0 dX1_weigh_33 rfl ?_
      refine sm_iconst (v := 3) cx dX1_weigh_35 (by decide) ?_
      refine sm_icmp_ge (tgt := 71) cx dX1_weigh_36 (by decide) ?_ ?_
      · refine sm_iload cx 0 dX1_weigh_71 rfl ?_
        refine sm_iconst (v := 3) cx dX1_weigh_73 (by decide) ?_
        refine sm_icmp_ne (tgt := 98) cx dX1_weigh_74 (by decide) ?_ ?_
        · refine sm_iload_n cx 4 dX1_weigh_98 rfl rfl ?_
          refine sm_iconst (v := 1) cx dX1_weigh_99 (by decide) ?_
          refine sm_icmp_le (tgt := 139) cx dX1_weigh_100 (by decide) ?_ ?_
          · exact sm_lv [1, 2, 3, 4, 5] rfl (s_X1_weigh_139 cx hfr hlo hr r0 r1 r2 x3 x4 ih)
          · refine sm_iinc cx 4 [(3, .int (x3 + (-1))), (5, .int (v26 / (256 : Int32))), (0, va_rf r0), (1, va_rf r1), (2, va_rf r2), (4, .int x4)] dX1_weigh_103 rfl rfl (by decide) rfl (nc1 (rf_cat _)) rfl ?_
            refine sm_aload_n cx 4 dX1_weigh_106 rfl rfl ?_
            refine sm_iload_n cx 0 dX1_weigh_107 rfl rfl ?_
            refine sm_iconst (v := 1) cx dX1_weigh_108 (by decide) ?_
            refine sm_isub cx dX1_weigh_109 ?_
            refine sm_lald cx dX1_weigh_110 (fun v110 => ?_)
            refine sm_lstore cx [(6, .long v110), (3, .int (x3 + (-1))), (5, .int (v26 / (256 : Int32))), (0, va_rf r0), (1, va_rf r1), (2, va_rf r2), (4, .int x4)] dX1_weigh_111 (by decide) rfl (nc1 rfl) rfl ?_
            refine sm_aload_n cx 5 dX1_weigh_113 rfl rfl ?_
            refine sm_iload_n cx 1 dX1_weigh_114 rfl rfl ?_
            refine sm_iconst (v := 1) cx dX1_weigh_115 (by decide) ?_
            refine sm_isub cx dX1_weigh_116 ?_
            refine sm_iload cx 2 dX1_weigh_117 rfl ?_
            refine sm_iconst (v := 4) cx dX1_weigh_119 (by decide) ?_
            refine sm_icmp_ne (tgt := 132) cx dX1_weigh_120 (by decide) ?_ ?_
            · refine sm_lload cx 0 dX1_weigh_132 rfl ?_
              refine sm_aload_n cx 5 dX1_weigh_134 rfl rfl ?_
              refine sm_iload_n cx 1 dX1_weigh_135 rfl rfl ?_
              refine sm_lald cx dX1_weigh_136 (fun v136 => ?_)
              refine sm_lor cx dX1_weigh_137 ?_
              exact sm_lv [3, 4, 5, 1, 6] rfl (s_X1_weigh_138 cx hfr hlo hr r0 r1 r2 (x3 + (-1)) x4 r2 ((x3 + (-1)) - (1 : Int32)) (v110 ||| v136) ih)
            · refine sm_lload cx 0 dX1_weigh_123 rfl ?_
              refine sm_aload_n cx 5 dX1_weigh_125 rfl rfl ?_
              refine sm_iload_n cx 1 dX1_weigh_126 rfl rfl ?_
              refine sm_lald cx dX1_weigh_127 (fun v127 => ?_)
              refine sm_land cx dX1_weigh_128 ?_
              refine sm_goto (tgt := 138) cx dX1_weigh_129 (by decide) ?_
              exact sm_lv [3, 4, 5, 1, 6] rfl (s_X1_weigh_138 cx hfr hlo hr r0 r1 r2 (x3 + (-1)) x4 r2 ((x3 + (-1)) - (1 : Int32)) (v110 &&& v127) ih)
        · refine sm_iload_n cx 4 dX1_weigh_77 rfl rfl ?_
          refine sm_if_le (tgt := 139) cx dX1_weigh_78 (by decide) ?_ ?_
          · exact sm_lv [1, 2, 3, 4, 5] rfl (s_X1_weigh_139 cx hfr hlo hr r0 r1 r2 x3 x4 ih)
          · refine sm_aload_n cx 3 dX1_weigh_81 rfl rfl ?_
            refine sm_iload_n cx 4 dX1_weigh_82 rfl rfl ?_
            refine sm_iconst (v := 1) cx dX1_weigh_83 (by decide) ?_
            refine sm_isub cx dX1_weigh_84 ?_
            refine sm_aload_n cx 3 dX1_weigh_85 rfl rfl ?_
            refine sm_iload_n cx 4 dX1_weigh_86 rfl rfl ?_
            refine sm_iconst (v := 1) cx dX1_weigh_87 (by decide) ?_
            refine sm_isub cx dX1_weigh_88 ?_
            refine sm_lald cx dX1_weigh_89 (fun v89 => ?_)
            refine sm_ldc2 (v := -1) cx dX1_weigh_90 wd_3_126 ?_
            refine sm_lxor cx dX1_weigh_93 ?_
            refine sm_last cx dX1_weigh_94 ?_
            refine sm_goto (tgt := 139) cx dX1_weigh_95 (by decide) ?_
            exact sm_lv [1, 2, 3, 4, 5] rfl (s_X1_weigh_139 cx hfr hlo hr r0 r1 r2 x3 x4 ih)
      · refine sm_iload_n cx 4 dX1_weigh_39 rfl rfl ?_
        refine sm_aload_n cx 3 dX1_weigh_40 rfl rfl ?_
        refine sm_alen cx 2 (by decide) dX1_weigh_41 (fun v41 => ?_)
        refine sm_icmp_ge (tgt := 139) cx dX1_weigh_42 (by decide) ?_ ?_
        · exact sm_lv [1, 2, 3, 4, 5] rfl (s_X1_weigh_139 cx hfr hlo hr r0 r1 r2 x3 x4 ih)
        · refine sm_aload_n cx 3 dX1_weigh_45 rfl rfl ?_
          refine sm_iload_n cx 4 dX1_weigh_46 rfl rfl ?_
          refine sm_aload_n cx 2 dX1_weigh_47 rfl rfl ?_
          refine sm_iload cx 0 dX1_weigh_48 rfl ?_
          refine sm_aload_n cx 1 dX1_weigh_50 rfl rfl ?_
          refine sm_getR cx fl_X1_7 dX1_weigh_51 (fun v51 => ?_)
          refine sm_iload cx 5 dX1_weigh_54 rfl ?_
          refine sm_iald cx dX1_weigh_56 (fun v56 => ?_)
          refine sm_sipush (v := 256) cx dX1_weigh_57 (by decide) ?_
          refine sm_irem cx dX1_weigh_60 (by decide) ?_
          refine sm_callV (T := TX9) (N := 6) (toV := vL) cx [.int (v26 / (256 : Int32)), .int (v56 - v56 / (256 : Int32) * (256 : Int32))] rfl cv_X1_19 (fun a h => ct_X9_weighAtom (xZ X) a h (v26 / (256 : Int32)) (v56 - v56 / (256 : Int32) * (256 : Int32))) (Nat.le_trans (by decide) hfr) (Nat.le_trans (by decide) hlo) rfl (cat_le _ (Nat.le_of_ble_eq_true rfl)) dX1_weigh_61 (fun v61 => ?_)
          refine sm_last cx dX1_weigh_64 ?_
          refine sm_iinc cx 4 [(3, .int (x3 + 1)), (5, .int (v26 / (256 : Int32))), (0, va_rf r0), (1, va_rf r1), (2, va_rf r2), (4, .int x4)] dX1_weigh_65 rfl rfl (by decide) rfl (nc1 (rf_cat _)) rfl ?_
          refine sm_goto (tgt := 139) cx dX1_weigh_68 (by decide) ?_
          exact sm_lv [2, 3, 4, 0, 5] rfl (s_X1_weigh_139 cx hfr hlo hr r0 r1 r2 (x3 + 1) x4 ih)
def f_X1_weigh (r0 : Option Nat) (r1 : Option Nat) : Mo Int64 := mb (gR 12 0 r1) (fun v1 => f_X1_weigh_10 r0 r1 v1 fuL (0 : Int32) (0 : Int32))
set_option maxRecDepth 100000 in
set_option maxHeartbeats 4000000 in
theorem s_X1_weigh {X : Cg} (cx : Cx X cX1_weigh RX1 8) (hfr : 2 ≤ (xR X).frames) (hlo : 42 ≤ (xR X).locals) (hr : (xM X).sig.returnType = (some .long)) (r0 : Option Nat) (r1 : Option Nat) : Sim X 8 (FiM X vL) 0 [(0, va_rf r0), (1, va_rf r1)] [] (f_X1_weigh r0 r1) := by
  unfold f_X1_weigh
  refine sm_aload_n cx 1 dX1_weigh_0 rfl rfl ?_
  refine sm_getR cx fl_X1_13 dX1_weigh_1 (fun v1 => ?_)
  refine sm_astore_n cx [(2, va_rf v1), (0, va_rf r0), (1, va_rf r1)] dX1_weigh_4 rfl (by decide) rfl (nc1 (rf_cat _)) rfl ?_
  refine sm_iconst (v := 0) cx dX1_weigh_5 (by decide) ?_
  refine sm_istore_n cx [(3, .int (0 : Int32)), (2, va_rf v1), (0, va_rf r0), (1, va_rf r1)] dX1_weigh_6 rfl (by decide) rfl (nc1 (rf_cat _)) rfl ?_
  refine sm_iconst (v := 0) cx dX1_weigh_7 (by decide) ?_
  refine sm_istore cx [(4, .int (0 : Int32)), (3, .int (0 : Int32)), (2, va_rf v1), (0, va_rf r0), (1, va_rf r1)] dX1_weigh_8 (by decide) rfl (nc1 rfl) rfl ?_
  exact sm_lv [3, 4, 2, 1, 0] rfl (s_X1_weigh_10 cx hfr hlo hr r0 r1 v1 fuL (0 : Int32) (0 : Int32))
set_option maxRecDepth 100000 in
set_option maxHeartbeats 4000000 in
theorem ct_X1_weigh (Z : Nat → Nat) {r0 : Option Nat} (a0 : Nat) (h0 : r0 = some a0) (r1 : Option Nat) : Ct yX1_weigh cX1_weigh 8 (some .long) 2 42 Z [.ref a0, va_rf r1] vL (f_X1_weigh r0 r1) := by
  subst h0
  refine ct_of (lv0 := [(0, va_rf (some a0)), (1, va_rf r1)]) (by decide +kernel) (by simp [lg_sl, ct_i, ct_l, ct_r, rf_cat]) (by show _ = ([(0, Value.ref a0), (1, va_rf r1)] : List (Nat × Value)); simp [lv_args, ct_i, ct_l, ct_r, rf_cat]) (fun X cx hZ hfr hlo hr hin => ?_)
  subst hZ
  exact s_X1_weigh cx (Nat.le_of_eq hfr.symm) (Nat.le_of_eq hlo.symm) hr (some a0) r1
