theorem inT_X11 : ∀ w ∈ u_ws RX11 TX11 14, w ∈ TB := by
  intro w h
  obtain ⟨k, hk, rfl⟩ := List.mem_map.mp h
  have hk := List.mem_range.mp hk
  match k, hk with
  | 0, _ => exact wd_2_63
  | 1, _ => exact wd_2_65
  | 2, _ => exact wd_2_67
  | 3, _ => exact wd_2_69
  | 4, _ => exact wd_2_71
  | 5, _ => exact wd_2_73
  | 6, _ => exact wd_2_75
  | 7, _ => exact wd_2_77
  | 8, _ => exact wd_2_79
  | 9, _ => exact wd_2_81
  | 10, _ => exact wd_2_83
  | 11, _ => exact wd_2_85
  | 12, _ => exact wd_2_87
  | 13, _ => exact wd_2_89
  | k + 14, hk => exact absurd hk (by omega)
theorem fl_X11_10 : FldOk RX11 10 14 0 (.object "java/util/ArrayList") true true := ⟨RX11, TX11, 14, "PolicyTree", tyX11, rfl, by decide, inT_X11, tyX11_ok, nmX11, wd_2_49, Or.inl rfl, tyX11_ok 0 (by decide), rfl, fun _ => rfl⟩
theorem fl_X11_16 : FldOk RX11 16 14 1 (.object "java/util/ArrayList") true true := ⟨RX11, TX11, 14, "PolicyTree", tyX11, rfl, by decide, inT_X11, tyX11_ok, nmX11, wd_2_50, Or.inl rfl, tyX11_ok 1 (by decide), rfl, fun _ => rfl⟩
theorem fl_X11_22 : FldOk RX11 22 14 2 (.object "PolicyTree$Groups") true true := ⟨RX11, TX11, 14, "PolicyTree", tyX11, rfl, by decide, inT_X11, tyX11_ok, nmX11, wd_2_51, Or.inl rfl, tyX11_ok 2 (by decide), rfl, fun _ => rfl⟩
theorem fl_X11_26 : FldOk RX11 26 14 3 (.object "java/util/ArrayList") true true := ⟨RX11, TX11, 14, "PolicyTree", tyX11, rfl, by decide, inT_X11, tyX11_ok, nmX11, wd_2_52, Or.inl rfl, tyX11_ok 3 (by decide), rfl, fun _ => rfl⟩
theorem fl_X11_29 : FldOk RX11 29 14 4 (.object "java/util/ArrayList") true true := ⟨RX11, TX11, 14, "PolicyTree", tyX11, rfl, by decide, inT_X11, tyX11_ok, nmX11, wd_2_53, Or.inl rfl, tyX11_ok 4 (by decide), rfl, fun _ => rfl⟩
theorem fl_X11_32 : FldOk RX11 32 14 5 (.array .int) true true := ⟨RX11, TX11, 14, "PolicyTree", tyX11, rfl, by decide, inT_X11, tyX11_ok, nmX11, wd_2_54, Or.inl rfl, tyX11_ok 5 (by decide), rfl, fun _ => rfl⟩
theorem fl_X11_39 : FldOk RX11 39 14 6 (.object "PolicyTree$Tape") true true := ⟨RX11, TX11, 14, "PolicyTree", tyX11, rfl, by decide, inT_X11, tyX11_ok, nmX11, wd_2_55, Or.inl rfl, tyX11_ok 6 (by decide), rfl, fun _ => rfl⟩
theorem fl_X11_48 : FldOk RX11 48 14 7 (.object "PolicyTree$FilterReader") true true := ⟨RX11, TX11, 14, "PolicyTree", tyX11, rfl, by decide, inT_X11, tyX11_ok, nmX11, wd_2_56, Or.inl rfl, tyX11_ok 7 (by decide), rfl, fun _ => rfl⟩
theorem fl_X11_52 : FldOk RX11 52 14 8 .int false true := ⟨RX11, TX11, 14, "PolicyTree", tyX11, rfl, by decide, inT_X11, tyX11_ok, nmX11, wd_2_57, Or.inl rfl, tyX11_ok 8 (by decide), rfl, fun _ => rfl⟩
theorem fl_X11_59 : FldOk RX11 59 14 9 (.object "PolicyTree$Row") true true := ⟨RX11, TX11, 14, "PolicyTree", tyX11, rfl, by decide, inT_X11, tyX11_ok, nmX11, wd_2_58, Or.inl rfl, tyX11_ok 9 (by decide), rfl, fun _ => rfl⟩
theorem fl_X11_63 : FldOk RX11 63 14 10 (.object "PolicyTree$Row") true true := ⟨RX11, TX11, 14, "PolicyTree", tyX11, rfl, by decide, inT_X11, tyX11_ok, nmX11, wd_2_59, Or.inl rfl, tyX11_ok 10 (by decide), rfl, fun _ => rfl⟩
theorem fl_X11_69 : FldOk RX11 69 14 11 (.object "PolicyTree$Outcome") true true := ⟨RX11, TX11, 14, "PolicyTree", tyX11, rfl, by decide, inT_X11, tyX11_ok, nmX11, wd_2_60, Or.inl rfl, tyX11_ok 11 (by decide), rfl, fun _ => rfl⟩
theorem fl_X11_73 : FldOk RX11 73 14 12 (.object "PolicyTree$Outcome") true true := ⟨RX11, TX11, 14, "PolicyTree", tyX11, rfl, by decide, inT_X11, tyX11_ok, nmX11, wd_2_61, Or.inl rfl, tyX11_ok 12 (by decide), rfl, fun _ => rfl⟩
theorem fl_X11_76 : FldOk RX11 76 14 13 (.array .int) true true := ⟨RX11, TX11, 14, "PolicyTree", tyX11, rfl, by decide, inT_X11, tyX11_ok, nmX11, wd_2_62, Or.inl rfl, tyX11_ok 13 (by decide), rfl, fun _ => rfl⟩
theorem fl_X11_121 : FldOk RX11 121 9 1 (.object "PolicyTree$Node") false false := ⟨RX6, TX6, 4, "PolicyTree$Node", tyX6, rfl, by decide, inT_X6, tyX6_ok, nmX6, wd_1_210, Or.inl rfl, tyX6_ok 1 (by decide), rfl, fun h => nomatch h⟩
theorem fl_X11_278 : FldOk RX11 278 7 2 (.object "PolicyTree$Bundle") true false := ⟨RX4, TX4, 7, "PolicyTree$Link", tyX4, rfl, by decide, inT_X4, tyX4_ok, nmX4, wd_4_231, Or.inl rfl, tyX4_ok 2 (by decide), rfl, fun h => nomatch h⟩
theorem fl_X11_113 : FldOk RX11 113 8 0 (.object "PolicyTree$Node") true false := ⟨RX5, TX5, 3, "PolicyTree$Machine", tyX5, rfl, by decide, inT_X5, tyX5_ok, nmX5, wd_3_178, Or.inl rfl, tyX5_ok 0 (by decide), rfl, fun h => nomatch h⟩
theorem fl_X11_204 : FldOk RX11 204 7 1 (.object "PolicyTree$Node") true false := ⟨RX4, TX4, 7, "PolicyTree$Link", tyX4, rfl, by decide, inT_X4, tyX4_ok, nmX4, wd_4_227, Or.inl rfl, tyX4_ok 1 (by decide), rfl, fun h => nomatch h⟩
theorem fl_X11_201 : FldOk RX11 201 7 6 .boolean false false := ⟨RX4, TX4, 7, "PolicyTree$Link", tyX4, rfl, by decide, inT_X4, tyX4_ok, nmX4, wd_4_239, Or.inl rfl, tyX4_ok 6 (by decide), rfl, fun h => nomatch h⟩
theorem nw_X11_7 : NewOk RX11 7 2 [.int 0, .null, .int 0] := ⟨RJx4a65c, TJx4a65c, tyJx4a65c, rfl, inT_Jx4a65c, tyJx4a65c_ok, wd_1_43, wd_1_44, wd_1_4, fun j hj => by
  match j, hj with
  | 0, _ => rfl
  | 1, _ => rfl
  | 2, _ => rfl
  | j + 3, hj => exact absurd hj (by simp only [List.length_cons, List.length_nil]; omega)⟩
theorem ci_X11_9 : CalI RX11 9 yJx4a65c_init_da8c8 cJx4a65c_init_da8c8 1 0 := ⟨⟨wd_1_4, wd_1_46, wd_1_47⟩, Or.inl wd_1_45, rfl, by decide +kernel, by decide +kernel, by decide +kernel⟩
theorem nw_X11_19 : NewOk RX11 19 6 [.null, .null, .int 0] := ⟨RX3, TX3, tyX3, rfl, inT_X3, tyX3_ok, wd_1_69, wd_1_70, wd_1_5, fun j hj => by
  match j, hj with
  | 0, _ => rfl
  | 1, _ => rfl
  | 2, _ => rfl
  | j + 3, hj => exact absurd hj (by simp only [List.length_cons, List.length_nil]; omega)⟩
theorem ci_X11_21 : CalI RX11 21 yX3_init cX3_init 1 0 := ⟨⟨wd_1_5, wd_1_72, wd_1_73⟩, Or.inr ⟨"PolicyTree", List.mem_of_getElem? (i := 0) rfl⟩, rfl, by decide +kernel, by decide +kernel, by decide +kernel⟩
theorem nw_X11_36 : NewOk RX11 36 13 [.null, .int 0] := ⟨RX10, TX10, tyX10, rfl, inT_X10, tyX10_ok, wd_1_87, wd_1_88, wd_1_6, fun j hj => by
  match j, hj with
  | 0, _ => rfl
  | 1, _ => rfl
  | j + 2, hj => exact absurd hj (by simp only [List.length_cons, List.length_nil]; omega)⟩
theorem ci_X11_38 : CalI RX11 38 yX10_init cX10_init 1 0 := ⟨⟨wd_1_6, wd_1_90, wd_1_91⟩, Or.inr ⟨"PolicyTree", List.mem_of_getElem? (i := 1) rfl⟩, rfl, by decide +kernel, by decide +kernel, by decide +kernel⟩
theorem nw_X11_43 : NewOk RX11 43 5 [.null, .int 0, .int 0, .int 0, .int 0, .int 0, .int 0, .null, .int 0] := ⟨RX2, TX2, tyX2, rfl, inT_X2, tyX2_ok, wd_1_101, wd_1_102, wd_1_7, fun j hj => by
  match j, hj with
  | 0, _ => rfl
  | 1, _ => rfl
  | 2, _ => rfl
  | 3, _ => rfl
  | 4, _ => rfl
  | 5, _ => rfl
  | 6, _ => rfl
  | 7, _ => rfl
  | 8, _ => rfl
  | j + 9, hj => exact absurd hj (by simp only [List.length_cons, List.length_nil]; omega)⟩
theorem ci_X11_45 : CalI RX11 45 yX2_init cX2_init 2 1 := ⟨⟨wd_1_7, wd_1_104, wd_1_105⟩, Or.inl wd_1_103, rfl, by decide +kernel, by decide +kernel, by decide +kernel⟩
theorem nw_X11_56 : NewOk RX11 56 11 [.null, .null, .null, .null] := ⟨RX8, TX8, tyX8, rfl, inT_X8, tyX8_ok, wd_1_135, wd_1_136, wd_1_8, fun j hj => by
  match j, hj with
  | 0, _ => rfl
  | 1, _ => rfl
  | 2, _ => rfl
  | 3, _ => rfl
  | j + 4, hj => exact absurd hj (by simp only [List.length_cons, List.length_nil]; omega)⟩
theorem ci_X11_58 : CalI RX11 58 yX8_init cX8_init 1 0 := ⟨⟨wd_1_8, wd_1_138, wd_1_139⟩, Or.inr ⟨"PolicyTree", List.mem_of_getElem? (i := 2) rfl⟩, rfl, by decide +kernel, by decide +kernel, by decide +kernel⟩
theorem nw_X11_66 : NewOk RX11 66 10 [.null, .int 0, .null] := ⟨RX7, TX7, tyX7, rfl, inT_X7, tyX7_ok, wd_1_182, wd_1_183, wd_1_10, fun j hj => by
  match j, hj with
  | 0, _ => rfl
  | 1, _ => rfl
  | 2, _ => rfl
  | j + 3, hj => exact absurd hj (by simp only [List.length_cons, List.length_nil]; omega)⟩
theorem ci_X11_68 : CalI RX11 68 yX7_init cX7_init 1 0 := ⟨⟨wd_1_10, wd_1_185, wd_1_186⟩, Or.inr ⟨"PolicyTree", List.mem_of_getElem? (i := 4) rfl⟩, rfl, by decide +kernel, by decide +kernel, by decide +kernel⟩
theorem nw_X11_79 : NewOk RX11 79 9 [.int 0, .null, .int 0, .null] := ⟨RX6, TX6, tyX6, rfl, inT_X6, tyX6_ok, wd_1_198, wd_1_199, wd_1_11, fun j hj => by
  match j, hj with
  | 0, _ => rfl
  | 1, _ => rfl
  | 2, _ => rfl
  | 3, _ => rfl
  | j + 4, hj => exact absurd hj (by simp only [List.length_cons, List.length_nil]; omega)⟩
theorem ci_X11_81 : CalI RX11 81 yX6_init cX6_init 3 2 := ⟨⟨wd_1_11, wd_1_201, wd_1_202⟩, Or.inl wd_1_200, rfl, by decide +kernel, by decide +kernel, by decide +kernel⟩
theorem cv_X11_84 : CalV RX11 84 RJx4a65c yJx4a65c_add_9ea2d cJx4a65c_add_9ea2d 2 (some .boolean) 1 := ⟨wd_V wd_1_223 wd_1_224 wd_1_225 wd_1_4 wd_1_226, rfl, by decide +kernel, by decide +kernel, by decide +kernel⟩
theorem cv_X11_271 : CalV RX11 271 RX7 yX7_read cX7_read 8 none 5 := ⟨wd_V wd_3_127 wd_3_128 wd_3_129 wd_1_10 wd_3_130, rfl, by decide +kernel, by decide +kernel, by decide +kernel⟩
theorem cv_X11_274 : CalV RX11 274 RX7 yX7_isSame cX7_isSame 3 (some .boolean) 1 := ⟨wd_V wd_3_160 wd_3_161 wd_3_162 wd_1_10 wd_3_163, rfl, by decide +kernel, by decide +kernel, by decide +kernel⟩
theorem cv_X11_88 : CalV RX11 88 RJx4a65c yJx4a65c_size_8abf5 cJx4a65c_size_8abf5 1 (some .int) 0 := ⟨wd_V wd_2_120 wd_2_121 wd_2_122 wd_1_4 wd_2_123, rfl, by decide +kernel, by decide +kernel, by decide +kernel⟩
theorem cv_X11_99 : CalV RX11 99 RJx4a65c yJx4a65c_get_915e3 cJx4a65c_get_915e3 2 (some (.object "java/lang/Object")) 1 := ⟨wd_V wd_2_128 wd_2_129 wd_2_130 wd_1_4 wd_2_131, rfl, by decide +kernel, by decide +kernel, by decide +kernel⟩
theorem cv_X11_154 : CalV RX11 154 RX3 yX3_groupsOf cX3_groupsOf 5 (some .int) 1 := ⟨wd_V wd_3_48 wd_3_49 wd_3_50 wd_1_5 wd_3_51, rfl, by decide +kernel, by decide +kernel, by decide +kernel⟩
theorem cv_X11_267 : CalV RX11 267 RX8 yX8_collect cX8_collect 7 none 3 := ⟨wd_V wd_3_56 wd_3_57 wd_3_58 wd_1_8 wd_3_59, rfl, by decide +kernel, by decide +kernel, by decide +kernel⟩
theorem cv_X11_232 : CalV RX11 232 RX8 yX8_weigh cX8_weigh 3 none 1 := ⟨wd_V wd_3_103 wd_3_104 wd_3_105 wd_1_8 wd_3_106, rfl, by decide +kernel, by decide +kernel, by decide +kernel⟩
theorem cv_X11_289 : CalV RX11 289 RX0 yX0_tells cX0_tells 2 (some .boolean) 1 := ⟨wd_V wd_6_102 wd_3_144 wd_3_145 wd_1_26 wd_3_146, rfl, by decide +kernel, by decide +kernel, by decide +kernel⟩
theorem cv_X11_107 : CalV RX11 107 RX6 yX6_isWithin cX6_isWithin 3 (some .boolean) 1 := ⟨wd_V wd_3_39 wd_3_40 wd_3_41 wd_1_11 wd_3_42, rfl, by decide +kernel, by decide +kernel, by decide +kernel⟩
theorem cv_X11_282 : CalV RX11 282 RX0 yX0_toldSettings cX0_toldSettings 1 (some .int) 0 := ⟨wd_V wd_6_97 wd_3_100 wd_3_101 wd_1_26 wd_3_102, rfl, by decide +kernel, by decide +kernel, by decide +kernel⟩
theorem cv_X11_285 : CalV RX11 285 RX11 yX11_addReach cX11_addReach 6 (some .int) 3 := ⟨wd_V wd_6_98 wd_6_100 wp_2_13 wd_1_1 wd_6_101, rfl, by decide +kernel, by decide +kernel, by decide +kernel⟩
theorem cv_X11_292 : CalV RX11 292 RX4 yX4_quarrelsWith cX4_quarrelsWith 3 (some .boolean) 2 := ⟨wd_V wd_2_143 wd_2_144 wd_2_145 wd_1_30 wd_2_146, rfl, by decide +kernel, by decide +kernel, by decide +kernel⟩
theorem cv_X11_168 : CalV RX11 168 RX10 yX10_hasRoom cX10_hasRoom 2 (some .boolean) 1 := ⟨wd_V wd_2_96 wd_2_97 wd_2_98 wd_1_6 wd_2_99, rfl, by decide +kernel, by decide +kernel, by decide +kernel⟩
theorem cv_X11_171 : CalV RX11 171 RX10 yX10_addNumber cX10_addNumber 3 none 1 := ⟨wd_V wd_2_100 wd_2_101 wd_2_102 wd_1_6 wd_2_103, rfl, by decide +kernel, by decide +kernel, by decide +kernel⟩
theorem cv_X11_175 : CalV RX11 175 RX10 yX10_size cX10_size 1 (some .int) 0 := ⟨wd_V wd_2_104 wd_2_105 wd_2_106 wd_1_6 wd_2_107, rfl, by decide +kernel, by decide +kernel, by decide +kernel⟩
theorem cv_X11_245 : CalV RX11 245 RX11 yX11_countQuarrels cX11_countQuarrels 6 (some .int) 2 := ⟨wd_V wd_2_124 wd_2_126 wp_1_4 wd_1_1 wd_2_127, rfl, by decide +kernel, by decide +kernel, by decide +kernel⟩
theorem cv_X11_242 : CalV RX11 242 RX11 yX11_settingsOfLast cX11_settingsOfLast 3 (some .int) 0 := ⟨wd_V wd_2_116 wd_2_118 wp_1_3 wd_1_1 wd_2_119, rfl, by decide +kernel, by decide +kernel, by decide +kernel⟩
theorem cv_X11_144 : CalV RX11 144 RX3 yX3_size cX3_size 1 (some .int) 0 := ⟨wd_V wd_2_159 wd_2_160 wd_2_161 wd_1_5 wd_2_162, rfl, by decide +kernel, by decide +kernel, by decide +kernel⟩
theorem cv_X11_252 : CalV RX11 252 RX11 yX11_countLasting cX11_countLasting 3 (some .int) 0 := ⟨wd_V wd_2_163 wd_2_165 wp_1_5 wd_1_1 wd_2_166, rfl, by decide +kernel, by decide +kernel, by decide +kernel⟩
/-! PolicyTree.<init>()V -/
theorem dX11_init_0 : decode cX11_init 0 = .ok (.aload_n 0, 1) := by decide +kernel
theorem dX11_init_1 : decode cX11_init 1 = .ok (.invokespecial 1, 3) := by decide +kernel
theorem dX11_init_4 : decode cX11_init 4 = .ok (.aload_n 0, 1) := by decide +kernel
theorem dX11_init_5 : decode cX11_init 5 = .ok (.new 7, 3) := by decide +kernel
theorem dX11_init_8 : decode cX11_init 8 = .ok (.dup, 1) := by decide +kernel
theorem dX11_init_9 : decode cX11_init 9 = .ok (.invokespecial 9, 3) := by decide +kernel
theorem dX11_init_12 : decode cX11_init 12 = .ok (.putfield 10, 3) := by decide +kernel
theorem dX11_init_15 : decode cX11_init 15 = .ok (.aload_n 0, 1) := by decide +kernel
theorem dX11_init_16 : decode cX11_init 16 = .ok (.new 7, 3) := by decide +kernel
theorem dX11_init_19 : decode cX11_init 19 = .ok (.dup, 1) := by decide +kernel
theorem dX11_init_20 : decode cX11_init 20 = .ok (.invokespecial 9, 3) := by decide +kernel
theorem dX11_init_23 : decode cX11_init 23 = .ok (.putfield 16, 3) := by decide +kernel
theorem dX11_init_26 : decode cX11_init 26 = .ok (.aload_n 0, 1) := by decide +kernel
theorem dX11_init_27 : decode cX11_init 27 = .ok (.new 19, 3) := by decide +kernel
theorem dX11_init_30 : decode cX11_init 30 = .ok (.dup, 1) := by decide +kernel
theorem dX11_init_31 : decode cX11_init 31 = .ok (.invokespecial 21, 3) := by decide +kernel
theorem dX11_init_34 : decode cX11_init 34 = .ok (.putfield 22, 3) := by decide +kernel
theorem dX11_init_37 : decode cX11_init 37 = .ok (.aload_n 0, 1) := by decide +kernel
theorem dX11_init_38 : decode cX11_init 38 = .ok (.new 7, 3) := by decide +kernel
theorem dX11_init_41 : decode cX11_init 41 = .ok (.dup, 1) := by decide +kernel
theorem dX11_init_42 : decode cX11_init 42 = .ok (.invokespecial 9, 3) := by decide +kernel
theorem dX11_init_45 : decode cX11_init 45 = .ok (.putfield 26, 3) := by decide +kernel
theorem dX11_init_48 : decode cX11_init 48 = .ok (.aload_n 0, 1) := by decide +kernel
theorem dX11_init_49 : decode cX11_init 49 = .ok (.new 7, 3) := by decide +kernel
theorem dX11_init_52 : decode cX11_init 52 = .ok (.dup, 1) := by decide +kernel
theorem dX11_init_53 : decode cX11_init 53 = .ok (.invokespecial 9, 3) := by decide +kernel
theorem dX11_init_56 : decode cX11_init 56 = .ok (.putfield 29, 3) := by decide +kernel
theorem dX11_init_59 : decode cX11_init 59 = .ok (.aload_n 0, 1) := by decide +kernel
theorem dX11_init_60 : decode cX11_init 60 = .ok (.bipush 12, 2) := by decide +kernel
theorem dX11_init_62 : decode cX11_init 62 = .ok (.newarray .int, 2) := by decide +kernel
theorem dX11_init_64 : decode cX11_init 64 = .ok (.putfield 32, 3) := by decide +kernel
theorem dX11_init_67 : decode cX11_init 67 = .ok (.aload_n 0, 1) := by decide +kernel
theorem dX11_init_68 : decode cX11_init 68 = .ok (.new 36, 3) := by decide +kernel
theorem dX11_init_71 : decode cX11_init 71 = .ok (.dup, 1) := by decide +kernel
theorem dX11_init_72 : decode cX11_init 72 = .ok (.invokespecial 38, 3) := by decide +kernel
theorem dX11_init_75 : decode cX11_init 75 = .ok (.putfield 39, 3) := by decide +kernel
theorem dX11_init_78 : decode cX11_init 78 = .ok (.aload_n 0, 1) := by decide +kernel
theorem dX11_init_79 : decode cX11_init 79 = .ok (.new 43, 3) := by decide +kernel
theorem dX11_init_82 : decode cX11_init 82 = .ok (.dup, 1) := by decide +kernel
theorem dX11_init_83 : decode cX11_init 83 = .ok (.aload_n 0, 1) := by decide +kernel
theorem dX11_init_84 : decode cX11_init 84 = .ok (.getfield 39, 3) := by decide +kernel
theorem dX11_init_87 : decode cX11_init 87 = .ok (.invokespecial 45, 3) := by decide +kernel
theorem dX11_init_90 : decode cX11_init 90 = .ok (.putfield 48, 3) := by decide +kernel
theorem dX11_init_93 : decode cX11_init 93 = .ok (.aload_n 0, 1) := by decide +kernel
theorem dX11_init_94 : decode cX11_init 94 = .ok (.iconst (-1), 1) := by decide +kernel
theorem dX11_init_95 : decode cX11_init 95 = .ok (.putfield 52, 3) := by decide +kernel
theorem dX11_init_98 : decode cX11_init 98 = .ok (.aload_n 0, 1) := by decide +kernel
theorem dX11_init_99 : decode cX11_init 99 = .ok (.new 56, 3) := by decide +kernel
theorem dX11_init_102 : decode cX11_init 102 = .ok (.dup, 1) := by decide +kernel
theorem dX11_init_103 : decode cX11_init 103 = .ok (.invokespecial 58, 3) := by decide +kernel
theorem dX11_init_106 : decode cX11_init 106 = .ok (.putfield 59, 3) := by decide +kernel
theorem dX11_init_109 : decode cX11_init 109 = .ok (.aload_n 0, 1) := by decide +kernel
theorem dX11_init_110 : decode cX11_init 110 = .ok (.new 56, 3) := by decide +kernel
theorem dX11_init_113 : decode cX11_init 113 = .ok (.dup, 1) := by decide +kernel
theorem dX11_init_114 : decode cX11_init 114 = .ok (.invokespecial 58, 3) := by decide +kernel
theorem dX11_init_117 : decode cX11_init 117 = .ok (.putfield 63, 3) := by decide +kernel
theorem dX11_init_120 : decode cX11_init 120 = .ok (.aload_n 0, 1) := by decide +kernel
theorem dX11_init_121 : decode cX11_init 121 = .ok (.new 66, 3) := by decide +kernel
theorem dX11_init_124 : decode cX11_init 124 = .ok (.dup, 1) := by decide +kernel
theorem dX11_init_125 : decode cX11_init 125 = .ok (.invokespecial 68, 3) := by decide +kernel
theorem dX11_init_128 : decode cX11_init 128 = .ok (.putfield 69, 3) := by decide +kernel
theorem dX11_init_131 : decode cX11_init 131 = .ok (.aload_n 0, 1) := by decide +kernel
theorem dX11_init_132 : decode cX11_init 132 = .ok (.new 66, 3) := by decide +kernel
theorem dX11_init_135 : decode cX11_init 135 = .ok (.dup, 1) := by decide +kernel
theorem dX11_init_136 : decode cX11_init 136 = .ok (.invokespecial 68, 3) := by decide +kernel
theorem dX11_init_139 : decode cX11_init 139 = .ok (.putfield 73, 3) := by decide +kernel
theorem dX11_init_142 : decode cX11_init 142 = .ok (.aload_n 0, 1) := by decide +kernel
theorem dX11_init_143 : decode cX11_init 143 = .ok (.sipush 720, 3) := by decide +kernel
theorem dX11_init_146 : decode cX11_init 146 = .ok (.newarray .int, 2) := by decide +kernel
theorem dX11_init_148 : decode cX11_init 148 = .ok (.putfield 76, 3) := by decide +kernel
theorem dX11_init_151 : decode cX11_init 151 = .ok (.aload_n 0, 1) := by decide +kernel
theorem dX11_init_152 : decode cX11_init 152 = .ok (.getfield 10, 3) := by decide +kernel
theorem dX11_init_155 : decode cX11_init 155 = .ok (.new 79, 3) := by decide +kernel
theorem dX11_init_158 : decode cX11_init 158 = .ok (.dup, 1) := by decide +kernel
theorem dX11_init_159 : decode cX11_init 159 = .ok (.iconst 0, 1) := by decide +kernel
theorem dX11_init_160 : decode cX11_init 160 = .ok (.aconst_null, 1) := by decide +kernel
theorem dX11_init_161 : decode cX11_init 161 = .ok (.invokespecial 81, 3) := by decide +kernel
theorem dX11_init_164 : decode cX11_init 164 = .ok (.invokevirtual 84, 3) := by decide +kernel
theorem dX11_init_167 : decode cX11_init 167 = .ok (.pop, 1) := by decide +kernel
theorem dX11_init_168 : decode cX11_init 168 = .ok (.return_, 1) := by decide +kernel
def f_X11_init (Z : Nat → Nat) (r0 : Option Nat) : Mo Unit := mb (mo 14 r0 (mp ())) (fun _ => mb (nO 2 [.int 0, .null, .int 0]) (fun v5 => mb (mo 2 v5 (f_Jx4a65c_init_da8c8 Z v5)) (fun _ => mb (pV 14 0 r0 (va_rf v5)) (fun _ => mb (nO 2 [.int 0, .null, .int 0]) (fun v16 => mb (mo 2 v16 (f_Jx4a65c_init_da8c8 Z v16)) (fun _ => mb (pV 14 1 r0 (va_rf v16)) (fun _ => mb (nO 6 [.null, .null, .int 0]) (fun v27 => mb (mo 6 v27 (f_X3_init v27)) (fun _ => mb (pV 14 2 r0 (va_rf v27)) (fun _ => mb (nO 2 [.int 0, .null, .int 0]) (fun v38 => mb (mo 2 v38 (f_Jx4a65c_init_da8c8 Z v38)) (fun _ => mb (pV 14 3 r0 (va_rf v38)) (fun _ => mb (nO 2 [.int 0, .null, .int 0]) (fun v49 => mb (mo 2 v49 (f_Jx4a65c_init_da8c8 Z v49)) (fun _ => mb (pV 14 4 r0 (va_rf v49)) (fun _ => mb (nA 1 (12 : Int32)) (fun v62 => mb (pV 14 5 r0 (va_rf v62)) (fun _ => mb (nO 13 [.null, .int 0]) (fun v68 => mb (mo 13 v68 (f_X10_init v68)) (fun _ => mb (pV 14 6 r0 (va_rf v68)) (fun _ => mb (nO 5 [.null, .int 0, .int 0, .int 0, .int 0, .int 0, .int 0, .null, .int 0]) (fun v79 => mb (gR 14 6 r0) (fun v84 => mb (mo 5 v79 (f_X2_init v79 v84)) (fun _ => mb (pV 14 7 r0 (va_rf v79)) (fun _ => mb (pV 14 8 r0 (.int (-1 : Int32))) (fun _ => mb (nO 11 [.null, .null, .null, .null]) (fun v99 => mb (mo 11 v99 (f_X8_init Z v99)) (fun _ => mb (pV 14 9 r0 (va_rf v99)) (fun _ => mb (nO 11 [.null, .null, .null, .null]) (fun v110 => mb (mo 11 v110 (f_X8_init Z v110)) (fun _ => mb (pV 14 10 r0 (va_rf v110)) (fun _ => mb (nO 10 [.null, .int 0, .null]) (fun v121 => mb (mo 10 v121 (f_X7_init v121)) (fun _ => mb (pV 14 11 r0 (va_rf v121)) (fun _ => mb (nO 10 [.null, .int 0, .null]) (fun v132 => mb (mo 10 v132 (f_X7_init v132)) (fun _ => mb (pV 14 12 r0 (va_rf v132)) (fun _ => mb (nA 1 (720 : Int32)) (fun v146 => mb (pV 14 13 r0 (va_rf v146)) (fun _ => mb (gR 14 0 r0) (fun v152 => mb (nO 9 [.int 0, .null, .int 0, .null]) (fun v155 => mb (mo 9 v155 (f_X6_init Z v155 (0 : Int32) none)) (fun _ => mb (mo 2 v152 (f_Jx4a65c_add_9ea2d Z v152 v155)) (fun v164 => mp ()))))))))))))))))))))))))))))))))))))))))))))
set_option maxRecDepth 100000 in
set_option maxHeartbeats 4000000 in
theorem s_X11_init {X : Cg} (cx : Cx X cX11_init RX11 1) (hfr : 7 ≤ (xR X).frames) (hlo : 170 ≤ (xR X).locals) (hr : (xM X).sig.returnType = none) (hin : (xM X).name = "<init>") (r0 : Option Nat) : Sim X 1 (FiM X vV) 0 [(0, va_rf r0)] [] (f_X11_init (xZ X) r0) := by
  unfold f_X11_init
  refine sm_aload_n cx 0 dX11_init_0 rfl rfl ?_
  refine sm_obj (ci := 14) cx wd_1_40 wd_1_41 wd_1_42 (Nat.le_trans (by decide) hfr) (Nat.le_trans (by decide) hlo) dX11_init_1 rfl ?_
  refine sm_aload_n cx 0 dX11_init_4 rfl rfl ?_
  refine sm_new cx nw_X11_7 dX11_init_5 (fun v5 => ?_)
  refine sm_dup cx dX11_init_8 (rf_cat _) ?_
  refine sm_callI (ci := 2) (toV := vV) cx [] ci_X11_9 (fun a h => ct_Jx4a65c_init_da8c8 (xZ X) a h) (Nat.le_trans (by decide) hfr) (Nat.le_trans (by decide) hlo) rfl (cat_le _ (Nat.le_of_ble_eq_true rfl)) dX11_init_9 (fun _ => ?_)
  refine sm_putF cx hin fl_X11_10 (nr_rf _) (ft_rf _) dX11_init_12 ?_
  refine sm_aload_n cx 0 dX11_init_15 rfl rfl ?_
  refine sm_new cx nw_X11_7 dX11_init_16 (fun v16 => ?_)
  refine sm_dup cx dX11_init_19 (rf_cat _) ?_
  refine sm_callI (ci := 2) (toV := vV) cx [] ci_X11_9 (fun a h => ct_Jx4a65c_init_da8c8 (xZ X) a h) (Nat.le_trans (by decide) hfr) (Nat.le_trans (by decide) hlo) rfl (cat_le _ (Nat.le_of_ble_eq_true rfl)) dX11_init_20 (fun _ => ?_)
  refine sm_putF cx hin fl_X11_16 (nr_rf _) (ft_rf _) dX11_init_23 ?_
  refine sm_aload_n cx 0 dX11_init_26 rfl rfl ?_
  refine sm_new cx nw_X11_19 dX11_init_27 (fun v27 => ?_)
  refine sm_dup cx dX11_init_30 (rf_cat _) ?_
  refine sm_callI (ci := 6) (toV := vV) cx [] ci_X11_21 (fun a h => ct_X3_init (xZ X) a h) (Nat.le_trans (by decide) hfr) (Nat.le_trans (by decide) hlo) rfl (cat_le _ (Nat.le_of_ble_eq_true rfl)) dX11_init_31 (fun _ => ?_)
  refine sm_putF cx hin fl_X11_22 (nr_rf _) (ft_rf _) dX11_init_34 ?_
  refine sm_aload_n cx 0 dX11_init_37 rfl rfl ?_
  refine sm_new cx nw_X11_7 dX11_init_38 (fun v38 => ?_)
  refine sm_dup cx dX11_init_41 (rf_cat _) ?_
  refine sm_callI (ci := 2) (toV := vV) cx [] ci_X11_9 (fun a h => ct_Jx4a65c_init_da8c8 (xZ X) a h) (Nat.le_trans (by decide) hfr) (Nat.le_trans (by decide) hlo) rfl (cat_le _ (Nat.le_of_ble_eq_true rfl)) dX11_init_42 (fun _ => ?_)
  refine sm_putF cx hin fl_X11_26 (nr_rf _) (ft_rf _) dX11_init_45 ?_
  refine sm_aload_n cx 0 dX11_init_48 rfl rfl ?_
  refine sm_new cx nw_X11_7 dX11_init_49 (fun v49 => ?_)
  refine sm_dup cx dX11_init_52 (rf_cat _) ?_
  refine sm_callI (ci := 2) (toV := vV) cx [] ci_X11_9 (fun a h => ct_Jx4a65c_init_da8c8 (xZ X) a h) (Nat.le_trans (by decide) hfr) (Nat.le_trans (by decide) hlo) rfl (cat_le _ (Nat.le_of_ble_eq_true rfl)) dX11_init_53 (fun _ => ?_)
  refine sm_putF cx hin fl_X11_29 (nr_rf _) (ft_rf _) dX11_init_56 ?_
  refine sm_aload_n cx 0 dX11_init_59 rfl rfl ?_
  refine sm_bipush (v := 12) cx dX11_init_60 (by decide) ?_
  refine sm_newa1 cx dX11_init_62 (fun v62 => ?_)
  refine sm_putF cx hin fl_X11_32 (nr_ra _) (ft_ra _) dX11_init_64 ?_
  refine sm_aload_n cx 0 dX11_init_67 rfl rfl ?_
  refine sm_new cx nw_X11_36 dX11_init_68 (fun v68 => ?_)
  refine sm_dup cx dX11_init_71 (rf_cat _) ?_
  refine sm_callI (ci := 13) (toV := vV) cx [] ci_X11_38 (fun a h => ct_X10_init (xZ X) a h) (Nat.le_trans (by decide) hfr) (Nat.le_trans (by decide) hlo) rfl (cat_le _ (Nat.le_of_ble_eq_true rfl)) dX11_init_72 (fun _ => ?_)
  refine sm_putF cx hin fl_X11_39 (nr_rf _) (ft_rf _) dX11_init_75 ?_
  refine sm_aload_n cx 0 dX11_init_78 rfl rfl ?_
  refine sm_new cx nw_X11_43 dX11_init_79 (fun v79 => ?_)
  refine sm_dup cx dX11_init_82 (rf_cat _) ?_
  refine sm_aload_n cx 0 dX11_init_83 rfl rfl ?_
  refine sm_getR cx fl_X11_39 dX11_init_84 (fun v84 => ?_)
  refine sm_callI (ci := 5) (toV := vV) cx [va_rf v84] ci_X11_45 (fun a h => ct_X2_init (xZ X) a h v84) (Nat.le_trans (by decide) hfr) (Nat.le_trans (by decide) hlo) rfl (cat_le _ (Nat.le_of_ble_eq_true rfl)) dX11_init_87 (fun _ => ?_)
  refine sm_putF cx hin fl_X11_48 (nr_rf _) (ft_rf _) dX11_init_90 ?_
  refine sm_aload_n cx 0 dX11_init_93 rfl rfl ?_
  refine sm_iconst (v := -1) cx dX11_init_94 (by decide) ?_
  refine sm_putV cx fl_X11_52 rfl rfl dX11_init_95 ?_
  refine sm_aload_n cx 0 dX11_init_98 rfl rfl ?_
  refine sm_new cx nw_X11_56 dX11_init_99 (fun v99 => ?_)
  refine sm_dup cx dX11_init_102 (rf_cat _) ?_
  refine sm_callI (ci := 11) (toV := vV) cx [] ci_X11_58 (fun a h => ct_X8_init (xZ X) a h) (Nat.le_trans (by decide) hfr) (Nat.le_trans (by decide) hlo) rfl (cat_le _ (Nat.le_of_ble_eq_true rfl)) dX11_init_103 (fun _ => ?_)
  refine sm_putF cx hin fl_X11_59 (nr_rf _) (ft_rf _) dX11_init_106 ?_
  refine sm_aload_n cx 0 dX11_init_109 rfl rfl ?_
  refine sm_new cx nw_X11_56 dX11_init_110 (fun v110 => ?_)
  refine sm_dup cx dX11_init_113 (rf_cat _) ?_
  refine sm_callI (ci := 11) (toV := vV) cx [] ci_X11_58 (fun a h => ct_X8_init (xZ X) a h) (Nat.le_trans (by decide) hfr) (Nat.le_trans (by decide) hlo) rfl (cat_le _ (Nat.le_of_ble_eq_true rfl)) dX11_init_114 (fun _ => ?_)
  refine sm_putF cx hin fl_X11_63 (nr_rf _) (ft_rf _) dX11_init_117 ?_
  refine sm_aload_n cx 0 dX11_init_120 rfl rfl ?_
  refine sm_new cx nw_X11_66 dX11_init_121 (fun v121 => ?_)
  refine sm_dup cx dX11_init_124 (rf_cat _) ?_
  refine sm_callI (ci := 10) (toV := vV) cx [] ci_X11_68 (fun a h => ct_X7_init (xZ X) a h) (Nat.le_trans (by decide) hfr) (Nat.le_trans (by decide) hlo) rfl (cat_le _ (Nat.le_of_ble_eq_true rfl)) dX11_init_125 (fun _ => ?_)
  refine sm_putF cx hin fl_X11_69 (nr_rf _) (ft_rf _) dX11_init_128 ?_
  refine sm_aload_n cx 0 dX11_init_131 rfl rfl ?_
  refine sm_new cx nw_X11_66 dX11_init_132 (fun v132 => ?_)
  refine sm_dup cx dX11_init_135 (rf_cat _) ?_
  refine sm_callI (ci := 10) (toV := vV) cx [] ci_X11_68 (fun a h => ct_X7_init (xZ X) a h) (Nat.le_trans (by decide) hfr) (Nat.le_trans (by decide) hlo) rfl (cat_le _ (Nat.le_of_ble_eq_true rfl)) dX11_init_136 (fun _ => ?_)
  refine sm_putF cx hin fl_X11_73 (nr_rf _) (ft_rf _) dX11_init_139 ?_
  refine sm_aload_n cx 0 dX11_init_142 rfl rfl ?_
  refine sm_sipush (v := 720) cx dX11_init_143 (by decide) ?_
  refine sm_newa1 cx dX11_init_146 (fun v146 => ?_)
  refine sm_putF cx hin fl_X11_76 (nr_ra _) (ft_ra _) dX11_init_148 ?_
  refine sm_aload_n cx 0 dX11_init_151 rfl rfl ?_
  refine sm_getR cx fl_X11_10 dX11_init_152 (fun v152 => ?_)
  refine sm_new cx nw_X11_79 dX11_init_155 (fun v155 => ?_)
  refine sm_dup cx dX11_init_158 (rf_cat _) ?_
  refine sm_iconst (v := 0) cx dX11_init_159 (by decide) ?_
  refine sm_null cx dX11_init_160 ?_
  refine sm_callI (ci := 9) (toV := vV) cx [.int (0 : Int32), va_rf none] ci_X11_81 (fun a h => ct_X6_init (xZ X) a h (0 : Int32) none) (Nat.le_trans (by decide) hfr) (Nat.le_trans (by decide) hlo) rfl (cat_le _ (Nat.le_of_ble_eq_true rfl)) dX11_init_161 (fun _ => ?_)
  refine sm_callV (T := TJx4a65c) (N := 3) (toV := vI) cx [va_rf v155] rfl cv_X11_84 (fun a h => ct_Jx4a65c_add_9ea2d (xZ X) a h v155) (Nat.le_trans (by decide) hfr) (Nat.le_trans (by decide) hlo) rfl (cat_le _ (Nat.le_of_ble_eq_true rfl)) dX11_init_164 (fun v164 => ?_)
  refine sm_pop cx dX11_init_167 rfl ?_
  exact sm_vret cx hr dX11_init_168
set_option maxRecDepth 100000 in
set_option maxHeartbeats 4000000 in
theorem ct_X11_init (Z : Nat → Nat) {r0 : Option Nat} (a0 : Nat) (h0 : r0 = some a0) : Ct yX11_init cX11_init 1 none 7 170 Z [.ref a0] vV (f_X11_init Z r0) := by
  subst h0
  refine ct_of (lv0 := [(0, va_rf (some a0))]) (by decide +kernel) (by simp [lg_sl, ct_i, ct_l, ct_r, rf_cat]) (by show _ = ([(0, Value.ref a0)] : List (Nat × Value)); simp [lv_args, ct_i, ct_l, ct_r, rf_cat]) (fun X cx hZ hfr hlo hr hin => ?_)
  subst hZ
  exact s_X11_init cx (Nat.le_of_eq hfr.symm) (Nat.le_of_eq hlo.symm) hr hin (some a0)
/-! PolicyTree.isSameInLane(II)Z -/
theorem dX11_isSameInLane_0 : decode cX11_isSameInLane 0 = .ok (.iload_n 1, 1) := by decide +kernel
theorem dX11_isSameInLane_1 : decode cX11_isSameInLane 1 = .ok (.ifCond .lt 12, 3) := by decide +kernel
theorem dX11_isSameInLane_4 : decode cX11_isSameInLane 4 = .ok (.iload_n 1, 1) := by decide +kernel
theorem dX11_isSameInLane_5 : decode cX11_isSameInLane 5 = .ok (.aload_n 0, 1) := by decide +kernel
theorem dX11_isSameInLane_6 : decode cX11_isSameInLane 6 = .ok (.getfield 32, 3) := by decide +kernel
theorem dX11_isSameInLane_9 : decode cX11_isSameInLane 9 = .ok (.arraylength, 1) := by decide +kernel
theorem dX11_isSameInLane_10 : decode cX11_isSameInLane 10 = .ok (.if_icmp .lt 5, 3) := by decide +kernel
theorem dX11_isSameInLane_13 : decode cX11_isSameInLane 13 = .ok (.iconst 1, 1) := by decide +kernel
theorem dX11_isSameInLane_14 : decode cX11_isSameInLane 14 = .ok (.ireturn, 1) := by decide +kernel
theorem dX11_isSameInLane_15 : decode cX11_isSameInLane 15 = .ok (.iconst 0, 1) := by decide +kernel
theorem dX11_isSameInLane_16 : decode cX11_isSameInLane 16 = .ok (.istore_n 3, 1) := by decide +kernel
theorem dX11_isSameInLane_17 : decode cX11_isSameInLane 17 = .ok (.iload_n 3, 1) := by decide +kernel
theorem dX11_isSameInLane_18 : decode cX11_isSameInLane 18 = .ok (.bipush 64, 2) := by decide +kernel
theorem dX11_isSameInLane_20 : decode cX11_isSameInLane 20 = .ok (.if_icmp .ge 53, 3) := by decide +kernel
theorem dX11_isSameInLane_23 : decode cX11_isSameInLane 23 = .ok (.iload_n 3, 1) := by decide +kernel
theorem dX11_isSameInLane_24 : decode cX11_isSameInLane 24 = .ok (.iload_n 2, 1) := by decide +kernel
theorem dX11_isSameInLane_25 : decode cX11_isSameInLane 25 = .ok (.iconst (-1), 1) := by decide +kernel
theorem dX11_isSameInLane_26 : decode cX11_isSameInLane 26 = .ok (.ixor, 1) := by decide +kernel
theorem dX11_isSameInLane_27 : decode cX11_isSameInLane 27 = .ok (.iand, 1) := by decide +kernel
theorem dX11_isSameInLane_28 : decode cX11_isSameInLane 28 = .ok (.ifCond .ne 39, 3) := by decide +kernel
theorem dX11_isSameInLane_31 : decode cX11_isSameInLane 31 = .ok (.aload_n 0, 1) := by decide +kernel
theorem dX11_isSameInLane_32 : decode cX11_isSameInLane 32 = .ok (.getfield 73, 3) := by decide +kernel
theorem dX11_isSameInLane_35 : decode cX11_isSameInLane 35 = .ok (.aload_n 0, 1) := by decide +kernel
theorem dX11_isSameInLane_36 : decode cX11_isSameInLane 36 = .ok (.getfield 59, 3) := by decide +kernel
theorem dX11_isSameInLane_39 : decode cX11_isSameInLane 39 = .ok (.iload_n 1, 1) := by decide +kernel
theorem dX11_isSameInLane_40 : decode cX11_isSameInLane 40 = .ok (.aload_n 0, 1) := by decide +kernel
theorem dX11_isSameInLane_41 : decode cX11_isSameInLane 41 = .ok (.getfield 32, 3) := by decide +kernel
theorem dX11_isSameInLane_44 : decode cX11_isSameInLane 44 = .ok (.iload_n 1, 1) := by decide +kernel
theorem dX11_isSameInLane_45 : decode cX11_isSameInLane 45 = .ok (.iaload, 1) := by decide +kernel
theorem dX11_isSameInLane_46 : decode cX11_isSameInLane 46 = .ok (.iload_n 3, 1) := by decide +kernel
theorem dX11_isSameInLane_47 : decode cX11_isSameInLane 47 = .ok (.aconst_null, 1) := by decide +kernel
theorem dX11_isSameInLane_48 : decode cX11_isSameInLane 48 = .ok (.invokevirtual 271, 3) := by decide +kernel
theorem dX11_isSameInLane_51 : decode cX11_isSameInLane 51 = .ok (.aload_n 0, 1) := by decide +kernel
theorem dX11_isSameInLane_52 : decode cX11_isSameInLane 52 = .ok (.getfield 73, 3) := by decide +kernel
theorem dX11_isSameInLane_55 : decode cX11_isSameInLane 55 = .ok (.aload_n 0, 1) := by decide +kernel
theorem dX11_isSameInLane_56 : decode cX11_isSameInLane 56 = .ok (.getfield 69, 3) := by decide +kernel
theorem dX11_isSameInLane_59 : decode cX11_isSameInLane 59 = .ok (.invokevirtual 274, 3) := by decide +kernel
theorem dX11_isSameInLane_62 : decode cX11_isSameInLane 62 = .ok (.ifCond .ne 5, 3) := by decide +kernel
theorem dX11_isSameInLane_65 : decode cX11_isSameInLane 65 = .ok (.iconst 0, 1) := by decide +kernel
theorem dX11_isSameInLane_66 : decode cX11_isSameInLane 66 = .ok (.ireturn, 1) := by decide +kernel
theorem dX11_isSameInLane_67 : decode cX11_isSameInLane 67 = .ok (.iinc 3 1, 3) := by decide +kernel
theorem dX11_isSameInLane_70 : decode cX11_isSameInLane 70 = .ok (.goto (-53), 3) := by decide +kernel
theorem dX11_isSameInLane_73 : decode cX11_isSameInLane 73 = .ok (.iconst 1, 1) := by decide +kernel
theorem dX11_isSameInLane_74 : decode cX11_isSameInLane 74 = .ok (.ireturn, 1) := by decide +kernel
def f_X11_isSameInLane_13 : Mo Int32 := rz .boolean (1 : Int32)
set_option maxRecDepth 100000 in
set_option maxHeartbeats 4000000 in
theorem s_X11_isSameInLane_13 {X : Cg} (cx : Cx X cX11_isSameInLane RX11 4) (hfr : 5 ≤ (xR X).frames) (hlo : 112 ≤ (xR X).locals) (hr : (xM X).sig.returnType = (some .boolean)) : Sim X 4 (FiM X vI) 13 [] [] (f_X11_isSameInLane_13) := by
  unfold f_X11_isSameInLane_13
  refine sm_iconst (v := 1) cx dX11_isSameInLane_13 (by decide) ?_
  exact sm_zret cx hr dX11_isSameInLane_14
def f_X11_isSameInLane_67 (k17 : Int32 → Mo Int32) (r0 : Option Nat) (x1 : Int32) (x2 : Int32) (x3 : Int32) : Mo Int32 := k17 (x3 + 1)
set_option maxRecDepth 100000 in
set_option maxHeartbeats 4000000 in
theorem s_X11_isSameInLane_67 {X : Cg} (cx : Cx X cX11_isSameInLane RX11 4) (hfr : 5 ≤ (xR X).frames) (hlo : 112 ≤ (xR X).locals) (hr : (xM X).sig.returnType = (some .boolean)) (r0 : Option Nat) (x1 : Int32) (x2 : Int32) (x3 : Int32) {k17 : Int32 → Mo Int32} (hk17 : ∀ (x3 : Int32), Sim X 4 (FiM X vI) 17 [(0, va_rf r0), (1, .int x1), (2, .int x2), (3, .int x3)] [] (k17 x3)) : Sim X 4 (FiM X vI) 67 [(0, va_rf r0), (1, .int x1), (2, .int x2), (3, .int x3)] [] (f_X11_isSameInLane_67 k17 r0 x1 x2 x3) := by
  unfold f_X11_isSameInLane_67
  refine sm_iinc cx 3 [(3, .int (x3 + 1)), (0, va_rf r0), (1, .int x1), (2, .int x2)] dX11_isSameInLane_67 rfl rfl (by decide) rfl (nc1 rfl) rfl ?_
  refine sm_goto (tgt := 17) cx dX11_isSameInLane_70 (by decide) ?_
  exact sm_lv [1, 2, 3, 0] rfl (hk17 (x3 + 1))
def f_X11_isSameInLane_17 (r0 : Option Nat) (x1 : Int32) (x2 : Int32) : Nat → Int32 → Mo Int32
  | 0, _ => mf
  | n + 1, x3 => (if (64 : Int32) ≤ x3 then rz .boolean (1 : Int32) else (if (x3 &&& (x2 ^^^ (-1 : Int32))) = 0 then mb (gR 14 12 r0) (fun v32 => mb (gR 14 9 r0) (fun v36 => mb (gR 14 5 r0) (fun v41 => mb (aI 1 v41 x1) (fun v45 => mb (mo 10 v32 (f_X7_read v32 v36 x1 v45 x3 none)) (fun _ => mb (gR 14 12 r0) (fun v52 => mb (gR 14 11 r0) (fun v56 => mb (mo 10 v52 (f_X7_isSame v52 v56)) (fun v59 => (if v59 = 0 then rz .boolean (0 : Int32) else f_X11_isSameInLane_67 (f_X11_isSameInLane_17 r0 x1 x2 n) r0 x1 x2 x3))))))))) else f_X11_isSameInLane_67 (f_X11_isSameInLane_17 r0 x1 x2 n) r0 x1 x2 x3))
set_option maxRecDepth 100000 in
set_option maxHeartbeats 4000000 in
theorem s_X11_isSameInLane_17 {X : Cg} (cx : Cx X cX11_isSameInLane RX11 4) (hfr : 5 ≤ (xR X).frames) (hlo : 112 ≤ (xR X).locals) (hr : (xM X).sig.returnType = (some .boolean)) (r0 : Option Nat) (x1 : Int32) (x2 : Int32) : ∀ (n : Nat) (x3 : Int32), Sim X 4 (FiM X vI) 17 [(0, va_rf r0), (1, .int x1), (2, .int x2), (3, .int x3)] [] (f_X11_isSameInLane_17 r0 x1 x2 n x3) := by
  intro n
  induction n with
  | zero =>
    intro _
    exact sm_mf
  | succ n ih =>
    intro x3
    rw [f_X11_isSameInLane_17]
    refine sm_iload_n cx 3 dX11_isSameInLane_17 rfl rfl ?_
    refine sm_bipush (v := 64) cx dX11_isSameInLane_18 (by decide) ?_
    refine sm_icmp_ge (tgt := 73) cx dX11_isSameInLane_20 (by decide) ?_ ?_
    · refine sm_iconst (v := 1) cx dX11_isSameInLane_73 (by decide) ?_
      exact sm_zret cx hr dX11_isSameInLane_74
    · refine sm_iload_n cx 3 dX11_isSameInLane_23 rfl rfl ?_
      refine sm_iload_n cx 2 dX11_isSameInLane_24 rfl rfl ?_
      refine sm_iconst (v := -1) cx dX11_isSameInLane_25 (by decide) ?_
      refine sm_ixor cx dX11_isSameInLane_26 ?_
      refine sm_iand cx dX11_isSameInLane_27 ?_
      refine sm_if_ne (tgt := 67) cx dX11_isSameInLane_28 (by decide) ?_ ?_
      · exact sm_lv [0, 1, 2, 3] rfl (s_X11_isSameInLane_67 cx hfr hlo hr r0 x1 x2 x3 ih)
      · refine sm_aload_n cx 0 dX11_isSameInLane_31 rfl rfl ?_
        refine sm_getR cx fl_X11_73 dX11_isSameInLane_32 (fun v32 => ?_)
        refine sm_aload_n cx 0 dX11_isSameInLane_35 rfl rfl ?_
        refine sm_getR cx fl_X11_59 dX11_isSameInLane_36 (fun v36 => ?_)
        refine sm_iload_n cx 1 dX11_isSameInLane_39 rfl rfl ?_
        refine sm_aload_n cx 0 dX11_isSameInLane_40 rfl rfl ?_
        refine sm_getR cx fl_X11_32 dX11_isSameInLane_41 (fun v41 => ?_)
        refine sm_iload_n cx 1 dX11_isSameInLane_44 rfl rfl ?_
        refine sm_iald cx dX11_isSameInLane_45 (fun v45 => ?_)
        refine sm_iload_n cx 3 dX11_isSameInLane_46 rfl rfl ?_
        refine sm_null cx dX11_isSameInLane_47 ?_
        refine sm_callV (T := TX7) (N := 3) (toV := vV) cx [va_rf v36, .int x1, .int v45, .int x3, va_rf none] rfl cv_X11_271 (fun a h => ct_X7_read (xZ X) a h v36 x1 v45 x3 none) (Nat.le_trans (by decide) hfr) (Nat.le_trans (by decide) hlo) rfl (cat_le _ (Nat.le_of_ble_eq_true rfl)) dX11_isSameInLane_48 (fun _ => ?_)
        refine sm_aload_n cx 0 dX11_isSameInLane_51 rfl rfl ?_
        refine sm_getR cx fl_X11_73 dX11_isSameInLane_52 (fun v52 => ?_)
        refine sm_aload_n cx 0 dX11_isSameInLane_55 rfl rfl ?_
        refine sm_getR cx fl_X11_69 dX11_isSameInLane_56 (fun v56 => ?_)
        refine sm_callV (T := TX7) (N := 3) (toV := vI) cx [va_rf v56] rfl cv_X11_274 (fun a h => ct_X7_isSame (xZ X) a h v56) (Nat.le_trans (by decide) hfr) (Nat.le_trans (by decide) hlo) rfl (cat_le _ (Nat.le_of_ble_eq_true rfl)) dX11_isSameInLane_59 (fun v59 => ?_)
        refine sm_if_ne (tgt := 67) cx dX11_isSameInLane_62 (by decide) ?_ ?_
        · exact sm_lv [0, 1, 2, 3] rfl (s_X11_isSameInLane_67 cx hfr hlo hr r0 x1 x2 x3 ih)
        · refine sm_iconst (v := 0) cx dX11_isSameInLane_65 (by decide) ?_
          exact sm_zret cx hr dX11_isSameInLane_66
def f_X11_isSameInLane (r0 : Option Nat) (x1 : Int32) (x2 : Int32) : Mo Int32 := (if x1 < 0 then f_X11_isSameInLane_13 else mb (gR 14 5 r0) (fun v6 => mb (aN 1 v6) (fun v9 => (if x1 < v9 then f_X11_isSameInLane_17 r0 x1 x2 fuL (0 : Int32) else f_X11_isSameInLane_13))))
set_option maxRecDepth 100000 in
set_option maxHeartbeats 4000000 in
theorem s_X11_isSameInLane {X : Cg} (cx : Cx X cX11_isSameInLane RX11 4) (hfr : 5 ≤ (xR X).frames) (hlo : 112 ≤ (xR X).locals) (hr : (xM X).sig.returnType = (some .boolean)) (r0 : Option Nat) (x1 : Int32) (x2 : Int32) : Sim X 4 (FiM X vI) 0 [(0, va_rf r0), (1, .int x1), (2, .int x2)] [] (f_X11_isSameInLane r0 x1 x2) := by
  unfold f_X11_isSameInLane
  refine sm_iload_n cx 1 dX11_isSameInLane_0 rfl rfl ?_
  refine sm_if_lt (tgt := 13) cx dX11_isSameInLane_1 (by decide) ?_ ?_
  · exact sm_lv [] rfl (s_X11_isSameInLane_13 cx hfr hlo hr)
  · refine sm_iload_n cx 1 dX11_isSameInLane_4 rfl rfl ?_
    refine sm_aload_n cx 0 dX11_isSameInLane_5 rfl rfl ?_
    refine sm_getR cx fl_X11_32 dX11_isSameInLane_6 (fun v6 => ?_)
    refine sm_alen cx 1 (by decide) dX11_isSameInLane_9 (fun v9 => ?_)
    refine sm_icmp_lt (tgt := 15) cx dX11_isSameInLane_10 (by decide) ?_ ?_
    · refine sm_iconst (v := 0) cx dX11_isSameInLane_15 (by decide) ?_
      refine sm_istore_n cx [(3, .int (0 : Int32)), (0, va_rf r0), (1, .int x1), (2, .int x2)] dX11_isSameInLane_16 rfl (by decide) rfl (nc1 rfl) rfl ?_
      exact sm_lv [1, 2, 3, 0] rfl (s_X11_isSameInLane_17 cx hfr hlo hr r0 x1 x2 fuL (0 : Int32))
    · exact sm_lv [] rfl (s_X11_isSameInLane_13 cx hfr hlo hr)
set_option maxRecDepth 100000 in
set_option maxHeartbeats 4000000 in
theorem ct_X11_isSameInLane (Z : Nat → Nat) {r0 : Option Nat} (a0 : Nat) (h0 : r0 = some a0) (x1 : Int32) (x2 : Int32) : Ct yX11_isSameInLane cX11_isSameInLane 4 (some .boolean) 5 112 Z [.ref a0, .int x1, .int x2] vI (f_X11_isSameInLane r0 x1 x2) := by
  subst h0
  refine ct_of (lv0 := [(0, va_rf (some a0)), (1, .int x1), (2, .int x2)]) (by decide +kernel) (by simp [lg_sl, ct_i, ct_l, ct_r, rf_cat]) (by show _ = ([(0, Value.ref a0), (1, .int x1), (2, .int x2)] : List (Nat × Value)); simp [lv_args, ct_i, ct_l, ct_r, rf_cat]) (fun X cx hZ hfr hlo hr hin => ?_)
  subst hZ
  exact s_X11_isSameInLane cx (Nat.le_of_eq hfr.symm) (Nat.le_of_eq hlo.symm) hr (some a0) x1 x2
/-! PolicyTree.countMoved(ILPolicyTree$Node;LPolicyTree$Node;)I -/
theorem dX11_countMoved_0 : decode cX11_countMoved 0 = .ok (.iload_n 1, 1) := by decide +kernel
theorem dX11_countMoved_1 : decode cX11_countMoved 1 = .ok (.ifCond .lt 14, 3) := by decide +kernel
theorem dX11_countMoved_4 : decode cX11_countMoved 4 = .ok (.iload_n 1, 1) := by decide +kernel
theorem dX11_countMoved_5 : decode cX11_countMoved 5 = .ok (.aload_n 0, 1) := by decide +kernel
theorem dX11_countMoved_6 : decode cX11_countMoved 6 = .ok (.getfield 16, 3) := by decide +kernel
theorem dX11_countMoved_9 : decode cX11_countMoved 9 = .ok (.invokevirtual 88, 3) := by decide +kernel
theorem dX11_countMoved_12 : decode cX11_countMoved 12 = .ok (.if_icmp .lt 5, 3) := by decide +kernel
theorem dX11_countMoved_15 : decode cX11_countMoved 15 = .ok (.iconst 0, 1) := by decide +kernel
theorem dX11_countMoved_16 : decode cX11_countMoved 16 = .ok (.ireturn, 1) := by decide +kernel
theorem dX11_countMoved_17 : decode cX11_countMoved 17 = .ok (.aload_n 0, 1) := by decide +kernel
theorem dX11_countMoved_18 : decode cX11_countMoved 18 = .ok (.getfield 16, 3) := by decide +kernel
theorem dX11_countMoved_21 : decode cX11_countMoved 21 = .ok (.iload_n 1, 1) := by decide +kernel
theorem dX11_countMoved_22 : decode cX11_countMoved 22 = .ok (.invokevirtual 99, 3) := by decide +kernel
theorem dX11_countMoved_25 : decode cX11_countMoved 25 = .ok (.checkcast 111, 3) := by decide +kernel
theorem dX11_countMoved_28 : decode cX11_countMoved 28 = .ok (.astore 4, 2) := by decide +kernel
theorem dX11_countMoved_30 : decode cX11_countMoved 30 = .ok (.aload_n 0, 1) := by decide +kernel
theorem dX11_countMoved_31 : decode cX11_countMoved 31 = .ok (.getfield 22, 3) := by decide +kernel
theorem dX11_countMoved_34 : decode cX11_countMoved 34 = .ok (.iload_n 1, 1) := by decide +kernel
theorem dX11_countMoved_35 : decode cX11_countMoved 35 = .ok (.invokevirtual 154, 3) := by decide +kernel
theorem dX11_countMoved_38 : decode cX11_countMoved 38 = .ok (.istore 5, 2) := by decide +kernel
theorem dX11_countMoved_40 : decode cX11_countMoved 40 = .ok (.aload_n 0, 1) := by decide +kernel
theorem dX11_countMoved_41 : decode cX11_countMoved 41 = .ok (.getfield 59, 3) := by decide +kernel
theorem dX11_countMoved_44 : decode cX11_countMoved 44 = .ok (.aload 4, 2) := by decide +kernel
theorem dX11_countMoved_46 : decode cX11_countMoved 46 = .ok (.iload 5, 2) := by decide +kernel
theorem dX11_countMoved_48 : decode cX11_countMoved 48 = .ok (.sipush 4095, 3) := by decide +kernel
theorem dX11_countMoved_51 : decode cX11_countMoved 51 = .ok (.invokevirtual 267, 3) := by decide +kernel
theorem dX11_countMoved_54 : decode cX11_countMoved 54 = .ok (.aload_n 0, 1) := by decide +kernel
theorem dX11_countMoved_55 : decode cX11_countMoved 55 = .ok (.getfield 59, 3) := by decide +kernel
theorem dX11_countMoved_58 : decode cX11_countMoved 58 = .ok (.iconst 0, 1) := by decide +kernel
theorem dX11_countMoved_59 : decode cX11_countMoved 59 = .ok (.invokevirtual 232, 3) := by decide +kernel
theorem dX11_countMoved_62 : decode cX11_countMoved 62 = .ok (.aload_n 2, 1) := by decide +kernel
theorem dX11_countMoved_63 : decode cX11_countMoved 63 = .ok (.getfield 121, 3) := by decide +kernel
theorem dX11_countMoved_66 : decode cX11_countMoved 66 = .ok (.astore 6, 2) := by decide +kernel
theorem dX11_countMoved_68 : decode cX11_countMoved 68 = .ok (.aload_n 2, 1) := by decide +kernel
theorem dX11_countMoved_69 : decode cX11_countMoved 69 = .ok (.aload_n 3, 1) := by decide +kernel
theorem dX11_countMoved_70 : decode cX11_countMoved 70 = .ok (.putfield 121, 3) := by decide +kernel
theorem dX11_countMoved_73 : decode cX11_countMoved 73 = .ok (.aload_n 0, 1) := by decide +kernel
theorem dX11_countMoved_74 : decode cX11_countMoved 74 = .ok (.getfield 63, 3) := by decide +kernel
theorem dX11_countMoved_77 : decode cX11_countMoved 77 = .ok (.aload 4, 2) := by decide +kernel
theorem dX11_countMoved_79 : decode cX11_countMoved 79 = .ok (.iload 5, 2) := by decide +kernel
theorem dX11_countMoved_81 : decode cX11_countMoved 81 = .ok (.sipush 4095, 3) := by decide +kernel
theorem dX11_countMoved_84 : decode cX11_countMoved 84 = .ok (.invokevirtual 267, 3) := by decide +kernel
theorem dX11_countMoved_87 : decode cX11_countMoved 87 = .ok (.aload_n 0, 1) := by decide +kernel
theorem dX11_countMoved_88 : decode cX11_countMoved 88 = .ok (.getfield 63, 3) := by decide +kernel
theorem dX11_countMoved_91 : decode cX11_countMoved 91 = .ok (.iconst 0, 1) := by decide +kernel
theorem dX11_countMoved_92 : decode cX11_countMoved 92 = .ok (.invokevirtual 232, 3) := by decide +kernel
theorem dX11_countMoved_95 : decode cX11_countMoved 95 = .ok (.aload_n 2, 1) := by decide +kernel
theorem dX11_countMoved_96 : decode cX11_countMoved 96 = .ok (.aload 6, 2) := by decide +kernel
theorem dX11_countMoved_98 : decode cX11_countMoved 98 = .ok (.putfield 121, 3) := by decide +kernel
theorem dX11_countMoved_101 : decode cX11_countMoved 101 = .ok (.iconst 0, 1) := by decide +kernel
theorem dX11_countMoved_102 : decode cX11_countMoved 102 = .ok (.istore 7, 2) := by decide +kernel
theorem dX11_countMoved_104 : decode cX11_countMoved 104 = .ok (.iconst 0, 1) := by decide +kernel
theorem dX11_countMoved_105 : decode cX11_countMoved 105 = .ok (.istore 8, 2) := by decide +kernel
theorem dX11_countMoved_107 : decode cX11_countMoved 107 = .ok (.iload 8, 2) := by decide +kernel
theorem dX11_countMoved_109 : decode cX11_countMoved 109 = .ok (.aload_n 0, 1) := by decide +kernel
theorem dX11_countMoved_110 : decode cX11_countMoved 110 = .ok (.getfield 32, 3) := by decide +kernel
theorem dX11_countMoved_113 : decode cX11_countMoved 113 = .ok (.arraylength, 1) := by decide +kernel
theorem dX11_countMoved_114 : decode cX11_countMoved 114 = .ok (.if_icmp .ge 70, 3) := by decide +kernel
theorem dX11_countMoved_117 : decode cX11_countMoved 117 = .ok (.aload_n 0, 1) := by decide +kernel
theorem dX11_countMoved_118 : decode cX11_countMoved 118 = .ok (.getfield 69, 3) := by decide +kernel
theorem dX11_countMoved_121 : decode cX11_countMoved 121 = .ok (.aload_n 0, 1) := by decide +kernel
theorem dX11_countMoved_122 : decode cX11_countMoved 122 = .ok (.getfield 59, 3) := by decide +kernel
theorem dX11_countMoved_125 : decode cX11_countMoved 125 = .ok (.iload 8, 2) := by decide +kernel
theorem dX11_countMoved_127 : decode cX11_countMoved 127 = .ok (.aload_n 0, 1) := by decide +kernel
theorem dX11_countMoved_128 : decode cX11_countMoved 128 = .ok (.getfield 32, 3) := by decide +kernel
theorem dX11_countMoved_131 : decode cX11_countMoved 131 = .ok (.iload 8, 2) := by decide +kernel
theorem dX11_countMoved_133 : decode cX11_countMoved 133 = .ok (.iaload, 1) := by decide +kernel
theorem dX11_countMoved_134 : decode cX11_countMoved 134 = .ok (.iconst 0, 1) := by decide +kernel
theorem dX11_countMoved_135 : decode cX11_countMoved 135 = .ok (.aconst_null, 1) := by decide +kernel
theorem dX11_countMoved_136 : decode cX11_countMoved 136 = .ok (.invokevirtual 271, 3) := by decide +kernel
theorem dX11_countMoved_139 : decode cX11_countMoved 139 = .ok (.aload_n 0, 1) := by decide +kernel
theorem dX11_countMoved_140 : decode cX11_countMoved 140 = .ok (.getfield 73, 3) := by decide +kernel
theorem dX11_countMoved_143 : decode cX11_countMoved 143 = .ok (.aload_n 0, 1) := by decide +kernel
theorem dX11_countMoved_144 : decode cX11_countMoved 144 = .ok (.getfield 63, 3) := by decide +kernel
theorem dX11_countMoved_147 : decode cX11_countMoved 147 = .ok (.iload 8, 2) := by decide +kernel
theorem dX11_countMoved_149 : decode cX11_countMoved 149 = .ok (.aload_n 0, 1) := by decide +kernel
theorem dX11_countMoved_150 : decode cX11_countMoved 150 = .ok (.getfield 32, 3) := by decide +kernel
theorem dX11_countMoved_153 : decode cX11_countMoved 153 = .ok (.iload 8, 2) := by decide +kernel
theorem dX11_countMoved_155 : decode cX11_countMoved 155 = .ok (.iaload, 1) := by decide +kernel
theorem dX11_countMoved_156 : decode cX11_countMoved 156 = .ok (.iconst 0, 1) := by decide +kernel
theorem dX11_countMoved_157 : decode cX11_countMoved 157 = .ok (.aconst_null, 1) := by decide +kernel
theorem dX11_countMoved_158 : decode cX11_countMoved 158 = .ok (.invokevirtual 271, 3) := by decide +kernel
theorem dX11_countMoved_161 : decode cX11_countMoved 161 = .ok (.aload_n 0, 1) := by decide +kernel
theorem dX11_countMoved_162 : decode cX11_countMoved 162 = .ok (.getfield 69, 3) := by decide +kernel
theorem dX11_countMoved_165 : decode cX11_countMoved 165 = .ok (.aload_n 0, 1) := by decide +kernel
theorem dX11_countMoved_166 : decode cX11_countMoved 166 = .ok (.getfield 73, 3) := by decide +kernel
theorem dX11_countMoved_169 : decode cX11_countMoved 169 = .ok (.invokevirtual 274, 3) := by decide +kernel
theorem dX11_countMoved_172 : decode cX11_countMoved 172 = .ok (.ifCond .ne 6, 3) := by decide +kernel
theorem dX11_countMoved_175 : decode cX11_countMoved 175 = .ok (.iinc 7 1, 3) := by decide +kernel
theorem dX11_countMoved_178 : decode cX11_countMoved 178 = .ok (.iinc 8 1, 3) := by decide +kernel
theorem dX11_countMoved_181 : decode cX11_countMoved 181 = .ok (.goto (-74), 3) := by decide +kernel
theorem dX11_countMoved_184 : decode cX11_countMoved 184 = .ok (.iload 7, 2) := by decide +kernel
theorem dX11_countMoved_186 : decode cX11_countMoved 186 = .ok (.ireturn, 1) := by decide +kernel
def f_X11_countMoved_15 (Z : Nat → Nat) : Mo Int32 := mp (0 : Int32)
set_option maxRecDepth 100000 in
set_option maxHeartbeats 4000000 in
theorem s_X11_countMoved_15 {X : Cg} (cx : Cx X cX11_countMoved RX11 9) (hfr : 9 ≤ (xR X).frames) (hlo : 222 ≤ (xR X).locals) (hr : (xM X).sig.returnType = (some .int)) : Sim X 9 (FiM X vI) 15 [] [] (f_X11_countMoved_15 (xZ X)) := by
  unfold f_X11_countMoved_15
  refine sm_iconst (v := 0) cx dX11_countMoved_15 (by decide) ?_
  exact sm_iret cx hr dX11_countMoved_16
def f_X11_countMoved_178 (Z : Nat → Nat) (k107 : Int32 → Int32 → Mo Int32) (r0 : Option Nat) (x7 : Int32) (x8 : Int32) : Mo Int32 := k107 x7 (x8 + 1)
set_option maxRecDepth 100000 in
set_option maxHeartbeats 4000000 in
theorem s_X11_countMoved_178 {X : Cg} (cx : Cx X cX11_countMoved RX11 9) (hfr : 9 ≤ (xR X).frames) (hlo : 222 ≤ (xR X).locals) (hr : (xM X).sig.returnType = (some .int)) (r0 : Option Nat) (x7 : Int32) (x8 : Int32) {k107 : Int32 → Int32 → Mo Int32} (hk107 : ∀ (x7 : Int32) (x8 : Int32), Sim X 9 (FiM X vI) 107 [(0, va_rf r0), (7, .int x7), (8, .int x8)] [] (k107 x7 x8)) : Sim X 9 (FiM X vI) 178 [(0, va_rf r0), (7, .int x7), (8, .int x8)] [] (f_X11_countMoved_178 (xZ X) k107 r0 x7 x8) := by
  unfold f_X11_countMoved_178
  refine sm_iinc cx 2 [(8, .int (x8 + 1)), (0, va_rf r0), (7, .int x7)] dX11_countMoved_178 rfl rfl (by decide) rfl (nc1 rfl) rfl ?_
  refine sm_goto (tgt := 107) cx dX11_countMoved_181 (by decide) ?_
  exact sm_lv [1, 2, 0] rfl (hk107 x7 (x8 + 1))
def f_X11_countMoved_107 (Z : Nat → Nat) (r0 : Option Nat) : Nat → Int32 → Int32 → Mo Int32
  | 0, _, _ => mf
  | n + 1, x7, x8 => mb (gR 14 5 r0) (fun v110 => mb (aN 1 v110) (fun v113 => (if v113 ≤ x8 then mp x7 else mb (gR 14 11 r0) (fun v118 => mb (gR 14 9 r0) (fun v122 => mb (gR 14 5 r0) (fun v128 => mb (aI 1 v128 x8) (fun v133 => mb (mo 10 v118 (f_X7_read v118 v122 x8 v133 (0 : Int32) none)) (fun _ => mb (gR 14 12 r0) (fun v140 => mb (gR 14 10 r0) (fun v144 => mb (gR 14 5 r0) (fun v150 => mb (aI 1 v150 x8) (fun v155 => mb (mo 10 v140 (f_X7_read v140 v144 x8 v155 (0 : Int32) none)) (fun _ => mb (gR 14 11 r0) (fun v162 => mb (gR 14 12 r0) (fun v166 => mb (mo 10 v162 (f_X7_isSame v162 v166)) (fun v169 => (if v169 = 0 then f_X11_countMoved_178 Z (f_X11_countMoved_107 Z r0 n) r0 (x7 + 1) x8 else f_X11_countMoved_178 Z (f_X11_countMoved_107 Z r0 n) r0 x7 x8)))))))))))))))))
set_option maxRecDepth 100000 in
set_option maxHeartbeats 4000000 in
theorem s_X11_countMoved_107 {X : Cg} (cx : Cx X cX11_countMoved RX11 9) (hfr : 9 ≤ (xR X).frames) (hlo : 222 ≤ (xR X).locals) (hr : (xM X).sig.returnType = (some .int)) (r0 : Option Nat) : ∀ (n : Nat) (x7 : Int32) (x8 : Int32), Sim X 9 (FiM X vI) 107 [(0, va_rf r0), (7, .int x7), (8, .int x8)] [] (f_X11_countMoved_107 (xZ X) r0 n x7 x8) := by
  intro n
  induction n with
  | zero =>
    intro _ _
    exact sm_mf
  | succ n ih =>
    intro x7 x8
    rw [f_X11_countMoved_107]
    refine sm_iload cx 2 dX11_countMoved_107 rfl ?_
    refine sm_aload_n cx 0 dX11_countMoved_109 rfl rfl ?_
    refine sm_getR cx fl_X11_32 dX11_countMoved_110 (fun v110 => ?_)
    refine sm_alen cx 1 (by decide) dX11_countMoved_113 (fun v113 => ?_)
    refine sm_icmp_ge (tgt := 184) cx dX11_countMoved_114 (by decide) ?_ ?_
    · refine sm_iload cx 1 dX11_countMoved_184 rfl ?_
      exact sm_iret cx hr dX11_countMoved_186
    · refine sm_aload_n cx 0 dX11_countMoved_117 rfl rfl ?_
      refine sm_getR cx fl_X11_69 dX11_countMoved_118 (fun v118 => ?_)
      refine sm_aload_n cx 0 dX11_countMoved_121 rfl rfl ?_
      refine sm_getR cx fl_X11_59 dX11_countMoved_122 (fun v122 => ?_)
      refine sm_iload cx 2 dX11_countMoved_125 rfl ?_
      refine sm_aload_n cx 0 dX11_countMoved_127 rfl rfl ?_
      refine sm_getR cx fl_X11_32 dX11_countMoved_128 (fun v128 => ?_)
      refine sm_iload cx 2 dX11_countMoved_131 rfl ?_
      refine sm_iald cx dX11_countMoved_133 (fun v133 => ?_)
      refine sm_iconst (v := 0) cx dX11_countMoved_134 (by decide) ?_
      refine sm_null cx dX11_countMoved_135 ?_
      refine sm_callV (T := TX7) (N := 3) (toV := vV) cx [va_rf v122, .int x8, .int v133, .int (0 : Int32), va_rf none] rfl cv_X11_271 (fun a h => ct_X7_read (xZ X) a h v122 x8 v133 (0 : Int32) none) (Nat.le_trans (by decide) hfr) (Nat.le_trans (by decide) hlo) rfl (cat_le _ (Nat.le_of_ble_eq_true rfl)) dX11_countMoved_136 (fun _ => ?_)
      refine sm_aload_n cx 0 dX11_countMoved_139 rfl rfl ?_
      refine sm_getR cx fl_X11_73 dX11_countMoved_140 (fun v140 => ?_)
      refine sm_aload_n cx 0 dX11_countMoved_143 rfl rfl ?_
      refine sm_getR cx fl_X11_63 dX11_countMoved_144 (fun v144 => ?_)
      refine sm_iload cx 2 dX11_countMoved_147 rfl ?_
      refine sm_aload_n cx 0 dX11_countMoved_149 rfl rfl ?_
      refine sm_getR cx fl_X11_32 dX11_countMoved_150 (fun v150 => ?_)
      refine sm_iload cx 2 dX11_countMoved_153 rfl ?_
      refine sm_iald cx dX11_countMoved_155 (fun v155 => ?_)
      refine sm_iconst (v := 0) cx dX11_countMoved_156 (by decide) ?_
      refine sm_null cx dX11_countMoved_157 ?_
      refine sm_callV (T := TX7) (N := 3) (toV := vV) cx [va_rf v144, .int x8, .int v155, .int (0 : Int32), va_rf none] rfl cv_X11_271 (fun a h => ct_X7_read (xZ X) a h v144 x8 v155 (0 : Int32) none) (Nat.le_trans (by decide) hfr) (Nat.le_trans (by decide) hlo) rfl (cat_le _ (Nat.le_of_ble_eq_true rfl)) dX11_countMoved_158 (fun _ => ?_)
      refine sm_aload_n cx 0 dX11_countMoved_161 rfl rfl ?_
      refine sm_getR cx fl_X11_69 dX11_countMoved_162 (fun v162 => ?_)
      refine sm_aload_n cx 0 dX11_countMoved_165 rfl rfl ?_
      refine sm_getR cx fl_X11_73 dX11_countMoved_166 (fun v166 => ?_)
      refine sm_callV (T := TX7) (N := 3) (toV := vI) cx [va_rf v166] rfl cv_X11_274 (fun a h => ct_X7_isSame (xZ X) a h v166) (Nat.le_trans (by decide) hfr) (Nat.le_trans (by decide) hlo) rfl (cat_le _ (Nat.le_of_ble_eq_true rfl)) dX11_countMoved_169 (fun v169 => ?_)
      refine sm_if_ne (tgt := 178) cx dX11_countMoved_172 (by decide) ?_ ?_
      · exact sm_lv [0, 1, 2] rfl (s_X11_countMoved_178 cx hfr hlo hr r0 x7 x8 ih)
      · refine sm_iinc cx 1 [(7, .int (x7 + 1)), (0, va_rf r0), (8, .int x8)] dX11_countMoved_175 rfl rfl (by decide) rfl nc0 rfl ?_
        exact sm_lv [1, 0, 2] rfl (s_X11_countMoved_178 cx hfr hlo hr r0 (x7 + 1) x8 ih)
def f_X11_countMoved (Z : Nat → Nat) (r0 : Option Nat) (x1 : Int32) (r2 : Option Nat) (r3 : Option Nat) : Mo Int32 := (if x1 < 0 then f_X11_countMoved_15 Z else mb (gR 14 1 r0) (fun v6 => mb (mo 2 v6 (f_Jx4a65c_size_8abf5 v6)) (fun v9 => (if x1 < v9 then mb (gR 14 1 r0) (fun v18 => mb (mo 2 v18 (f_Jx4a65c_get_915e3 v18 x1)) (fun v22 => mb (ck 8 v22) (fun _ => mb (gR 14 2 r0) (fun v31 => mb (mo 6 v31 (f_X3_groupsOf v31 x1)) (fun v35 => mb (gR 14 9 r0) (fun v41 => mb (mo 11 v41 (f_X8_collect Z v41 v22 v35 (4095 : Int32))) (fun _ => mb (gR 14 9 r0) (fun v55 => mb (mo 11 v55 (f_X8_weigh Z v55 (0 : Int32))) (fun _ => mb (gR 9 1 r2) (fun v63 => mb (pV 9 1 r2 (va_rf r3)) (fun _ => mb (gR 14 10 r0) (fun v74 => mb (mo 11 v74 (f_X8_collect Z v74 v22 v35 (4095 : Int32))) (fun _ => mb (gR 14 10 r0) (fun v88 => mb (mo 11 v88 (f_X8_weigh Z v88 (0 : Int32))) (fun _ => mb (pV 9 1 r2 (va_rf v63)) (fun _ => f_X11_countMoved_107 Z r0 fuL (0 : Int32) (0 : Int32))))))))))))))))) else f_X11_countMoved_15 Z))))
set_option maxRecDepth 100000 in
set_option maxHeartbeats 4000000 in
theorem s_X11_countMoved {X : Cg} (cx : Cx X cX11_countMoved RX11 9) (hfr : 9 ≤ (xR X).frames) (hlo : 222 ≤ (xR X).locals) (hr : (xM X).sig.returnType = (some .int)) (r0 : Option Nat) (x1 : Int32) (r2 : Option Nat) (r3 : Option Nat) : Sim X 9 (FiM X vI) 0 [(0, va_rf r0), (1, .int x1), (2, va_rf r2), (3, va_rf r3)] [] (f_X11_countMoved (xZ X) r0 x1 r2 r3) := by
  unfold f_X11_countMoved
  refine sm_iload_n cx 1 dX11_countMoved_0 rfl rfl ?_
  refine sm_if_lt (tgt := 15) cx dX11_countMoved_1 (by decide) ?_ ?_
  · exact sm_lv [] rfl (s_X11_countMoved_15 cx hfr hlo hr)
  · refine sm_iload_n cx 1 dX11_countMoved_4 rfl rfl ?_
    refine sm_aload_n cx 0 dX11_countMoved_5 rfl rfl ?_
    refine sm_getR cx fl_X11_16 dX11_countMoved_6 (fun v6 => ?_)
    refine sm_callV (T := TJx4a65c) (N := 3) (toV := vI) cx [] rfl cv_X11_88 (fun a h => ct_Jx4a65c_size_8abf5 (xZ X) a h) (Nat.le_trans (by decide) hfr) (Nat.le_trans (by decide) hlo) rfl (cat_le _ (Nat.le_of_ble_eq_true rfl)) dX11_countMoved_9 (fun v9 => ?_)
    refine sm_icmp_lt (tgt := 17) cx dX11_countMoved_12 (by decide) ?_ ?_
    · refine sm_aload_n cx 0 dX11_countMoved_17 rfl rfl ?_
      refine sm_getR cx fl_X11_16 dX11_countMoved_18 (fun v18 => ?_)
      refine sm_iload_n cx 1 dX11_countMoved_21 rfl rfl ?_
      refine sm_callV (T := TJx4a65c) (N := 3) (toV := vR) cx [.int x1] rfl cv_X11_99 (fun a h => ct_Jx4a65c_get_915e3 (xZ X) a h x1) (Nat.le_trans (by decide) hfr) (Nat.le_trans (by decide) hlo) rfl (cat_le _ (Nat.le_of_ble_eq_true rfl)) dX11_countMoved_22 (fun v22 => ?_)
      refine sm_ck (T := TX5) (N := 3) cx rfl wd_3_43 dX11_countMoved_25 ?_
      refine sm_astore cx [(4, va_rf v22), (0, va_rf r0), (1, .int x1), (2, va_rf r2), (3, va_rf r3)] dX11_countMoved_28 (by decide) rfl (nc1 (rf_cat _)) rfl ?_
      refine sm_aload_n cx 1 dX11_countMoved_30 rfl rfl ?_
      refine sm_getR cx fl_X11_22 dX11_countMoved_31 (fun v31 => ?_)
      refine sm_iload_n cx 2 dX11_countMoved_34 rfl rfl ?_
      refine sm_callV (T := TX3) (N := 3) (toV := vI) cx [.int x1] rfl cv_X11_154 (fun a h => ct_X3_groupsOf (xZ X) a h x1) (Nat.le_trans (by decide) hfr) (Nat.le_trans (by decide) hlo) rfl (cat_le _ (Nat.le_of_ble_eq_true rfl)) dX11_countMoved_35 (fun v35 => ?_)
      refine sm_istore cx [(5, .int v35), (4, va_rf v22), (0, va_rf r0), (1, .int x1), (2, va_rf r2), (3, va_rf r3)] dX11_countMoved_38 (by decide) rfl (nc1 (rf_cat _)) rfl ?_
      refine sm_aload_n cx 2 dX11_countMoved_40 rfl rfl ?_
      refine sm_getR cx fl_X11_59 dX11_countMoved_41 (fun v41 => ?_)
      refine sm_aload cx 1 dX11_countMoved_44 rfl ?_
      refine sm_iload cx 0 dX11_countMoved_46 rfl ?_
      refine sm_sipush (v := 4095) cx dX11_countMoved_48 (by decide) ?_
      refine sm_callV (T := TX8) (N := 4) (toV := vV) cx [va_rf v22, .int v35, .int (4095 : Int32)] rfl cv_X11_267 (fun a h => ct_X8_collect (xZ X) a h v22 v35 (4095 : Int32)) (Nat.le_trans (by decide) hfr) (Nat.le_trans (by decide) hlo) rfl (cat_le _ (Nat.le_of_ble_eq_true rfl)) dX11_countMoved_51 (fun _ => ?_)
      refine sm_aload_n cx 2 dX11_countMoved_54 rfl rfl ?_
      refine sm_getR cx fl_X11_59 dX11_countMoved_55 (fun v55 => ?_)
      refine sm_iconst (v := 0) cx dX11_countMoved_58 (by decide) ?_
      refine sm_callV (T := TX8) (N := 4) (toV := vV) cx [.int (0 : Int32)] rfl cv_X11_232 (fun a h => ct_X8_weigh (xZ X) a h (0 : Int32)) (Nat.le_trans (by decide) hfr) (Nat.le_trans (by decide) hlo) rfl (cat_le _ (Nat.le_of_ble_eq_true rfl)) dX11_countMoved_59 (fun _ => ?_)
      refine sm_aload_n cx 4 dX11_countMoved_62 rfl rfl ?_
      refine sm_getR cx fl_X11_121 dX11_countMoved_63 (fun v63 => ?_)
      refine sm_astore cx [(6, va_rf v63), (5, .int v35), (4, va_rf v22), (0, va_rf r0), (1, .int x1), (2, va_rf r2), (3, va_rf r3)] dX11_countMoved_66 (by decide) rfl (nc1 rfl) rfl ?_
      refine sm_aload_n cx 5 dX11_countMoved_68 rfl rfl ?_
      refine sm_aload_n cx 6 dX11_countMoved_69 rfl rfl ?_
      refine sm_putV cx fl_X11_121 (nr_rf _) (ft_rf _) dX11_countMoved_70 ?_
      refine sm_aload_n cx 3 dX11_countMoved_73 rfl rfl ?_
      refine sm_getR cx fl_X11_63 dX11_countMoved_74 (fun v74 => ?_)
      refine sm_aload cx 2 dX11_countMoved_77 rfl ?_
      refine sm_iload cx 1 dX11_countMoved_79 rfl ?_
      refine sm_sipush (v := 4095) cx dX11_countMoved_81 (by decide) ?_
      refine sm_callV (T := TX8) (N := 4) (toV := vV) cx [va_rf v22, .int v35, .int (4095 : Int32)] rfl cv_X11_267 (fun a h => ct_X8_collect (xZ X) a h v22 v35 (4095 : Int32)) (Nat.le_trans (by decide) hfr) (Nat.le_trans (by decide) hlo) rfl (cat_le _ (Nat.le_of_ble_eq_true rfl)) dX11_countMoved_84 (fun _ => ?_)
      refine sm_aload_n cx 3 dX11_countMoved_87 rfl rfl ?_
      refine sm_getR cx fl_X11_63 dX11_countMoved_88 (fun v88 => ?_)
      refine sm_iconst (v := 0) cx dX11_countMoved_91 (by decide) ?_
      refine sm_callV (T := TX8) (N := 4) (toV := vV) cx [.int (0 : Int32)] rfl cv_X11_232 (fun a h => ct_X8_weigh (xZ X) a h (0 : Int32)) (Nat.le_trans (by decide) hfr) (Nat.le_trans (by decide) hlo) rfl (cat_le _ (Nat.le_of_ble_eq_true rfl)) dX11_countMoved_92 (fun _ => ?_)
      refine sm_aload_n cx 5 dX11_countMoved_95 rfl rfl ?_
      refine sm_aload cx 0 dX11_countMoved_96 rfl ?_
      refine sm_putV cx fl_X11_121 (nr_rf _) (ft_rf _) dX11_countMoved_98 ?_
      refine sm_iconst (v := 0) cx dX11_countMoved_101 (by decide) ?_
      refine sm_istore cx [(7, .int (0 : Int32)), (6, va_rf v63), (5, .int v35), (4, va_rf v22), (0, va_rf r0), (1, .int x1), (2, va_rf r2), (3, va_rf r3)] dX11_countMoved_102 (by decide) rfl (nc1 (rf_cat _)) rfl ?_
      refine sm_iconst (v := 0) cx dX11_countMoved_104 (by decide) ?_
      refine sm_istore cx [(8, .int (0 : Int32)), (7, .int (0 : Int32)), (6, va_rf v63), (5, .int v35), (4, va_rf v22), (0, va_rf r0), (1, .int x1), (2, va_rf r2), (3, va_rf r3)] dX11_countMoved_105 (by decide) rfl (nc1 rfl) rfl ?_
      exact sm_lv [5, 1, 0] rfl (s_X11_countMoved_107 cx hfr hlo hr r0 fuL (0 : Int32) (0 : Int32))
    · exact sm_lv [] rfl (s_X11_countMoved_15 cx hfr hlo hr)
set_option maxRecDepth 100000 in
set_option maxHeartbeats 4000000 in
theorem ct_X11_countMoved (Z : Nat → Nat) {r0 : Option Nat} (a0 : Nat) (h0 : r0 = some a0) (x1 : Int32) (r2 : Option Nat) (r3 : Option Nat) : Ct yX11_countMoved cX11_countMoved 9 (some .int) 9 222 Z [.ref a0, .int x1, va_rf r2, va_rf r3] vI (f_X11_countMoved Z r0 x1 r2 r3) := by
  subst h0
  refine ct_of (lv0 := [(0, va_rf (some a0)), (1, .int x1), (2, va_rf r2), (3, va_rf r3)]) (by decide +kernel) (by simp [lg_sl, ct_i, ct_l, ct_r, rf_cat]) (by show _ = ([(0, Value.ref a0), (1, .int x1), (2, va_rf r2), (3, va_rf r3)] : List (Nat × Value)); simp [lv_args, ct_i, ct_l, ct_r, rf_cat]) (fun X cx hZ hfr hlo hr hin => ?_)
  subst hZ
  exact s_X11_countMoved cx (Nat.le_of_eq hfr.symm) (Nat.le_of_eq hlo.symm) hr (some a0) x1 r2 r3
/-! PolicyTree.addReach(LPolicyTree$Link;II)I -/
theorem dX11_addReach_0 : decode cX11_addReach 0 = .ok (.iload_n 3, 1) := by decide +kernel
theorem dX11_addReach_1 : decode cX11_addReach 1 = .ok (.istore 4, 2) := by decide +kernel
theorem dX11_addReach_3 : decode cX11_addReach 3 = .ok (.iconst 0, 1) := by decide +kernel
theorem dX11_addReach_4 : decode cX11_addReach 4 = .ok (.istore 5, 2) := by decide +kernel
theorem dX11_addReach_6 : decode cX11_addReach 6 = .ok (.iload 5, 2) := by decide +kernel
theorem dX11_addReach_8 : decode cX11_addReach 8 = .ok (.aload_n 0, 1) := by decide +kernel
theorem dX11_addReach_9 : decode cX11_addReach 9 = .ok (.getfield 32, 3) := by decide +kernel
theorem dX11_addReach_12 : decode cX11_addReach 12 = .ok (.arraylength, 1) := by decide +kernel
theorem dX11_addReach_13 : decode cX11_addReach 13 = .ok (.if_icmp .ge 114, 3) := by decide +kernel
theorem dX11_addReach_16 : decode cX11_addReach 16 = .ok (.aload_n 1, 1) := by decide +kernel
theorem dX11_addReach_17 : decode cX11_addReach 17 = .ok (.getfield 278, 3) := by decide +kernel
theorem dX11_addReach_20 : decode cX11_addReach 20 = .ok (.iload 5, 2) := by decide +kernel
theorem dX11_addReach_22 : decode cX11_addReach 22 = .ok (.invokevirtual 289, 3) := by decide +kernel
theorem dX11_addReach_25 : decode cX11_addReach 25 = .ok (.ifCond .ne 6, 3) := by decide +kernel
theorem dX11_addReach_28 : decode cX11_addReach 28 = .ok (.goto 93, 3) := by decide +kernel
theorem dX11_addReach_31 : decode cX11_addReach 31 = .ok (.aload_n 0, 1) := by decide +kernel
theorem dX11_addReach_32 : decode cX11_addReach 32 = .ok (.getfield 69, 3) := by decide +kernel
theorem dX11_addReach_35 : decode cX11_addReach 35 = .ok (.aload_n 0, 1) := by decide +kernel
theorem dX11_addReach_36 : decode cX11_addReach 36 = .ok (.getfield 59, 3) := by decide +kernel
theorem dX11_addReach_39 : decode cX11_addReach 39 = .ok (.iload 5, 2) := by decide +kernel
theorem dX11_addReach_41 : decode cX11_addReach 41 = .ok (.aload_n 0, 1) := by decide +kernel
theorem dX11_addReach_42 : decode cX11_addReach 42 = .ok (.getfield 32, 3) := by decide +kernel
theorem dX11_addReach_45 : decode cX11_addReach 45 = .ok (.iload 5, 2) := by decide +kernel
theorem dX11_addReach_47 : decode cX11_addReach 47 = .ok (.iaload, 1) := by decide +kernel
theorem dX11_addReach_48 : decode cX11_addReach 48 = .ok (.iconst 0, 1) := by decide +kernel
theorem dX11_addReach_49 : decode cX11_addReach 49 = .ok (.aconst_null, 1) := by decide +kernel
theorem dX11_addReach_50 : decode cX11_addReach 50 = .ok (.invokevirtual 271, 3) := by decide +kernel
theorem dX11_addReach_53 : decode cX11_addReach 53 = .ok (.aload_n 0, 1) := by decide +kernel
theorem dX11_addReach_54 : decode cX11_addReach 54 = .ok (.getfield 73, 3) := by decide +kernel
theorem dX11_addReach_57 : decode cX11_addReach 57 = .ok (.aload_n 0, 1) := by decide +kernel
theorem dX11_addReach_58 : decode cX11_addReach 58 = .ok (.getfield 59, 3) := by decide +kernel
theorem dX11_addReach_61 : decode cX11_addReach 61 = .ok (.iload 5, 2) := by decide +kernel
theorem dX11_addReach_63 : decode cX11_addReach 63 = .ok (.aload_n 0, 1) := by decide +kernel
theorem dX11_addReach_64 : decode cX11_addReach 64 = .ok (.getfield 32, 3) := by decide +kernel
theorem dX11_addReach_67 : decode cX11_addReach 67 = .ok (.iload 5, 2) := by decide +kernel
theorem dX11_addReach_69 : decode cX11_addReach 69 = .ok (.iaload, 1) := by decide +kernel
theorem dX11_addReach_70 : decode cX11_addReach 70 = .ok (.iconst 0, 1) := by decide +kernel
theorem dX11_addReach_71 : decode cX11_addReach 71 = .ok (.aload_n 1, 1) := by decide +kernel
theorem dX11_addReach_72 : decode cX11_addReach 72 = .ok (.invokevirtual 271, 3) := by decide +kernel
theorem dX11_addReach_75 : decode cX11_addReach 75 = .ok (.aload_n 0, 1) := by decide +kernel
theorem dX11_addReach_76 : decode cX11_addReach 76 = .ok (.getfield 69, 3) := by decide +kernel
theorem dX11_addReach_79 : decode cX11_addReach 79 = .ok (.aload_n 0, 1) := by decide +kernel
theorem dX11_addReach_80 : decode cX11_addReach 80 = .ok (.getfield 73, 3) := by decide +kernel
theorem dX11_addReach_83 : decode cX11_addReach 83 = .ok (.invokevirtual 274, 3) := by decide +kernel
theorem dX11_addReach_86 : decode cX11_addReach 86 = .ok (.ifCond .ne 35, 3) := by decide +kernel
theorem dX11_addReach_89 : decode cX11_addReach 89 = .ok (.iload 4, 2) := by decide +kernel
theorem dX11_addReach_91 : decode cX11_addReach 91 = .ok (.ifCond .lt 30, 3) := by decide +kernel
theorem dX11_addReach_94 : decode cX11_addReach 94 = .ok (.iload 4, 2) := by decide +kernel
theorem dX11_addReach_96 : decode cX11_addReach 96 = .ok (.aload_n 0, 1) := by decide +kernel
theorem dX11_addReach_97 : decode cX11_addReach 97 = .ok (.getfield 76, 3) := by decide +kernel
theorem dX11_addReach_100 : decode cX11_addReach 100 = .ok (.arraylength, 1) := by decide +kernel
theorem dX11_addReach_101 : decode cX11_addReach 101 = .ok (.if_icmp .ge 20, 3) := by decide +kernel
theorem dX11_addReach_104 : decode cX11_addReach 104 = .ok (.aload_n 0, 1) := by decide +kernel
theorem dX11_addReach_105 : decode cX11_addReach 105 = .ok (.getfield 76, 3) := by decide +kernel
theorem dX11_addReach_108 : decode cX11_addReach 108 = .ok (.iload 4, 2) := by decide +kernel
theorem dX11_addReach_110 : decode cX11_addReach 110 = .ok (.iload_n 2, 1) := by decide +kernel
theorem dX11_addReach_111 : decode cX11_addReach 111 = .ok (.bipush 12, 2) := by decide +kernel
theorem dX11_addReach_113 : decode cX11_addReach 113 = .ok (.imul, 1) := by decide +kernel
theorem dX11_addReach_114 : decode cX11_addReach 114 = .ok (.iload 5, 2) := by decide +kernel
theorem dX11_addReach_116 : decode cX11_addReach 116 = .ok (.iadd, 1) := by decide +kernel
theorem dX11_addReach_117 : decode cX11_addReach 117 = .ok (.iastore, 1) := by decide +kernel
theorem dX11_addReach_118 : decode cX11_addReach 118 = .ok (.iinc 4 1, 3) := by decide +kernel
theorem dX11_addReach_121 : decode cX11_addReach 121 = .ok (.iinc 5 1, 3) := by decide +kernel
theorem dX11_addReach_124 : decode cX11_addReach 124 = .ok (.goto (-118), 3) := by decide +kernel
theorem dX11_addReach_127 : decode cX11_addReach 127 = .ok (.iload 4, 2) := by decide +kernel
theorem dX11_addReach_129 : decode cX11_addReach 129 = .ok (.ireturn, 1) := by decide +kernel
def f_X11_addReach_121 (k6 : Int32 → Int32 → Mo Int32) (r0 : Option Nat) (r1 : Option Nat) (x2 : Int32) (x4 : Int32) (x5 : Int32) : Mo Int32 := k6 x4 (x5 + 1)
set_option maxRecDepth 100000 in
set_option maxHeartbeats 4000000 in
theorem s_X11_addReach_121 {X : Cg} (cx : Cx X cX11_addReach RX11 6) (hfr : 5 ≤ (xR X).frames) (hlo : 112 ≤ (xR X).locals) (hr : (xM X).sig.returnType = (some .int)) (r0 : Option Nat) (r1 : Option Nat) (x2 : Int32) (x4 : Int32) (x5 : Int32) {k6 : Int32 → Int32 → Mo Int32} (hk6 : ∀ (x4 : Int32) (x5 : Int32), Sim X 6 (FiM X vI) 6 [(0, va_rf r0), (1, va_rf r1), (2, .int x2), (4, .int x4), (5, .int x5)] [] (k6 x4 x5)) : Sim X 6 (FiM X vI) 121 [(0, va_rf r0), (1, va_rf r1), (2, .int x2), (4, .int x4), (5, .int x5)] [] (f_X11_addReach_121 k6 r0 r1 x2 x4 x5) := by
  unfold f_X11_addReach_121
  refine sm_iinc cx 4 [(5, .int (x5 + 1)), (0, va_rf r0), (1, va_rf r1), (2, .int x2), (4, .int x4)] dX11_addReach_121 rfl rfl (by decide) rfl (nc1 rfl) rfl ?_
  refine sm_goto (tgt := 6) cx dX11_addReach_124 (by decide) ?_
  exact sm_lv [1, 2, 3, 4, 0] rfl (hk6 x4 (x5 + 1))
def f_X11_addReach_6 (r0 : Option Nat) (r1 : Option Nat) (x2 : Int32) : Nat → Int32 → Int32 → Mo Int32
  | 0, _, _ => mf
  | n + 1, x4, x5 => mb (gR 14 5 r0) (fun v9 => mb (aN 1 v9) (fun v12 => (if v12 ≤ x5 then mp x4 else mb (gR 7 2 r1) (fun v17 => mb (mo 3 v17 (f_X0_tells v17 x5)) (fun v22 => (if v22 = 0 then f_X11_addReach_121 (f_X11_addReach_6 r0 r1 x2 n) r0 r1 x2 x4 x5 else mb (gR 14 11 r0) (fun v32 => mb (gR 14 9 r0) (fun v36 => mb (gR 14 5 r0) (fun v42 => mb (aI 1 v42 x5) (fun v47 => mb (mo 10 v32 (f_X7_read v32 v36 x5 v47 (0 : Int32) none)) (fun _ => mb (gR 14 12 r0) (fun v54 => mb (gR 14 9 r0) (fun v58 => mb (gR 14 5 r0) (fun v64 => mb (aI 1 v64 x5) (fun v69 => mb (mo 10 v54 (f_X7_read v54 v58 x5 v69 (0 : Int32) r1)) (fun _ => mb (gR 14 11 r0) (fun v76 => mb (gR 14 12 r0) (fun v80 => mb (mo 10 v76 (f_X7_isSame v76 v80)) (fun v83 => (if v83 = 0 then (if x4 < 0 then f_X11_addReach_121 (f_X11_addReach_6 r0 r1 x2 n) r0 r1 x2 x4 x5 else mb (gR 14 13 r0) (fun v97 => mb (aN 1 v97) (fun v100 => (if v100 ≤ x4 then f_X11_addReach_121 (f_X11_addReach_6 r0 r1 x2 n) r0 r1 x2 x4 x5 else mb (gR 14 13 r0) (fun v105 => mb (sI 1 v105 x4 ((x2 * (12 : Int32)) + x5)) (fun _ => f_X11_addReach_121 (f_X11_addReach_6 r0 r1 x2 n) r0 r1 x2 (x4 + 1) x5)))))) else f_X11_addReach_121 (f_X11_addReach_6 r0 r1 x2 n) r0 r1 x2 x4 x5))))))))))))))))))))
set_option maxRecDepth 100000 in
set_option maxHeartbeats 4000000 in
theorem s_X11_addReach_6 {X : Cg} (cx : Cx X cX11_addReach RX11 6) (hfr : 5 ≤ (xR X).frames) (hlo : 112 ≤ (xR X).locals) (hr : (xM X).sig.returnType = (some .int)) (r0 : Option Nat) (r1 : Option Nat) (x2 : Int32) : ∀ (n : Nat) (x4 : Int32) (x5 : Int32), Sim X 6 (FiM X vI) 6 [(0, va_rf r0), (1, va_rf r1), (2, .int x2), (4, .int x4), (5, .int x5)] [] (f_X11_addReach_6 r0 r1 x2 n x4 x5) := by
  intro n
  induction n with
  | zero =>
    intro _ _
    exact sm_mf
  | succ n ih =>
    intro x4 x5
    rw [f_X11_addReach_6]
    refine sm_iload cx 4 dX11_addReach_6 rfl ?_
    refine sm_aload_n cx 0 dX11_addReach_8 rfl rfl ?_
    refine sm_getR cx fl_X11_32 dX11_addReach_9 (fun v9 => ?_)
    refine sm_alen cx 1 (by decide) dX11_addReach_12 (fun v12 => ?_)
    refine sm_icmp_ge (tgt := 127) cx dX11_addReach_13 (by decide) ?_ ?_
    · refine sm_iload cx 3 dX11_addReach_127 rfl ?_
      exact sm_iret cx hr dX11_addReach_129
    · refine sm_aload_n cx 1 dX11_addReach_16 rfl rfl ?_
      refine sm_getR cx fl_X11_278 dX11_addReach_17 (fun v17 => ?_)
      refine sm_iload cx 4 dX11_addReach_20 rfl ?_
      refine sm_callV (T := TX0) (N := 2) (toV := vI) cx [.int x5] rfl cv_X11_289 (fun a h => ct_X0_tells (xZ X) a h x5) (Nat.le_trans (by decide) hfr) (Nat.le_trans (by decide) hlo) rfl (cat_le _ (Nat.le_of_ble_eq_true rfl)) dX11_addReach_22 (fun v22 => ?_)
      refine sm_if_ne (tgt := 31) cx dX11_addReach_25 (by decide) ?_ ?_
      · refine sm_aload_n cx 0 dX11_addReach_31 rfl rfl ?_
        refine sm_getR cx fl_X11_69 dX11_addReach_32 (fun v32 => ?_)
        refine sm_aload_n cx 0 dX11_addReach_35 rfl rfl ?_
        refine sm_getR cx fl_X11_59 dX11_addReach_36 (fun v36 => ?_)
        refine sm_iload cx 4 dX11_addReach_39 rfl ?_
        refine sm_aload_n cx 0 dX11_addReach_41 rfl rfl ?_
        refine sm_getR cx fl_X11_32 dX11_addReach_42 (fun v42 => ?_)
        refine sm_iload cx 4 dX11_addReach_45 rfl ?_
        refine sm_iald cx dX11_addReach_47 (fun v47 => ?_)
        refine sm_iconst (v := 0) cx dX11_addReach_48 (by decide) ?_
        refine sm_null cx dX11_addReach_49 ?_
        refine sm_callV (T := TX7) (N := 3) (toV := vV) cx [va_rf v36, .int x5, .int v47, .int (0 : Int32), va_rf none] rfl cv_X11_271 (fun a h => ct_X7_read (xZ X) a h v36 x5 v47 (0 : Int32) none) (Nat.le_trans (by decide) hfr) (Nat.le_trans (by decide) hlo) rfl (cat_le _ (Nat.le_of_ble_eq_true rfl)) dX11_addReach_50 (fun _ => ?_)
        refine sm_aload_n cx 0 dX11_addReach_53 rfl rfl ?_
        refine sm_getR cx fl_X11_73 dX11_addReach_54 (fun v54 => ?_)
        refine sm_aload_n cx 0 dX11_addReach_57 rfl rfl ?_
        refine sm_getR cx fl_X11_59 dX11_addReach_58 (fun v58 => ?_)
        refine sm_iload cx 4 dX11_addReach_61 rfl ?_
        refine sm_aload_n cx 0 dX11_addReach_63 rfl rfl ?_
        refine sm_getR cx fl_X11_32 dX11_addReach_64 (fun v64 => ?_)
        refine sm_iload cx 4 dX11_addReach_67 rfl ?_
        refine sm_iald cx dX11_addReach_69 (fun v69 => ?_)
        refine sm_iconst (v := 0) cx dX11_addReach_70 (by decide) ?_
        refine sm_aload_n cx 1 dX11_addReach_71 rfl rfl ?_
        refine sm_callV (T := TX7) (N := 3) (toV := vV) cx [va_rf v58, .int x5, .int v69, .int (0 : Int32), va_rf r1] rfl cv_X11_271 (fun a h => ct_X7_read (xZ X) a h v58 x5 v69 (0 : Int32) r1) (Nat.le_trans (by decide) hfr) (Nat.le_trans (by decide) hlo) rfl (cat_le _ (Nat.le_of_ble_eq_true rfl)) dX11_addReach_72 (fun _ => ?_)
        refine sm_aload_n cx 0 dX11_addReach_75 rfl rfl ?_
        refine sm_getR cx fl_X11_69 dX11_addReach_76 (fun v76 => ?_)
        refine sm_aload_n cx 0 dX11_addReach_79 rfl rfl ?_
        refine sm_getR cx fl_X11_73 dX11_addReach_80 (fun v80 => ?_)
        refine sm_callV (T := TX7) (N := 3) (toV := vI) cx [va_rf v80] rfl cv_X11_274 (fun a h => ct_X7_isSame (xZ X) a h v80) (Nat.le_trans (by decide) hfr) (Nat.le_trans (by decide) hlo) rfl (cat_le _ (Nat.le_of_ble_eq_true rfl)) dX11_addReach_83 (fun v83 => ?_)
        refine sm_if_ne (tgt := 121) cx dX11_addReach_86 (by decide) ?_ ?_
        · exact sm_lv [0, 1, 2, 3, 4] rfl (s_X11_addReach_121 cx hfr hlo hr r0 r1 x2 x4 x5 ih)
        · refine sm_iload cx 3 dX11_addReach_89 rfl ?_
          refine sm_if_lt (tgt := 121) cx dX11_addReach_91 (by decide) ?_ ?_
          · exact sm_lv [0, 1, 2, 3, 4] rfl (s_X11_addReach_121 cx hfr hlo hr r0 r1 x2 x4 x5 ih)
          · refine sm_iload cx 3 dX11_addReach_94 rfl ?_
            refine sm_aload_n cx 0 dX11_addReach_96 rfl rfl ?_
            refine sm_getR cx fl_X11_76 dX11_addReach_97 (fun v97 => ?_)
            refine sm_alen cx 1 (by decide) dX11_addReach_100 (fun v100 => ?_)
            refine sm_icmp_ge (tgt := 121) cx dX11_addReach_101 (by decide) ?_ ?_
            · exact sm_lv [0, 1, 2, 3, 4] rfl (s_X11_addReach_121 cx hfr hlo hr r0 r1 x2 x4 x5 ih)
            · refine sm_aload_n cx 0 dX11_addReach_104 rfl rfl ?_
              refine sm_getR cx fl_X11_76 dX11_addReach_105 (fun v105 => ?_)
              refine sm_iload cx 3 dX11_addReach_108 rfl ?_
              refine sm_iload_n cx 2 dX11_addReach_110 rfl rfl ?_
              refine sm_bipush (v := 12) cx dX11_addReach_111 (by decide) ?_
              refine sm_imul cx dX11_addReach_113 ?_
              refine sm_iload cx 4 dX11_addReach_114 rfl ?_
              refine sm_iadd cx dX11_addReach_116 ?_
              refine sm_iast cx dX11_addReach_117 ?_
              refine sm_iinc cx 3 [(4, .int (x4 + 1)), (0, va_rf r0), (1, va_rf r1), (2, .int x2), (5, .int x5)] dX11_addReach_118 rfl rfl (by decide) rfl nc0 rfl ?_
              exact sm_lv [1, 2, 3, 0, 4] rfl (s_X11_addReach_121 cx hfr hlo hr r0 r1 x2 (x4 + 1) x5 ih)
      · refine sm_goto (tgt := 121) cx dX11_addReach_28 (by decide) ?_
        exact sm_lv [0, 1, 2, 3, 4] rfl (s_X11_addReach_121 cx hfr hlo hr r0 r1 x2 x4 x5 ih)
def f_X11_addReach (r0 : Option Nat) (r1 : Option Nat) (x2 : Int32) (x3 : Int32) : Mo Int32 := f_X11_addReach_6 r0 r1 x2 fuL x3 (0 : Int32)
set_option maxRecDepth 100000 in
set_option maxHeartbeats 4000000 in
theorem s_X11_addReach {X : Cg} (cx : Cx X cX11_addReach RX11 6) (hfr : 5 ≤ (xR X).frames) (hlo : 112 ≤ (xR X).locals) (hr : (xM X).sig.returnType = (some .int)) (r0 : Option Nat) (r1 : Option Nat) (x2 : Int32) (x3 : Int32) : Sim X 6 (FiM X vI) 0 [(0, va_rf r0), (1, va_rf r1), (2, .int x2), (3, .int x3)] [] (f_X11_addReach r0 r1 x2 x3) := by
  unfold f_X11_addReach
  refine sm_iload_n cx 3 dX11_addReach_0 rfl rfl ?_
  refine sm_istore cx [(4, .int x3), (0, va_rf r0), (1, va_rf r1), (2, .int x2), (3, .int x3)] dX11_addReach_1 (by decide) rfl (nc1 rfl) rfl ?_
  refine sm_iconst (v := 0) cx dX11_addReach_3 (by decide) ?_
  refine sm_istore cx [(5, .int (0 : Int32)), (4, .int x3), (0, va_rf r0), (1, va_rf r1), (2, .int x2), (3, .int x3)] dX11_addReach_4 (by decide) rfl (nc1 rfl) rfl ?_
  exact sm_lv [2, 3, 4, 1, 0] rfl (s_X11_addReach_6 cx hfr hlo hr r0 r1 x2 fuL x3 (0 : Int32))
set_option maxRecDepth 100000 in
set_option maxHeartbeats 4000000 in
theorem ct_X11_addReach (Z : Nat → Nat) {r0 : Option Nat} (a0 : Nat) (h0 : r0 = some a0) (r1 : Option Nat) (x2 : Int32) (x3 : Int32) : Ct yX11_addReach cX11_addReach 6 (some .int) 5 112 Z [.ref a0, va_rf r1, .int x2, .int x3] vI (f_X11_addReach r0 r1 x2 x3) := by
  subst h0
  refine ct_of (lv0 := [(0, va_rf (some a0)), (1, va_rf r1), (2, .int x2), (3, .int x3)]) (by decide +kernel) (by simp [lg_sl, ct_i, ct_l, ct_r, rf_cat]) (by show _ = ([(0, Value.ref a0), (1, va_rf r1), (2, .int x2), (3, .int x3)] : List (Nat × Value)); simp [lv_args, ct_i, ct_l, ct_r, rf_cat]) (fun X cx hZ hfr hlo hr hin => ?_)
  subst hZ
  exact s_X11_addReach cx (Nat.le_of_eq hfr.symm) (Nat.le_of_eq hlo.symm) hr (some a0) r1 x2 x3
/-! PolicyTree.listReach(LPolicyTree$Link;)I -/
theorem dX11_listReach_0 : decode cX11_listReach 0 = .ok (.iconst 0, 1) := by decide +kernel
theorem dX11_listReach_1 : decode cX11_listReach 1 = .ok (.istore_n 2, 1) := by decide +kernel
theorem dX11_listReach_2 : decode cX11_listReach 2 = .ok (.aload_n 1, 1) := by decide +kernel
theorem dX11_listReach_3 : decode cX11_listReach 3 = .ok (.getfield 201, 3) := by decide +kernel
theorem dX11_listReach_6 : decode cX11_listReach 6 = .ok (.ifCond .eq 5, 3) := by decide +kernel
theorem dX11_listReach_9 : decode cX11_listReach 9 = .ok (.iload_n 2, 1) := by decide +kernel
theorem dX11_listReach_10 : decode cX11_listReach 10 = .ok (.ireturn, 1) := by decide +kernel
theorem dX11_listReach_11 : decode cX11_listReach 11 = .ok (.iconst 0, 1) := by decide +kernel
theorem dX11_listReach_12 : decode cX11_listReach 12 = .ok (.istore_n 3, 1) := by decide +kernel
theorem dX11_listReach_13 : decode cX11_listReach 13 = .ok (.iload_n 3, 1) := by decide +kernel
theorem dX11_listReach_14 : decode cX11_listReach 14 = .ok (.aload_n 0, 1) := by decide +kernel
theorem dX11_listReach_15 : decode cX11_listReach 15 = .ok (.getfield 16, 3) := by decide +kernel
theorem dX11_listReach_18 : decode cX11_listReach 18 = .ok (.invokevirtual 88, 3) := by decide +kernel
theorem dX11_listReach_21 : decode cX11_listReach 21 = .ok (.if_icmp .ge 77, 3) := by decide +kernel
theorem dX11_listReach_24 : decode cX11_listReach 24 = .ok (.aload_n 0, 1) := by decide +kernel
theorem dX11_listReach_25 : decode cX11_listReach 25 = .ok (.getfield 16, 3) := by decide +kernel
theorem dX11_listReach_28 : decode cX11_listReach 28 = .ok (.iload_n 3, 1) := by decide +kernel
theorem dX11_listReach_29 : decode cX11_listReach 29 = .ok (.invokevirtual 99, 3) := by decide +kernel
theorem dX11_listReach_32 : decode cX11_listReach 32 = .ok (.checkcast 111, 3) := by decide +kernel
theorem dX11_listReach_35 : decode cX11_listReach 35 = .ok (.astore 4, 2) := by decide +kernel
theorem dX11_listReach_37 : decode cX11_listReach 37 = .ok (.aload 4, 2) := by decide +kernel
theorem dX11_listReach_39 : decode cX11_listReach 39 = .ok (.getfield 113, 3) := by decide +kernel
theorem dX11_listReach_42 : decode cX11_listReach 42 = .ok (.aload_n 1, 1) := by decide +kernel
theorem dX11_listReach_43 : decode cX11_listReach 43 = .ok (.getfield 204, 3) := by decide +kernel
theorem dX11_listReach_46 : decode cX11_listReach 46 = .ok (.invokevirtual 107, 3) := by decide +kernel
theorem dX11_listReach_49 : decode cX11_listReach 49 = .ok (.ifCond .eq 43, 3) := by decide +kernel
theorem dX11_listReach_52 : decode cX11_listReach 52 = .ok (.aload_n 0, 1) := by decide +kernel
theorem dX11_listReach_53 : decode cX11_listReach 53 = .ok (.getfield 59, 3) := by decide +kernel
theorem dX11_listReach_56 : decode cX11_listReach 56 = .ok (.aload 4, 2) := by decide +kernel
theorem dX11_listReach_58 : decode cX11_listReach 58 = .ok (.aload_n 0, 1) := by decide +kernel
theorem dX11_listReach_59 : decode cX11_listReach 59 = .ok (.getfield 22, 3) := by decide +kernel
theorem dX11_listReach_62 : decode cX11_listReach 62 = .ok (.iload_n 3, 1) := by decide +kernel
theorem dX11_listReach_63 : decode cX11_listReach 63 = .ok (.invokevirtual 154, 3) := by decide +kernel
theorem dX11_listReach_66 : decode cX11_listReach 66 = .ok (.aload_n 1, 1) := by decide +kernel
theorem dX11_listReach_67 : decode cX11_listReach 67 = .ok (.getfield 278, 3) := by decide +kernel
theorem dX11_listReach_70 : decode cX11_listReach 70 = .ok (.invokevirtual 282, 3) := by decide +kernel
theorem dX11_listReach_73 : decode cX11_listReach 73 = .ok (.invokevirtual 267, 3) := by decide +kernel
theorem dX11_listReach_76 : decode cX11_listReach 76 = .ok (.aload_n 0, 1) := by decide +kernel
theorem dX11_listReach_77 : decode cX11_listReach 77 = .ok (.getfield 59, 3) := by decide +kernel
theorem dX11_listReach_80 : decode cX11_listReach 80 = .ok (.iconst 0, 1) := by decide +kernel
theorem dX11_listReach_81 : decode cX11_listReach 81 = .ok (.invokevirtual 232, 3) := by decide +kernel
theorem dX11_listReach_84 : decode cX11_listReach 84 = .ok (.aload_n 0, 1) := by decide +kernel
theorem dX11_listReach_85 : decode cX11_listReach 85 = .ok (.aload_n 1, 1) := by decide +kernel
theorem dX11_listReach_86 : decode cX11_listReach 86 = .ok (.iload_n 3, 1) := by decide +kernel
theorem dX11_listReach_87 : decode cX11_listReach 87 = .ok (.iload_n 2, 1) := by decide +kernel
theorem dX11_listReach_88 : decode cX11_listReach 88 = .ok (.invokevirtual 285, 3) := by decide +kernel
theorem dX11_listReach_91 : decode cX11_listReach 91 = .ok (.istore_n 2, 1) := by decide +kernel
theorem dX11_listReach_92 : decode cX11_listReach 92 = .ok (.iinc 3 1, 3) := by decide +kernel
theorem dX11_listReach_95 : decode cX11_listReach 95 = .ok (.goto (-82), 3) := by decide +kernel
theorem dX11_listReach_98 : decode cX11_listReach 98 = .ok (.iload_n 2, 1) := by decide +kernel
theorem dX11_listReach_99 : decode cX11_listReach 99 = .ok (.ireturn, 1) := by decide +kernel
def f_X11_listReach_92 (Z : Nat → Nat) (k13 : Int32 → Int32 → Mo Int32) (r0 : Option Nat) (r1 : Option Nat) (x2 : Int32) (x3 : Int32) : Mo Int32 := k13 x2 (x3 + 1)
set_option maxRecDepth 100000 in
set_option maxHeartbeats 4000000 in
theorem s_X11_listReach_92 {X : Cg} (cx : Cx X cX11_listReach RX11 5) (hfr : 9 ≤ (xR X).frames) (hlo : 222 ≤ (xR X).locals) (hr : (xM X).sig.returnType = (some .int)) (r0 : Option Nat) (r1 : Option Nat) (x2 : Int32) (x3 : Int32) {k13 : Int32 → Int32 → Mo Int32} (hk13 : ∀ (x2 : Int32) (x3 : Int32), Sim X 5 (FiM X vI) 13 [(0, va_rf r0), (1, va_rf r1), (2, .int x2), (3, .int x3)] [] (k13 x2 x3)) : Sim X 5 (FiM X vI) 92 [(0, va_rf r0), (1, va_rf r1), (2, .int x2), (3, .int x3)] [] (f_X11_listReach_92 (xZ X) k13 r0 r1 x2 x3) := by
  unfold f_X11_listReach_92
  refine sm_iinc cx 3 [(3, .int (x3 + 1)), (0, va_rf r0), (1, va_rf r1), (2, .int x2)] dX11_listReach_92 rfl rfl (by decide) rfl (nc1 rfl) rfl ?_
  refine sm_goto (tgt := 13) cx dX11_listReach_95 (by decide) ?_
  exact sm_lv [1, 2, 3, 0] rfl (hk13 x2 (x3 + 1))
def f_X11_listReach_13 (Z : Nat → Nat) (r0 : Option Nat) (r1 : Option Nat) : Nat → Int32 → Int32 → Mo Int32
  | 0, _, _ => mf
  | n + 1, x2, x3 => mb (gR 14 1 r0) (fun v15 => mb (mo 2 v15 (f_Jx4a65c_size_8abf5 v15)) (fun v18 => (if v18 ≤ x3 then mp x2 else mb (gR 14 1 r0) (fun v25 => mb (mo 2 v25 (f_Jx4a65c_get_915e3 v25 x3)) (fun v29 => mb (ck 8 v29) (fun _ => mb (gR 8 0 v29) (fun v39 => mb (gR 7 1 r1) (fun v43 => mb (mo 9 v39 (f_X6_isWithin v39 v43)) (fun v46 => (if v46 = 0 then f_X11_listReach_92 Z (f_X11_listReach_13 Z r0 r1 n) r0 r1 x2 x3 else mb (gR 14 9 r0) (fun v53 => mb (gR 14 2 r0) (fun v59 => mb (mo 6 v59 (f_X3_groupsOf v59 x3)) (fun v63 => mb (gR 7 2 r1) (fun v67 => mb (mo 3 v67 (f_X0_toldSettings v67)) (fun v70 => mb (mo 11 v53 (f_X8_collect Z v53 v29 v63 v70)) (fun _ => mb (gR 14 9 r0) (fun v77 => mb (mo 11 v77 (f_X8_weigh Z v77 (0 : Int32))) (fun _ => mb (mo 14 r0 (f_X11_addReach r0 r1 x3 x2)) (fun v88 => f_X11_listReach_92 Z (f_X11_listReach_13 Z r0 r1 n) r0 r1 v88 x3)))))))))))))))))))
set_option maxRecDepth 100000 in
set_option maxHeartbeats 4000000 in
theorem s_X11_listReach_13 {X : Cg} (cx : Cx X cX11_listReach RX11 5) (hfr : 9 ≤ (xR X).frames) (hlo : 222 ≤ (xR X).locals) (hr : (xM X).sig.returnType = (some .int)) (r0 : Option Nat) (r1 : Option Nat) : ∀ (n : Nat) (x2 : Int32) (x3 : Int32), Sim X 5 (FiM X vI) 13 [(0, va_rf r0), (1, va_rf r1), (2, .int x2), (3, .int x3)] [] (f_X11_listReach_13 (xZ X) r0 r1 n x2 x3) := by
  intro n
  induction n with
  | zero =>
    intro _ _
    exact sm_mf
  | succ n ih =>
    intro x2 x3
    rw [f_X11_listReach_13]
    refine sm_iload_n cx 3 dX11_listReach_13 rfl rfl ?_
    refine sm_aload_n cx 0 dX11_listReach_14 rfl rfl ?_
    refine sm_getR cx fl_X11_16 dX11_listReach_15 (fun v15 => ?_)
    refine sm_callV (T := TJx4a65c) (N := 3) (toV := vI) cx [] rfl cv_X11_88 (fun a h => ct_Jx4a65c_size_8abf5 (xZ X) a h) (Nat.le_trans (by decide) hfr) (Nat.le_trans (by decide) hlo) rfl (cat_le _ (Nat.le_of_ble_eq_true rfl)) dX11_listReach_18 (fun v18 => ?_)
    refine sm_icmp_ge (tgt := 98) cx dX11_listReach_21 (by decide) ?_ ?_
    · refine sm_iload_n cx 2 dX11_listReach_98 rfl rfl ?_
      exact sm_iret cx hr dX11_listReach_99
    · refine sm_aload_n cx 0 dX11_listReach_24 rfl rfl ?_
      refine sm_getR cx fl_X11_16 dX11_listReach_25 (fun v25 => ?_)
      refine sm_iload_n cx 3 dX11_listReach_28 rfl rfl ?_
      refine sm_callV (T := TJx4a65c) (N := 3) (toV := vR) cx [.int x3] rfl cv_X11_99 (fun a h => ct_Jx4a65c_get_915e3 (xZ X) a h x3) (Nat.le_trans (by decide) hfr) (Nat.le_trans (by decide) hlo) rfl (cat_le _ (Nat.le_of_ble_eq_true rfl)) dX11_listReach_29 (fun v29 => ?_)
      refine sm_ck (T := TX5) (N := 3) cx rfl wd_3_43 dX11_listReach_32 ?_
      refine sm_astore cx [(4, va_rf v29), (0, va_rf r0), (1, va_rf r1), (2, .int x2), (3, .int x3)] dX11_listReach_35 (by decide) rfl (nc1 rfl) rfl ?_
      refine sm_aload cx 0 dX11_listReach_37 rfl ?_
      refine sm_getR cx fl_X11_113 dX11_listReach_39 (fun v39 => ?_)
      refine sm_aload_n cx 2 dX11_listReach_42 rfl rfl ?_
      refine sm_getR cx fl_X11_204 dX11_listReach_43 (fun v43 => ?_)
      refine sm_callV (T := TX6) (N := 4) (toV := vI) cx [va_rf v43] rfl cv_X11_107 (fun a h => ct_X6_isWithin (xZ X) a h v43) (Nat.le_trans (by decide) hfr) (Nat.le_trans (by decide) hlo) rfl (cat_le _ (Nat.le_of_ble_eq_true rfl)) dX11_listReach_46 (fun v46 => ?_)
      refine sm_if_eq (tgt := 92) cx dX11_listReach_49 (by decide) ?_ ?_
      · exact sm_lv [1, 2, 3, 4] rfl (s_X11_listReach_92 cx hfr hlo hr r0 r1 x2 x3 ih)
      · refine sm_aload_n cx 1 dX11_listReach_52 rfl rfl ?_
        refine sm_getR cx fl_X11_59 dX11_listReach_53 (fun v53 => ?_)
        refine sm_aload cx 0 dX11_listReach_56 rfl ?_
        refine sm_aload_n cx 1 dX11_listReach_58 rfl rfl ?_
        refine sm_getR cx fl_X11_22 dX11_listReach_59 (fun v59 => ?_)
        refine sm_iload_n cx 4 dX11_listReach_62 rfl rfl ?_
        refine sm_callV (T := TX3) (N := 3) (toV := vI) cx [.int x3] rfl cv_X11_154 (fun a h => ct_X3_groupsOf (xZ X) a h x3) (Nat.le_trans (by decide) hfr) (Nat.le_trans (by decide) hlo) rfl (cat_le _ (Nat.le_of_ble_eq_true rfl)) dX11_listReach_63 (fun v63 => ?_)
        refine sm_aload_n cx 2 dX11_listReach_66 rfl rfl ?_
        refine sm_getR cx fl_X11_278 dX11_listReach_67 (fun v67 => ?_)
        refine sm_callV (T := TX0) (N := 2) (toV := vI) cx [] rfl cv_X11_282 (fun a h => ct_X0_toldSettings (xZ X) a h) (Nat.le_trans (by decide) hfr) (Nat.le_trans (by decide) hlo) rfl (cat_le _ (Nat.le_of_ble_eq_true rfl)) dX11_listReach_70 (fun v70 => ?_)
        refine sm_callV (T := TX8) (N := 4) (toV := vV) cx [va_rf v29, .int v63, .int v70] rfl cv_X11_267 (fun a h => ct_X8_collect (xZ X) a h v29 v63 v70) (Nat.le_trans (by decide) hfr) (Nat.le_trans (by decide) hlo) rfl (cat_le _ (Nat.le_of_ble_eq_true rfl)) dX11_listReach_73 (fun _ => ?_)
        refine sm_aload_n cx 1 dX11_listReach_76 rfl rfl ?_
        refine sm_getR cx fl_X11_59 dX11_listReach_77 (fun v77 => ?_)
        refine sm_iconst (v := 0) cx dX11_listReach_80 (by decide) ?_
        refine sm_callV (T := TX8) (N := 4) (toV := vV) cx [.int (0 : Int32)] rfl cv_X11_232 (fun a h => ct_X8_weigh (xZ X) a h (0 : Int32)) (Nat.le_trans (by decide) hfr) (Nat.le_trans (by decide) hlo) rfl (cat_le _ (Nat.le_of_ble_eq_true rfl)) dX11_listReach_81 (fun _ => ?_)
        refine sm_aload_n cx 1 dX11_listReach_84 rfl rfl ?_
        refine sm_aload_n cx 2 dX11_listReach_85 rfl rfl ?_
        refine sm_iload_n cx 4 dX11_listReach_86 rfl rfl ?_
        refine sm_iload_n cx 3 dX11_listReach_87 rfl rfl ?_
        refine sm_callV (T := TX11) (N := 14) (toV := vI) cx [va_rf r1, .int x3, .int x2] rfl cv_X11_285 (fun a h => ct_X11_addReach (xZ X) a h r1 x3 x2) (Nat.le_trans (by decide) hfr) (Nat.le_trans (by decide) hlo) rfl (cat_le _ (Nat.le_of_ble_eq_true rfl)) dX11_listReach_88 (fun v88 => ?_)
        refine sm_istore_n cx [(2, .int v88), (4, va_rf v29), (0, va_rf r0), (1, va_rf r1), (3, .int x3)] dX11_listReach_91 rfl (by decide) rfl (nc1 (rf_cat _)) rfl ?_
        exact sm_lv [2, 3, 0, 4] rfl (s_X11_listReach_92 cx hfr hlo hr r0 r1 v88 x3 ih)
def f_X11_listReach (Z : Nat → Nat) (r0 : Option Nat) (r1 : Option Nat) : Mo Int32 := mb (gI 7 6 r1) (fun v3 => (if v3 = 0 then f_X11_listReach_13 Z r0 r1 fuL (0 : Int32) (0 : Int32) else mp (0 : Int32)))
set_option maxRecDepth 100000 in
set_option maxHeartbeats 4000000 in
theorem s_X11_listReach {X : Cg} (cx : Cx X cX11_listReach RX11 5) (hfr : 9 ≤ (xR X).frames) (hlo : 222 ≤ (xR X).locals) (hr : (xM X).sig.returnType = (some .int)) (r0 : Option Nat) (r1 : Option Nat) : Sim X 5 (FiM X vI) 0 [(0, va_rf r0), (1, va_rf r1)] [] (f_X11_listReach (xZ X) r0 r1) := by
  unfold f_X11_listReach
  refine sm_iconst (v := 0) cx dX11_listReach_0 (by decide) ?_
  refine sm_istore_n cx [(2, .int (0 : Int32)), (0, va_rf r0), (1, va_rf r1)] dX11_listReach_1 rfl (by decide) rfl (nc1 (rf_cat _)) rfl ?_
  refine sm_aload_n cx 2 dX11_listReach_2 rfl rfl ?_
  refine sm_getI cx fl_X11_201 dX11_listReach_3 (fun v3 => ?_)
  refine sm_if_eq (tgt := 11) cx dX11_listReach_6 (by decide) ?_ ?_
  · refine sm_iconst (v := 0) cx dX11_listReach_11 (by decide) ?_
    refine sm_istore_n cx [(3, .int (0 : Int32)), (2, .int (0 : Int32)), (0, va_rf r0), (1, va_rf r1)] dX11_listReach_12 rfl (by decide) rfl (nc1 rfl) rfl ?_
    exact sm_lv [2, 3, 1, 0] rfl (s_X11_listReach_13 cx hfr hlo hr r0 r1 fuL (0 : Int32) (0 : Int32))
  · refine sm_iload_n cx 0 dX11_listReach_9 rfl rfl ?_
    exact sm_iret cx hr dX11_listReach_10
set_option maxRecDepth 100000 in
set_option maxHeartbeats 4000000 in
theorem ct_X11_listReach (Z : Nat → Nat) {r0 : Option Nat} (a0 : Nat) (h0 : r0 = some a0) (r1 : Option Nat) : Ct yX11_listReach cX11_listReach 5 (some .int) 9 222 Z [.ref a0, va_rf r1] vI (f_X11_listReach Z r0 r1) := by
  subst h0
  refine ct_of (lv0 := [(0, va_rf (some a0)), (1, va_rf r1)]) (by decide +kernel) (by simp [lg_sl, ct_i, ct_l, ct_r, rf_cat]) (by show _ = ([(0, Value.ref a0), (1, va_rf r1)] : List (Nat × Value)); simp [lv_args, ct_i, ct_l, ct_r, rf_cat]) (fun X cx hZ hfr hlo hr hin => ?_)
  subst hZ
  exact s_X11_listReach cx (Nat.le_of_eq hfr.symm) (Nat.le_of_eq hlo.symm) hr (some a0) r1
/-! PolicyTree.settingsOfLast()I -/
theorem dX11_settingsOfLast_0 : decode cX11_settingsOfLast 0 = .ok (.iconst 0, 1) := by decide +kernel
theorem dX11_settingsOfLast_1 : decode cX11_settingsOfLast 1 = .ok (.istore_n 1, 1) := by decide +kernel
theorem dX11_settingsOfLast_2 : decode cX11_settingsOfLast 2 = .ok (.iconst 0, 1) := by decide +kernel
theorem dX11_settingsOfLast_3 : decode cX11_settingsOfLast 3 = .ok (.istore_n 2, 1) := by decide +kernel
theorem dX11_settingsOfLast_4 : decode cX11_settingsOfLast 4 = .ok (.iload_n 2, 1) := by decide +kernel
theorem dX11_settingsOfLast_5 : decode cX11_settingsOfLast 5 = .ok (.aload_n 0, 1) := by decide +kernel
theorem dX11_settingsOfLast_6 : decode cX11_settingsOfLast 6 = .ok (.getfield 32, 3) := by decide +kernel
theorem dX11_settingsOfLast_9 : decode cX11_settingsOfLast 9 = .ok (.arraylength, 1) := by decide +kernel
theorem dX11_settingsOfLast_10 : decode cX11_settingsOfLast 10 = .ok (.if_icmp .ge 24, 3) := by decide +kernel
theorem dX11_settingsOfLast_13 : decode cX11_settingsOfLast 13 = .ok (.aload_n 0, 1) := by decide +kernel
theorem dX11_settingsOfLast_14 : decode cX11_settingsOfLast 14 = .ok (.getfield 32, 3) := by decide +kernel
theorem dX11_settingsOfLast_17 : decode cX11_settingsOfLast 17 = .ok (.iload_n 2, 1) := by decide +kernel
theorem dX11_settingsOfLast_18 : decode cX11_settingsOfLast 18 = .ok (.iaload, 1) := by decide +kernel
theorem dX11_settingsOfLast_19 : decode cX11_settingsOfLast 19 = .ok (.ifCond .ne 9, 3) := by decide +kernel
theorem dX11_settingsOfLast_22 : decode cX11_settingsOfLast 22 = .ok (.iload_n 1, 1) := by decide +kernel
theorem dX11_settingsOfLast_23 : decode cX11_settingsOfLast 23 = .ok (.iconst 1, 1) := by decide +kernel
theorem dX11_settingsOfLast_24 : decode cX11_settingsOfLast 24 = .ok (.iload_n 2, 1) := by decide +kernel
theorem dX11_settingsOfLast_25 : decode cX11_settingsOfLast 25 = .ok (.ishl, 1) := by decide +kernel
theorem dX11_settingsOfLast_26 : decode cX11_settingsOfLast 26 = .ok (.ior, 1) := by decide +kernel
theorem dX11_settingsOfLast_27 : decode cX11_settingsOfLast 27 = .ok (.istore_n 1, 1) := by decide +kernel
theorem dX11_settingsOfLast_28 : decode cX11_settingsOfLast 28 = .ok (.iinc 2 1, 3) := by decide +kernel
theorem dX11_settingsOfLast_31 : decode cX11_settingsOfLast 31 = .ok (.goto (-27), 3) := by decide +kernel
theorem dX11_settingsOfLast_34 : decode cX11_settingsOfLast 34 = .ok (.iload_n 1, 1) := by decide +kernel
theorem dX11_settingsOfLast_35 : decode cX11_settingsOfLast 35 = .ok (.ireturn, 1) := by decide +kernel
def f_X11_settingsOfLast_28 (k4 : Int32 → Int32 → Mo Int32) (r0 : Option Nat) (x1 : Int32) (x2 : Int32) : Mo Int32 := k4 x1 (x2 + 1)
set_option maxRecDepth 100000 in
set_option maxHeartbeats 4000000 in
theorem s_X11_settingsOfLast_28 {X : Cg} (cx : Cx X cX11_settingsOfLast RX11 3) (hfr : 0 ≤ (xR X).frames) (hlo : 0 ≤ (xR X).locals) (hr : (xM X).sig.returnType = (some .int)) (r0 : Option Nat) (x1 : Int32) (x2 : Int32) {k4 : Int32 → Int32 → Mo Int32} (hk4 : ∀ (x1 : Int32) (x2 : Int32), Sim X 3 (FiM X vI) 4 [(0, va_rf r0), (1, .int x1), (2, .int x2)] [] (k4 x1 x2)) : Sim X 3 (FiM X vI) 28 [(0, va_rf r0), (1, .int x1), (2, .int x2)] [] (f_X11_settingsOfLast_28 k4 r0 x1 x2) := by
  unfold f_X11_settingsOfLast_28
  refine sm_iinc cx 2 [(2, .int (x2 + 1)), (0, va_rf r0), (1, .int x1)] dX11_settingsOfLast_28 rfl rfl (by decide) rfl (nc1 rfl) rfl ?_
  refine sm_goto (tgt := 4) cx dX11_settingsOfLast_31 (by decide) ?_
  exact sm_lv [1, 2, 0] rfl (hk4 x1 (x2 + 1))
def f_X11_settingsOfLast_4 (r0 : Option Nat) : Nat → Int32 → Int32 → Mo Int32
  | 0, _, _ => mf
  | n + 1, x1, x2 => mb (gR 14 5 r0) (fun v6 => mb (aN 1 v6) (fun v9 => (if v9 ≤ x2 then mp x1 else mb (gR 14 5 r0) (fun v14 => mb (aI 1 v14 x2) (fun v18 => (if v18 = 0 then f_X11_settingsOfLast_28 (f_X11_settingsOfLast_4 r0 n) r0 (x1 ||| ((1 : Int32) <<< (x2 &&& 31))) x2 else f_X11_settingsOfLast_28 (f_X11_settingsOfLast_4 r0 n) r0 x1 x2))))))
set_option maxRecDepth 100000 in
set_option maxHeartbeats 4000000 in
theorem s_X11_settingsOfLast_4 {X : Cg} (cx : Cx X cX11_settingsOfLast RX11 3) (hfr : 0 ≤ (xR X).frames) (hlo : 0 ≤ (xR X).locals) (hr : (xM X).sig.returnType = (some .int)) (r0 : Option Nat) : ∀ (n : Nat) (x1 : Int32) (x2 : Int32), Sim X 3 (FiM X vI) 4 [(0, va_rf r0), (1, .int x1), (2, .int x2)] [] (f_X11_settingsOfLast_4 r0 n x1 x2) := by
  intro n
  induction n with
  | zero =>
    intro _ _
    exact sm_mf
  | succ n ih =>
    intro x1 x2
    rw [f_X11_settingsOfLast_4]
    refine sm_iload_n cx 2 dX11_settingsOfLast_4 rfl rfl ?_
    refine sm_aload_n cx 0 dX11_settingsOfLast_5 rfl rfl ?_
    refine sm_getR cx fl_X11_32 dX11_settingsOfLast_6 (fun v6 => ?_)
    refine sm_alen cx 1 (by decide) dX11_settingsOfLast_9 (fun v9 => ?_)
    refine sm_icmp_ge (tgt := 34) cx dX11_settingsOfLast_10 (by decide) ?_ ?_
    · refine sm_iload_n cx 1 dX11_settingsOfLast_34 rfl rfl ?_
      exact sm_iret cx hr dX11_settingsOfLast_35
    · refine sm_aload_n cx 0 dX11_settingsOfLast_13 rfl rfl ?_
      refine sm_getR cx fl_X11_32 dX11_settingsOfLast_14 (fun v14 => ?_)
      refine sm_iload_n cx 2 dX11_settingsOfLast_17 rfl rfl ?_
      refine sm_iald cx dX11_settingsOfLast_18 (fun v18 => ?_)
      refine sm_if_ne (tgt := 28) cx dX11_settingsOfLast_19 (by decide) ?_ ?_
      · exact sm_lv [0, 1, 2] rfl (s_X11_settingsOfLast_28 cx hfr hlo hr r0 x1 x2 ih)
      · refine sm_iload_n cx 1 dX11_settingsOfLast_22 rfl rfl ?_
        refine sm_iconst (v := 1) cx dX11_settingsOfLast_23 (by decide) ?_
        refine sm_iload_n cx 2 dX11_settingsOfLast_24 rfl rfl ?_
        refine sm_ishl cx dX11_settingsOfLast_25 ?_
        refine sm_ior cx dX11_settingsOfLast_26 ?_
        refine sm_istore_n cx [(1, .int (x1 ||| ((1 : Int32) <<< (x2 &&& 31)))), (0, va_rf r0), (2, .int x2)] dX11_settingsOfLast_27 rfl (by decide) rfl (nc1 (rf_cat _)) rfl ?_
        exact sm_lv [1, 0, 2] rfl (s_X11_settingsOfLast_28 cx hfr hlo hr r0 (x1 ||| ((1 : Int32) <<< (x2 &&& 31))) x2 ih)
def f_X11_settingsOfLast (r0 : Option Nat) : Mo Int32 := f_X11_settingsOfLast_4 r0 fuL (0 : Int32) (0 : Int32)
set_option maxRecDepth 100000 in
set_option maxHeartbeats 4000000 in
theorem s_X11_settingsOfLast {X : Cg} (cx : Cx X cX11_settingsOfLast RX11 3) (hfr : 0 ≤ (xR X).frames) (hlo : 0 ≤ (xR X).locals) (hr : (xM X).sig.returnType = (some .int)) (r0 : Option Nat) : Sim X 3 (FiM X vI) 0 [(0, va_rf r0)] [] (f_X11_settingsOfLast r0) := by
  unfold f_X11_settingsOfLast
  refine sm_iconst (v := 0) cx dX11_settingsOfLast_0 (by decide) ?_
  refine sm_istore_n cx [(1, .int (0 : Int32)), (0, va_rf r0)] dX11_settingsOfLast_1 rfl (by decide) rfl (nc1 (rf_cat _)) rfl ?_
  refine sm_iconst (v := 0) cx dX11_settingsOfLast_2 (by decide) ?_
  refine sm_istore_n cx [(2, .int (0 : Int32)), (1, .int (0 : Int32)), (0, va_rf r0)] dX11_settingsOfLast_3 rfl (by decide) rfl (nc1 rfl) rfl ?_
  exact sm_lv [2, 1, 0] rfl (s_X11_settingsOfLast_4 cx hfr hlo hr r0 fuL (0 : Int32) (0 : Int32))
set_option maxRecDepth 100000 in
set_option maxHeartbeats 4000000 in
theorem ct_X11_settingsOfLast (Z : Nat → Nat) {r0 : Option Nat} (a0 : Nat) (h0 : r0 = some a0) : Ct yX11_settingsOfLast cX11_settingsOfLast 3 (some .int) 0 0 Z [.ref a0] vI (f_X11_settingsOfLast r0) := by
  subst h0
  refine ct_of (lv0 := [(0, va_rf (some a0))]) (by decide +kernel) (by simp [lg_sl, ct_i, ct_l, ct_r, rf_cat]) (by show _ = ([(0, Value.ref a0)] : List (Nat × Value)); simp [lv_args, ct_i, ct_l, ct_r, rf_cat]) (fun X cx hZ hfr hlo hr hin => ?_)
  subst hZ
  exact s_X11_settingsOfLast cx (Nat.le_of_eq hfr.symm) (Nat.le_of_eq hlo.symm) hr (some a0)
/-! PolicyTree.countQuarrels(II)I -/
theorem dX11_countQuarrels_0 : decode cX11_countQuarrels 0 = .ok (.iconst 0, 1) := by decide +kernel
theorem dX11_countQuarrels_1 : decode cX11_countQuarrels 1 = .ok (.istore_n 3, 1) := by decide +kernel
theorem dX11_countQuarrels_2 : decode cX11_countQuarrels 2 = .ok (.iload_n 1, 1) := by decide +kernel
theorem dX11_countQuarrels_3 : decode cX11_countQuarrels 3 = .ok (.ifCond .lt 74, 3) := by decide +kernel
theorem dX11_countQuarrels_6 : decode cX11_countQuarrels 6 = .ok (.iload_n 1, 1) := by decide +kernel
theorem dX11_countQuarrels_7 : decode cX11_countQuarrels 7 = .ok (.aload_n 0, 1) := by decide +kernel
theorem dX11_countQuarrels_8 : decode cX11_countQuarrels 8 = .ok (.getfield 29, 3) := by decide +kernel
theorem dX11_countQuarrels_11 : decode cX11_countQuarrels 11 = .ok (.invokevirtual 88, 3) := by decide +kernel
theorem dX11_countQuarrels_14 : decode cX11_countQuarrels 14 = .ok (.if_icmp .ge 63, 3) := by decide +kernel
theorem dX11_countQuarrels_17 : decode cX11_countQuarrels 17 = .ok (.aload_n 0, 1) := by decide +kernel
theorem dX11_countQuarrels_18 : decode cX11_countQuarrels 18 = .ok (.getfield 29, 3) := by decide +kernel
theorem dX11_countQuarrels_21 : decode cX11_countQuarrels 21 = .ok (.iload_n 1, 1) := by decide +kernel
theorem dX11_countQuarrels_22 : decode cX11_countQuarrels 22 = .ok (.invokevirtual 99, 3) := by decide +kernel
theorem dX11_countQuarrels_25 : decode cX11_countQuarrels 25 = .ok (.checkcast 185, 3) := by decide +kernel
theorem dX11_countQuarrels_28 : decode cX11_countQuarrels 28 = .ok (.astore 4, 2) := by decide +kernel
theorem dX11_countQuarrels_30 : decode cX11_countQuarrels 30 = .ok (.iload_n 1, 1) := by decide +kernel
theorem dX11_countQuarrels_31 : decode cX11_countQuarrels 31 = .ok (.iconst 1, 1) := by decide +kernel
theorem dX11_countQuarrels_32 : decode cX11_countQuarrels 32 = .ok (.iadd, 1) := by decide +kernel
theorem dX11_countQuarrels_33 : decode cX11_countQuarrels 33 = .ok (.istore 5, 2) := by decide +kernel
theorem dX11_countQuarrels_35 : decode cX11_countQuarrels 35 = .ok (.iload 5, 2) := by decide +kernel
theorem dX11_countQuarrels_37 : decode cX11_countQuarrels 37 = .ok (.aload_n 0, 1) := by decide +kernel
theorem dX11_countQuarrels_38 : decode cX11_countQuarrels 38 = .ok (.getfield 29, 3) := by decide +kernel
theorem dX11_countQuarrels_41 : decode cX11_countQuarrels 41 = .ok (.invokevirtual 88, 3) := by decide +kernel
theorem dX11_countQuarrels_44 : decode cX11_countQuarrels 44 = .ok (.if_icmp .ge 33, 3) := by decide +kernel
theorem dX11_countQuarrels_47 : decode cX11_countQuarrels 47 = .ok (.aload 4, 2) := by decide +kernel
theorem dX11_countQuarrels_49 : decode cX11_countQuarrels 49 = .ok (.aload_n 0, 1) := by decide +kernel
theorem dX11_countQuarrels_50 : decode cX11_countQuarrels 50 = .ok (.getfield 29, 3) := by decide +kernel
theorem dX11_countQuarrels_53 : decode cX11_countQuarrels 53 = .ok (.iload 5, 2) := by decide +kernel
theorem dX11_countQuarrels_55 : decode cX11_countQuarrels 55 = .ok (.invokevirtual 99, 3) := by decide +kernel
theorem dX11_countQuarrels_58 : decode cX11_countQuarrels 58 = .ok (.checkcast 185, 3) := by decide +kernel
theorem dX11_countQuarrels_61 : decode cX11_countQuarrels 61 = .ok (.iload_n 2, 1) := by decide +kernel
theorem dX11_countQuarrels_62 : decode cX11_countQuarrels 62 = .ok (.invokevirtual 292, 3) := by decide +kernel
theorem dX11_countQuarrels_65 : decode cX11_countQuarrels 65 = .ok (.ifCond .eq 6, 3) := by decide +kernel
theorem dX11_countQuarrels_68 : decode cX11_countQuarrels 68 = .ok (.iinc 3 1, 3) := by decide +kernel
theorem dX11_countQuarrels_71 : decode cX11_countQuarrels 71 = .ok (.iinc 5 1, 3) := by decide +kernel
theorem dX11_countQuarrels_74 : decode cX11_countQuarrels 74 = .ok (.goto (-39), 3) := by decide +kernel
theorem dX11_countQuarrels_77 : decode cX11_countQuarrels 77 = .ok (.iload_n 3, 1) := by decide +kernel
theorem dX11_countQuarrels_78 : decode cX11_countQuarrels 78 = .ok (.ireturn, 1) := by decide +kernel
def f_X11_countQuarrels_71 (k35 : Int32 → Int32 → Mo Int32) (r0 : Option Nat) (x2 : Int32) (x3 : Int32) (r4 : Option Nat) (x5 : Int32) : Mo Int32 := k35 x3 (x5 + 1)
set_option maxRecDepth 100000 in
set_option maxHeartbeats 4000000 in
theorem s_X11_countQuarrels_71 {X : Cg} (cx : Cx X cX11_countQuarrels RX11 6) (hfr : 3 ≤ (xR X).frames) (hlo : 67 ≤ (xR X).locals) (hr : (xM X).sig.returnType = (some .int)) (r0 : Option Nat) (x2 : Int32) (x3 : Int32) (r4 : Option Nat) (x5 : Int32) {k35 : Int32 → Int32 → Mo Int32} (hk35 : ∀ (x3 : Int32) (x5 : Int32), Sim X 6 (FiM X vI) 35 [(0, va_rf r0), (2, .int x2), (3, .int x3), (4, va_rf r4), (5, .int x5)] [] (k35 x3 x5)) : Sim X 6 (FiM X vI) 71 [(0, va_rf r0), (2, .int x2), (3, .int x3), (4, va_rf r4), (5, .int x5)] [] (f_X11_countQuarrels_71 k35 r0 x2 x3 r4 x5) := by
  unfold f_X11_countQuarrels_71
  refine sm_iinc cx 4 [(5, .int (x5 + 1)), (0, va_rf r0), (2, .int x2), (3, .int x3), (4, va_rf r4)] dX11_countQuarrels_71 rfl rfl (by decide) rfl (nc1 (rf_cat _)) rfl ?_
  refine sm_goto (tgt := 35) cx dX11_countQuarrels_74 (by decide) ?_
  exact sm_lv [1, 2, 3, 4, 0] rfl (hk35 x3 (x5 + 1))
def f_X11_countQuarrels_77 (x3 : Int32) : Mo Int32 := mp x3
set_option maxRecDepth 100000 in
set_option maxHeartbeats 4000000 in
theorem s_X11_countQuarrels_77 {X : Cg} (cx : Cx X cX11_countQuarrels RX11 6) (hfr : 3 ≤ (xR X).frames) (hlo : 67 ≤ (xR X).locals) (hr : (xM X).sig.returnType = (some .int)) (x3 : Int32) : Sim X 6 (FiM X vI) 77 [(3, .int x3)] [] (f_X11_countQuarrels_77 x3) := by
  unfold f_X11_countQuarrels_77
  refine sm_iload_n cx 0 dX11_countQuarrels_77 rfl rfl ?_
  exact sm_iret cx hr dX11_countQuarrels_78
def f_X11_countQuarrels_35 (r0 : Option Nat) (x2 : Int32) (r4 : Option Nat) : Nat → Int32 → Int32 → Mo Int32
  | 0, _, _ => mf
  | n + 1, x3, x5 => mb (gR 14 4 r0) (fun v38 => mb (mo 2 v38 (f_Jx4a65c_size_8abf5 v38)) (fun v41 => (if v41 ≤ x5 then f_X11_countQuarrels_77 x3 else mb (gR 14 4 r0) (fun v50 => mb (mo 2 v50 (f_Jx4a65c_get_915e3 v50 x5)) (fun v55 => mb (ck 7 v55) (fun _ => mb (mo 7 r4 (f_X4_quarrelsWith r4 v55 x2)) (fun v62 => (if v62 = 0 then f_X11_countQuarrels_71 (f_X11_countQuarrels_35 r0 x2 r4 n) r0 x2 x3 r4 x5 else f_X11_countQuarrels_71 (f_X11_countQuarrels_35 r0 x2 r4 n) r0 x2 (x3 + 1) r4 x5))))))))
set_option maxRecDepth 100000 in
set_option maxHeartbeats 4000000 in
theorem s_X11_countQuarrels_35 {X : Cg} (cx : Cx X cX11_countQuarrels RX11 6) (hfr : 3 ≤ (xR X).frames) (hlo : 67 ≤ (xR X).locals) (hr : (xM X).sig.returnType = (some .int)) (r0 : Option Nat) (x2 : Int32) (r4 : Option Nat) : ∀ (n : Nat) (x3 : Int32) (x5 : Int32), Sim X 6 (FiM X vI) 35 [(0, va_rf r0), (2, .int x2), (3, .int x3), (4, va_rf r4), (5, .int x5)] [] (f_X11_countQuarrels_35 r0 x2 r4 n x3 x5) := by
  intro n
  induction n with
  | zero =>
    intro _ _
    exact sm_mf
  | succ n ih =>
    intro x3 x5
    rw [f_X11_countQuarrels_35]
    refine sm_iload cx 4 dX11_countQuarrels_35 rfl ?_
    refine sm_aload_n cx 0 dX11_countQuarrels_37 rfl rfl ?_
    refine sm_getR cx fl_X11_29 dX11_countQuarrels_38 (fun v38 => ?_)
    refine sm_callV (T := TJx4a65c) (N := 3) (toV := vI) cx [] rfl cv_X11_88 (fun a h => ct_Jx4a65c_size_8abf5 (xZ X) a h) (Nat.le_trans (by decide) hfr) (Nat.le_trans (by decide) hlo) rfl (cat_le _ (Nat.le_of_ble_eq_true rfl)) dX11_countQuarrels_41 (fun v41 => ?_)
    refine sm_icmp_ge (tgt := 77) cx dX11_countQuarrels_44 (by decide) ?_ ?_
    · exact sm_lv [2] rfl (s_X11_countQuarrels_77 cx hfr hlo hr x3)
    · refine sm_aload cx 3 dX11_countQuarrels_47 rfl ?_
      refine sm_aload_n cx 0 dX11_countQuarrels_49 rfl rfl ?_
      refine sm_getR cx fl_X11_29 dX11_countQuarrels_50 (fun v50 => ?_)
      refine sm_iload cx 4 dX11_countQuarrels_53 rfl ?_
      refine sm_callV (T := TJx4a65c) (N := 3) (toV := vR) cx [.int x5] rfl cv_X11_99 (fun a h => ct_Jx4a65c_get_915e3 (xZ X) a h x5) (Nat.le_trans (by decide) hfr) (Nat.le_trans (by decide) hlo) rfl (cat_le _ (Nat.le_of_ble_eq_true rfl)) dX11_countQuarrels_55 (fun v55 => ?_)
      refine sm_ck (T := TX4) (N := 7) cx rfl wd_2_142 dX11_countQuarrels_58 ?_
      refine sm_iload_n cx 1 dX11_countQuarrels_61 rfl rfl ?_
      refine sm_callV (T := TX4) (N := 7) (toV := vI) cx [va_rf v55, .int x2] rfl cv_X11_292 (fun a h => ct_X4_quarrelsWith (xZ X) a h v55 x2) (Nat.le_trans (by decide) hfr) (Nat.le_trans (by decide) hlo) rfl (cat_le _ (Nat.le_of_ble_eq_true rfl)) dX11_countQuarrels_62 (fun v62 => ?_)
      refine sm_if_eq (tgt := 71) cx dX11_countQuarrels_65 (by decide) ?_ ?_
      · exact sm_lv [0, 1, 2, 3, 4] rfl (s_X11_countQuarrels_71 cx hfr hlo hr r0 x2 x3 r4 x5 ih)
      · refine sm_iinc cx 2 [(3, .int (x3 + 1)), (0, va_rf r0), (2, .int x2), (4, va_rf r4), (5, .int x5)] dX11_countQuarrels_68 rfl rfl (by decide) rfl (nc1 rfl) rfl ?_
        exact sm_lv [1, 2, 0, 3, 4] rfl (s_X11_countQuarrels_71 cx hfr hlo hr r0 x2 (x3 + 1) r4 x5 ih)
def f_X11_countQuarrels (r0 : Option Nat) (x1 : Int32) (x2 : Int32) : Mo Int32 := (if x1 < 0 then f_X11_countQuarrels_77 (0 : Int32) else mb (gR 14 4 r0) (fun v8 => mb (mo 2 v8 (f_Jx4a65c_size_8abf5 v8)) (fun v11 => (if v11 ≤ x1 then f_X11_countQuarrels_77 (0 : Int32) else mb (gR 14 4 r0) (fun v18 => mb (mo 2 v18 (f_Jx4a65c_get_915e3 v18 x1)) (fun v22 => mb (ck 7 v22) (fun _ => f_X11_countQuarrels_35 r0 x2 v22 fuL (0 : Int32) (x1 + (1 : Int32)))))))))
set_option maxRecDepth 100000 in
set_option maxHeartbeats 4000000 in
theorem s_X11_countQuarrels {X : Cg} (cx : Cx X cX11_countQuarrels RX11 6) (hfr : 3 ≤ (xR X).frames) (hlo : 67 ≤ (xR X).locals) (hr : (xM X).sig.returnType = (some .int)) (r0 : Option Nat) (x1 : Int32) (x2 : Int32) : Sim X 6 (FiM X vI) 0 [(0, va_rf r0), (1, .int x1), (2, .int x2)] [] (f_X11_countQuarrels r0 x1 x2) := by
  unfold f_X11_countQuarrels
  refine sm_iconst (v := 0) cx dX11_countQuarrels_0 (by decide) ?_
  refine sm_istore_n cx [(3, .int (0 : Int32)), (0, va_rf r0), (1, .int x1), (2, .int x2)] dX11_countQuarrels_1 rfl (by decide) rfl (nc1 rfl) rfl ?_
  refine sm_iload_n cx 2 dX11_countQuarrels_2 rfl rfl ?_
  refine sm_if_lt (tgt := 77) cx dX11_countQuarrels_3 (by decide) ?_ ?_
  · exact sm_lv [0] rfl (s_X11_countQuarrels_77 cx hfr hlo hr (0 : Int32))
  · refine sm_iload_n cx 2 dX11_countQuarrels_6 rfl rfl ?_
    refine sm_aload_n cx 1 dX11_countQuarrels_7 rfl rfl ?_
    refine sm_getR cx fl_X11_29 dX11_countQuarrels_8 (fun v8 => ?_)
    refine sm_callV (T := TJx4a65c) (N := 3) (toV := vI) cx [] rfl cv_X11_88 (fun a h => ct_Jx4a65c_size_8abf5 (xZ X) a h) (Nat.le_trans (by decide) hfr) (Nat.le_trans (by decide) hlo) rfl (cat_le _ (Nat.le_of_ble_eq_true rfl)) dX11_countQuarrels_11 (fun v11 => ?_)
    refine sm_icmp_ge (tgt := 77) cx dX11_countQuarrels_14 (by decide) ?_ ?_
    · exact sm_lv [0] rfl (s_X11_countQuarrels_77 cx hfr hlo hr (0 : Int32))
    · refine sm_aload_n cx 1 dX11_countQuarrels_17 rfl rfl ?_
      refine sm_getR cx fl_X11_29 dX11_countQuarrels_18 (fun v18 => ?_)
      refine sm_iload_n cx 2 dX11_countQuarrels_21 rfl rfl ?_
      refine sm_callV (T := TJx4a65c) (N := 3) (toV := vR) cx [.int x1] rfl cv_X11_99 (fun a h => ct_Jx4a65c_get_915e3 (xZ X) a h x1) (Nat.le_trans (by decide) hfr) (Nat.le_trans (by decide) hlo) rfl (cat_le _ (Nat.le_of_ble_eq_true rfl)) dX11_countQuarrels_22 (fun v22 => ?_)
      refine sm_ck (T := TX4) (N := 7) cx rfl wd_2_142 dX11_countQuarrels_25 ?_
      refine sm_astore cx [(4, va_rf v22), (3, .int (0 : Int32)), (0, va_rf r0), (1, .int x1), (2, .int x2)] dX11_countQuarrels_28 (by decide) rfl (nc1 rfl) rfl ?_
      refine sm_iload_n cx 3 dX11_countQuarrels_30 rfl rfl ?_
      refine sm_iconst (v := 1) cx dX11_countQuarrels_31 (by decide) ?_
      refine sm_iadd cx dX11_countQuarrels_32 ?_
      refine sm_istore cx [(5, .int (x1 + (1 : Int32))), (4, va_rf v22), (3, .int (0 : Int32)), (0, va_rf r0), (1, .int x1), (2, .int x2)] dX11_countQuarrels_33 (by decide) rfl (nc1 (rf_cat _)) rfl ?_
      exact sm_lv [3, 5, 2, 1, 0] rfl (s_X11_countQuarrels_35 cx hfr hlo hr r0 x2 v22 fuL (0 : Int32) (x1 + (1 : Int32)))
set_option maxRecDepth 100000 in
set_option maxHeartbeats 4000000 in
theorem ct_X11_countQuarrels (Z : Nat → Nat) {r0 : Option Nat} (a0 : Nat) (h0 : r0 = some a0) (x1 : Int32) (x2 : Int32) : Ct yX11_countQuarrels cX11_countQuarrels 6 (some .int) 3 67 Z [.ref a0, .int x1, .int x2] vI (f_X11_countQuarrels r0 x1 x2) := by
  subst h0
  refine ct_of (lv0 := [(0, va_rf (some a0)), (1, .int x1), (2, .int x2)]) (by decide +kernel) (by simp [lg_sl, ct_i, ct_l, ct_r, rf_cat]) (by show _ = ([(0, Value.ref a0), (1, .int x1), (2, .int x2)] : List (Nat × Value)); simp [lv_args, ct_i, ct_l, ct_r, rf_cat]) (fun X cx hZ hfr hlo hr hin => ?_)
  subst hZ
  exact s_X11_countQuarrels cx (Nat.le_of_eq hfr.symm) (Nat.le_of_eq hlo.symm) hr (some a0) x1 x2
/-! PolicyTree.findQuarreller(III)I -/
theorem dX11_findQuarreller_0 : decode cX11_findQuarreller 0 = .ok (.iload_n 1, 1) := by decide +kernel
theorem dX11_findQuarreller_1 : decode cX11_findQuarreller 1 = .ok (.ifCond .lt 14, 3) := by decide +kernel
theorem dX11_findQuarreller_4 : decode cX11_findQuarreller 4 = .ok (.iload_n 1, 1) := by decide +kernel
theorem dX11_findQuarreller_5 : decode cX11_findQuarreller 5 = .ok (.aload_n 0, 1) := by decide +kernel
theorem dX11_findQuarreller_6 : decode cX11_findQuarreller 6 = .ok (.getfield 29, 3) := by decide +kernel
theorem dX11_findQuarreller_9 : decode cX11_findQuarreller 9 = .ok (.invokevirtual 88, 3) := by decide +kernel
theorem dX11_findQuarreller_12 : decode cX11_findQuarreller 12 = .ok (.if_icmp .lt 5, 3) := by decide +kernel
theorem dX11_findQuarreller_15 : decode cX11_findQuarreller 15 = .ok (.iconst (-1), 1) := by decide +kernel
theorem dX11_findQuarreller_16 : decode cX11_findQuarreller 16 = .ok (.ireturn, 1) := by decide +kernel
theorem dX11_findQuarreller_17 : decode cX11_findQuarreller 17 = .ok (.aload_n 0, 1) := by decide +kernel
theorem dX11_findQuarreller_18 : decode cX11_findQuarreller 18 = .ok (.getfield 29, 3) := by decide +kernel
theorem dX11_findQuarreller_21 : decode cX11_findQuarreller 21 = .ok (.iload_n 1, 1) := by decide +kernel
theorem dX11_findQuarreller_22 : decode cX11_findQuarreller 22 = .ok (.invokevirtual 99, 3) := by decide +kernel
theorem dX11_findQuarreller_25 : decode cX11_findQuarreller 25 = .ok (.checkcast 185, 3) := by decide +kernel
theorem dX11_findQuarreller_28 : decode cX11_findQuarreller 28 = .ok (.astore 4, 2) := by decide +kernel
theorem dX11_findQuarreller_30 : decode cX11_findQuarreller 30 = .ok (.iconst 0, 1) := by decide +kernel
theorem dX11_findQuarreller_31 : decode cX11_findQuarreller 31 = .ok (.istore 5, 2) := by decide +kernel
theorem dX11_findQuarreller_33 : decode cX11_findQuarreller 33 = .ok (.iload_n 1, 1) := by decide +kernel
theorem dX11_findQuarreller_34 : decode cX11_findQuarreller 34 = .ok (.iconst 1, 1) := by decide +kernel
theorem dX11_findQuarreller_35 : decode cX11_findQuarreller 35 = .ok (.iadd, 1) := by decide +kernel
theorem dX11_findQuarreller_36 : decode cX11_findQuarreller 36 = .ok (.istore 6, 2) := by decide +kernel
theorem dX11_findQuarreller_38 : decode cX11_findQuarreller 38 = .ok (.iload 6, 2) := by decide +kernel
theorem dX11_findQuarreller_40 : decode cX11_findQuarreller 40 = .ok (.aload_n 0, 1) := by decide +kernel
theorem dX11_findQuarreller_41 : decode cX11_findQuarreller 41 = .ok (.getfield 29, 3) := by decide +kernel
theorem dX11_findQuarreller_44 : decode cX11_findQuarreller 44 = .ok (.invokevirtual 88, 3) := by decide +kernel
theorem dX11_findQuarreller_47 : decode cX11_findQuarreller 47 = .ok (.if_icmp .ge 42, 3) := by decide +kernel
theorem dX11_findQuarreller_50 : decode cX11_findQuarreller 50 = .ok (.aload 4, 2) := by decide +kernel
theorem dX11_findQuarreller_52 : decode cX11_findQuarreller 52 = .ok (.aload_n 0, 1) := by decide +kernel
theorem dX11_findQuarreller_53 : decode cX11_findQuarreller 53 = .ok (.getfield 29, 3) := by decide +kernel
theorem dX11_findQuarreller_56 : decode cX11_findQuarreller 56 = .ok (.iload 6, 2) := by decide +kernel
theorem dX11_findQuarreller_58 : decode cX11_findQuarreller 58 = .ok (.invokevirtual 99, 3) := by decide +kernel
theorem dX11_findQuarreller_61 : decode cX11_findQuarreller 61 = .ok (.checkcast 185, 3) := by decide +kernel
theorem dX11_findQuarreller_64 : decode cX11_findQuarreller 64 = .ok (.iload_n 2, 1) := by decide +kernel
theorem dX11_findQuarreller_65 : decode cX11_findQuarreller 65 = .ok (.invokevirtual 292, 3) := by decide +kernel
theorem dX11_findQuarreller_68 : decode cX11_findQuarreller 68 = .ok (.ifCond .eq 15, 3) := by decide +kernel
theorem dX11_findQuarreller_71 : decode cX11_findQuarreller 71 = .ok (.iload 5, 2) := by decide +kernel
theorem dX11_findQuarreller_73 : decode cX11_findQuarreller 73 = .ok (.iload_n 3, 1) := by decide +kernel
theorem dX11_findQuarreller_74 : decode cX11_findQuarreller 74 = .ok (.if_icmp .ne 6, 3) := by decide +kernel
theorem dX11_findQuarreller_77 : decode cX11_findQuarreller 77 = .ok (.iload 6, 2) := by decide +kernel
theorem dX11_findQuarreller_79 : decode cX11_findQuarreller 79 = .ok (.ireturn, 1) := by decide +kernel
theorem dX11_findQuarreller_80 : decode cX11_findQuarreller 80 = .ok (.iinc 5 1, 3) := by decide +kernel
theorem dX11_findQuarreller_83 : decode cX11_findQuarreller 83 = .ok (.iinc 6 1, 3) := by decide +kernel
theorem dX11_findQuarreller_86 : decode cX11_findQuarreller 86 = .ok (.goto (-48), 3) := by decide +kernel
theorem dX11_findQuarreller_89 : decode cX11_findQuarreller 89 = .ok (.iconst (-1), 1) := by decide +kernel
theorem dX11_findQuarreller_90 : decode cX11_findQuarreller 90 = .ok (.ireturn, 1) := by decide +kernel
def f_X11_findQuarreller_15 : Mo Int32 := mp (-1 : Int32)
set_option maxRecDepth 100000 in
set_option maxHeartbeats 4000000 in
theorem s_X11_findQuarreller_15 {X : Cg} (cx : Cx X cX11_findQuarreller RX11 7) (hfr : 3 ≤ (xR X).frames) (hlo : 67 ≤ (xR X).locals) (hr : (xM X).sig.returnType = (some .int)) : Sim X 7 (FiM X vI) 15 [] [] (f_X11_findQuarreller_15) := by
  unfold f_X11_findQuarreller_15
  refine sm_iconst (v := -1) cx dX11_findQuarreller_15 (by decide) ?_
  exact sm_iret cx hr dX11_findQuarreller_16
def f_X11_findQuarreller_83 (k38 : Int32 → Int32 → Mo Int32) (r0 : Option Nat) (x2 : Int32) (x3 : Int32) (r4 : Option Nat) (x5 : Int32) (x6 : Int32) : Mo Int32 := k38 x5 (x6 + 1)
set_option maxRecDepth 100000 in
set_option maxHeartbeats 4000000 in
theorem s_X11_findQuarreller_83 {X : Cg} (cx : Cx X cX11_findQuarreller RX11 7) (hfr : 3 ≤ (xR X).frames) (hlo : 67 ≤ (xR X).locals) (hr : (xM X).sig.returnType = (some .int)) (r0 : Option Nat) (x2 : Int32) (x3 : Int32) (r4 : Option Nat) (x5 : Int32) (x6 : Int32) {k38 : Int32 → Int32 → Mo Int32} (hk38 : ∀ (x5 : Int32) (x6 : Int32), Sim X 7 (FiM X vI) 38 [(0, va_rf r0), (2, .int x2), (3, .int x3), (4, va_rf r4), (5, .int x5), (6, .int x6)] [] (k38 x5 x6)) : Sim X 7 (FiM X vI) 83 [(0, va_rf r0), (2, .int x2), (3, .int x3), (4, va_rf r4), (5, .int x5), (6, .int x6)] [] (f_X11_findQuarreller_83 k38 r0 x2 x3 r4 x5 x6) := by
  unfold f_X11_findQuarreller_83
  refine sm_iinc cx 5 [(6, .int (x6 + 1)), (0, va_rf r0), (2, .int x2), (3, .int x3), (4, va_rf r4), (5, .int x5)] dX11_findQuarreller_83 rfl rfl (by decide) rfl (nc1 rfl) rfl ?_
  refine sm_goto (tgt := 38) cx dX11_findQuarreller_86 (by decide) ?_
  exact sm_lv [1, 2, 3, 4, 5, 0] rfl (hk38 x5 (x6 + 1))
def f_X11_findQuarreller_38 (r0 : Option Nat) (x2 : Int32) (x3 : Int32) (r4 : Option Nat) : Nat → Int32 → Int32 → Mo Int32
  | 0, _, _ => mf
  | n + 1, x5, x6 => mb (gR 14 4 r0) (fun v41 => mb (mo 2 v41 (f_Jx4a65c_size_8abf5 v41)) (fun v44 => (if v44 ≤ x6 then mp (-1 : Int32) else mb (gR 14 4 r0) (fun v53 => mb (mo 2 v53 (f_Jx4a65c_get_915e3 v53 x6)) (fun v58 => mb (ck 7 v58) (fun _ => mb (mo 7 r4 (f_X4_quarrelsWith r4 v58 x2)) (fun v65 => (if v65 = 0 then f_X11_findQuarreller_83 (f_X11_findQuarreller_38 r0 x2 x3 r4 n) r0 x2 x3 r4 x5 x6 else (if x5 = x3 then mp x6 else f_X11_findQuarreller_83 (f_X11_findQuarreller_38 r0 x2 x3 r4 n) r0 x2 x3 r4 (x5 + 1) x6)))))))))
set_option maxRecDepth 100000 in
set_option maxHeartbeats 4000000 in
theorem s_X11_findQuarreller_38 {X : Cg} (cx : Cx X cX11_findQuarreller RX11 7) (hfr : 3 ≤ (xR X).frames) (hlo : 67 ≤ (xR X).locals) (hr : (xM X).sig.returnType = (some .int)) (r0 : Option Nat) (x2 : Int32) (x3 : Int32) (r4 : Option Nat) : ∀ (n : Nat) (x5 : Int32) (x6 : Int32), Sim X 7 (FiM X vI) 38 [(0, va_rf r0), (2, .int x2), (3, .int x3), (4, va_rf r4), (5, .int x5), (6, .int x6)] [] (f_X11_findQuarreller_38 r0 x2 x3 r4 n x5 x6) := by
  intro n
  induction n with
  | zero =>
    intro _ _
    exact sm_mf
  | succ n ih =>
    intro x5 x6
    rw [f_X11_findQuarreller_38]
    refine sm_iload cx 5 dX11_findQuarreller_38 rfl ?_
    refine sm_aload_n cx 0 dX11_findQuarreller_40 rfl rfl ?_
    refine sm_getR cx fl_X11_29 dX11_findQuarreller_41 (fun v41 => ?_)
    refine sm_callV (T := TJx4a65c) (N := 3) (toV := vI) cx [] rfl cv_X11_88 (fun a h => ct_Jx4a65c_size_8abf5 (xZ X) a h) (Nat.le_trans (by decide) hfr) (Nat.le_trans (by decide) hlo) rfl (cat_le _ (Nat.le_of_ble_eq_true rfl)) dX11_findQuarreller_44 (fun v44 => ?_)
    refine sm_icmp_ge (tgt := 89) cx dX11_findQuarreller_47 (by decide) ?_ ?_
    · refine sm_iconst (v := -1) cx dX11_findQuarreller_89 (by decide) ?_
      exact sm_iret cx hr dX11_findQuarreller_90
    · refine sm_aload cx 3 dX11_findQuarreller_50 rfl ?_
      refine sm_aload_n cx 0 dX11_findQuarreller_52 rfl rfl ?_
      refine sm_getR cx fl_X11_29 dX11_findQuarreller_53 (fun v53 => ?_)
      refine sm_iload cx 5 dX11_findQuarreller_56 rfl ?_
      refine sm_callV (T := TJx4a65c) (N := 3) (toV := vR) cx [.int x6] rfl cv_X11_99 (fun a h => ct_Jx4a65c_get_915e3 (xZ X) a h x6) (Nat.le_trans (by decide) hfr) (Nat.le_trans (by decide) hlo) rfl (cat_le _ (Nat.le_of_ble_eq_true rfl)) dX11_findQuarreller_58 (fun v58 => ?_)
      refine sm_ck (T := TX4) (N := 7) cx rfl wd_2_142 dX11_findQuarreller_61 ?_
      refine sm_iload_n cx 1 dX11_findQuarreller_64 rfl rfl ?_
      refine sm_callV (T := TX4) (N := 7) (toV := vI) cx [va_rf v58, .int x2] rfl cv_X11_292 (fun a h => ct_X4_quarrelsWith (xZ X) a h v58 x2) (Nat.le_trans (by decide) hfr) (Nat.le_trans (by decide) hlo) rfl (cat_le _ (Nat.le_of_ble_eq_true rfl)) dX11_findQuarreller_65 (fun v65 => ?_)
      refine sm_if_eq (tgt := 83) cx dX11_findQuarreller_68 (by decide) ?_ ?_
      · exact sm_lv [0, 1, 2, 3, 4, 5] rfl (s_X11_findQuarreller_83 cx hfr hlo hr r0 x2 x3 r4 x5 x6 ih)
      · refine sm_iload cx 4 dX11_findQuarreller_71 rfl ?_
        refine sm_iload_n cx 2 dX11_findQuarreller_73 rfl rfl ?_
        refine sm_icmp_ne (tgt := 80) cx dX11_findQuarreller_74 (by decide) ?_ ?_
        · refine sm_iinc cx 4 [(5, .int (x5 + 1)), (0, va_rf r0), (2, .int x2), (3, .int x3), (4, va_rf r4), (6, .int x6)] dX11_findQuarreller_80 rfl rfl (by decide) rfl (nc1 (rf_cat _)) rfl ?_
          exact sm_lv [1, 2, 3, 4, 0, 5] rfl (s_X11_findQuarreller_83 cx hfr hlo hr r0 x2 x3 r4 (x5 + 1) x6 ih)
        · refine sm_iload cx 5 dX11_findQuarreller_77 rfl ?_
          exact sm_iret cx hr dX11_findQuarreller_79
def f_X11_findQuarreller (r0 : Option Nat) (x1 : Int32) (x2 : Int32) (x3 : Int32) : Mo Int32 := (if x1 < 0 then f_X11_findQuarreller_15 else mb (gR 14 4 r0) (fun v6 => mb (mo 2 v6 (f_Jx4a65c_size_8abf5 v6)) (fun v9 => (if x1 < v9 then mb (gR 14 4 r0) (fun v18 => mb (mo 2 v18 (f_Jx4a65c_get_915e3 v18 x1)) (fun v22 => mb (ck 7 v22) (fun _ => f_X11_findQuarreller_38 r0 x2 x3 v22 fuL (0 : Int32) (x1 + (1 : Int32))))) else f_X11_findQuarreller_15))))
set_option maxRecDepth 100000 in
set_option maxHeartbeats 4000000 in
theorem s_X11_findQuarreller {X : Cg} (cx : Cx X cX11_findQuarreller RX11 7) (hfr : 3 ≤ (xR X).frames) (hlo : 67 ≤ (xR X).locals) (hr : (xM X).sig.returnType = (some .int)) (r0 : Option Nat) (x1 : Int32) (x2 : Int32) (x3 : Int32) : Sim X 7 (FiM X vI) 0 [(0, va_rf r0), (1, .int x1), (2, .int x2), (3, .int x3)] [] (f_X11_findQuarreller r0 x1 x2 x3) := by
  unfold f_X11_findQuarreller
  refine sm_iload_n cx 1 dX11_findQuarreller_0 rfl rfl ?_
  refine sm_if_lt (tgt := 15) cx dX11_findQuarreller_1 (by decide) ?_ ?_
  · exact sm_lv [] rfl (s_X11_findQuarreller_15 cx hfr hlo hr)
  · refine sm_iload_n cx 1 dX11_findQuarreller_4 rfl rfl ?_
    refine sm_aload_n cx 0 dX11_findQuarreller_5 rfl rfl ?_
    refine sm_getR cx fl_X11_29 dX11_findQuarreller_6 (fun v6 => ?_)
    refine sm_callV (T := TJx4a65c) (N := 3) (toV := vI) cx [] rfl cv_X11_88 (fun a h => ct_Jx4a65c_size_8abf5 (xZ X) a h) (Nat.le_trans (by decide) hfr) (Nat.le_trans (by decide) hlo) rfl (cat_le _ (Nat.le_of_ble_eq_true rfl)) dX11_findQuarreller_9 (fun v9 => ?_)
    refine sm_icmp_lt (tgt := 17) cx dX11_findQuarreller_12 (by decide) ?_ ?_
    · refine sm_aload_n cx 0 dX11_findQuarreller_17 rfl rfl ?_
      refine sm_getR cx fl_X11_29 dX11_findQuarreller_18 (fun v18 => ?_)
      refine sm_iload_n cx 1 dX11_findQuarreller_21 rfl rfl ?_
      refine sm_callV (T := TJx4a65c) (N := 3) (toV := vR) cx [.int x1] rfl cv_X11_99 (fun a h => ct_Jx4a65c_get_915e3 (xZ X) a h x1) (Nat.le_trans (by decide) hfr) (Nat.le_trans (by decide) hlo) rfl (cat_le _ (Nat.le_of_ble_eq_true rfl)) dX11_findQuarreller_22 (fun v22 => ?_)
      refine sm_ck (T := TX4) (N := 7) cx rfl wd_2_142 dX11_findQuarreller_25 ?_
      refine sm_astore cx [(4, va_rf v22), (0, va_rf r0), (1, .int x1), (2, .int x2), (3, .int x3)] dX11_findQuarreller_28 (by decide) rfl (nc1 rfl) rfl ?_
      refine sm_iconst (v := 0) cx dX11_findQuarreller_30 (by decide) ?_
      refine sm_istore cx [(5, .int (0 : Int32)), (4, va_rf v22), (0, va_rf r0), (1, .int x1), (2, .int x2), (3, .int x3)] dX11_findQuarreller_31 (by decide) rfl (nc1 (rf_cat _)) rfl ?_
      refine sm_iload_n cx 3 dX11_findQuarreller_33 rfl rfl ?_
      refine sm_iconst (v := 1) cx dX11_findQuarreller_34 (by decide) ?_
      refine sm_iadd cx dX11_findQuarreller_35 ?_
      refine sm_istore cx [(6, .int (x1 + (1 : Int32))), (5, .int (0 : Int32)), (4, va_rf v22), (0, va_rf r0), (1, .int x1), (2, .int x2), (3, .int x3)] dX11_findQuarreller_36 (by decide) rfl (nc1 rfl) rfl ?_
      exact sm_lv [3, 5, 6, 2, 1, 0] rfl (s_X11_findQuarreller_38 cx hfr hlo hr r0 x2 x3 v22 fuL (0 : Int32) (x1 + (1 : Int32)))
    · exact sm_lv [] rfl (s_X11_findQuarreller_15 cx hfr hlo hr)
set_option maxRecDepth 100000 in
set_option maxHeartbeats 4000000 in
theorem ct_X11_findQuarreller (Z : Nat → Nat) {r0 : Option Nat} (a0 : Nat) (h0 : r0 = some a0) (x1 : Int32) (x2 : Int32) (x3 : Int32) : Ct yX11_findQuarreller cX11_findQuarreller 7 (some .int) 3 67 Z [.ref a0, .int x1, .int x2, .int x3] vI (f_X11_findQuarreller r0 x1 x2 x3) := by
  subst h0
  refine ct_of (lv0 := [(0, va_rf (some a0)), (1, .int x1), (2, .int x2), (3, .int x3)]) (by decide +kernel) (by simp [lg_sl, ct_i, ct_l, ct_r, rf_cat]) (by show _ = ([(0, Value.ref a0), (1, .int x1), (2, .int x2), (3, .int x3)] : List (Nat × Value)); simp [lv_args, ct_i, ct_l, ct_r, rf_cat]) (fun X cx hZ hfr hlo hr hin => ?_)
  subst hZ
  exact s_X11_findQuarreller cx (Nat.le_of_eq hfr.symm) (Nat.le_of_eq hlo.symm) hr (some a0) x1 x2 x3
/-! PolicyTree.countLasting()I -/
theorem dX11_countLasting_0 : decode cX11_countLasting 0 = .ok (.iconst 0, 1) := by decide +kernel
theorem dX11_countLasting_1 : decode cX11_countLasting 1 = .ok (.istore_n 1, 1) := by decide +kernel
theorem dX11_countLasting_2 : decode cX11_countLasting 2 = .ok (.iconst 0, 1) := by decide +kernel
theorem dX11_countLasting_3 : decode cX11_countLasting 3 = .ok (.istore_n 2, 1) := by decide +kernel
theorem dX11_countLasting_4 : decode cX11_countLasting 4 = .ok (.iload_n 2, 1) := by decide +kernel
theorem dX11_countLasting_5 : decode cX11_countLasting 5 = .ok (.aload_n 0, 1) := by decide +kernel
theorem dX11_countLasting_6 : decode cX11_countLasting 6 = .ok (.getfield 29, 3) := by decide +kernel
theorem dX11_countLasting_9 : decode cX11_countLasting 9 = .ok (.invokevirtual 88, 3) := by decide +kernel
theorem dX11_countLasting_12 : decode cX11_countLasting 12 = .ok (.if_icmp .ge 29, 3) := by decide +kernel
theorem dX11_countLasting_15 : decode cX11_countLasting 15 = .ok (.aload_n 0, 1) := by decide +kernel
theorem dX11_countLasting_16 : decode cX11_countLasting 16 = .ok (.getfield 29, 3) := by decide +kernel
theorem dX11_countLasting_19 : decode cX11_countLasting 19 = .ok (.iload_n 2, 1) := by decide +kernel
theorem dX11_countLasting_20 : decode cX11_countLasting 20 = .ok (.invokevirtual 99, 3) := by decide +kernel
theorem dX11_countLasting_23 : decode cX11_countLasting 23 = .ok (.checkcast 185, 3) := by decide +kernel
theorem dX11_countLasting_26 : decode cX11_countLasting 26 = .ok (.getfield 201, 3) := by decide +kernel
theorem dX11_countLasting_29 : decode cX11_countLasting 29 = .ok (.ifCond .ne 6, 3) := by decide +kernel
theorem dX11_countLasting_32 : decode cX11_countLasting 32 = .ok (.iinc 1 1, 3) := by decide +kernel
theorem dX11_countLasting_35 : decode cX11_countLasting 35 = .ok (.iinc 2 1, 3) := by decide +kernel
theorem dX11_countLasting_38 : decode cX11_countLasting 38 = .ok (.goto (-34), 3) := by decide +kernel
theorem dX11_countLasting_41 : decode cX11_countLasting 41 = .ok (.iload_n 1, 1) := by decide +kernel
theorem dX11_countLasting_42 : decode cX11_countLasting 42 = .ok (.ireturn, 1) := by decide +kernel
def f_X11_countLasting_35 (k4 : Int32 → Int32 → Mo Int32) (r0 : Option Nat) (x1 : Int32) (x2 : Int32) : Mo Int32 := k4 x1 (x2 + 1)
set_option maxRecDepth 100000 in
set_option maxHeartbeats 4000000 in
theorem s_X11_countLasting_35 {X : Cg} (cx : Cx X cX11_countLasting RX11 3) (hfr : 3 ≤ (xR X).frames) (hlo : 64 ≤ (xR X).locals) (hr : (xM X).sig.returnType = (some .int)) (r0 : Option Nat) (x1 : Int32) (x2 : Int32) {k4 : Int32 → Int32 → Mo Int32} (hk4 : ∀ (x1 : Int32) (x2 : Int32), Sim X 3 (FiM X vI) 4 [(0, va_rf r0), (1, .int x1), (2, .int x2)] [] (k4 x1 x2)) : Sim X 3 (FiM X vI) 35 [(0, va_rf r0), (1, .int x1), (2, .int x2)] [] (f_X11_countLasting_35 k4 r0 x1 x2) := by
  unfold f_X11_countLasting_35
  refine sm_iinc cx 2 [(2, .int (x2 + 1)), (0, va_rf r0), (1, .int x1)] dX11_countLasting_35 rfl rfl (by decide) rfl (nc1 rfl) rfl ?_
  refine sm_goto (tgt := 4) cx dX11_countLasting_38 (by decide) ?_
  exact sm_lv [1, 2, 0] rfl (hk4 x1 (x2 + 1))
def f_X11_countLasting_4 (r0 : Option Nat) : Nat → Int32 → Int32 → Mo Int32
  | 0, _, _ => mf
  | n + 1, x1, x2 => mb (gR 14 4 r0) (fun v6 => mb (mo 2 v6 (f_Jx4a65c_size_8abf5 v6)) (fun v9 => (if v9 ≤ x2 then mp x1 else mb (gR 14 4 r0) (fun v16 => mb (mo 2 v16 (f_Jx4a65c_get_915e3 v16 x2)) (fun v20 => mb (ck 7 v20) (fun _ => mb (gI 7 6 v20) (fun v26 => (if v26 = 0 then f_X11_countLasting_35 (f_X11_countLasting_4 r0 n) r0 (x1 + 1) x2 else f_X11_countLasting_35 (f_X11_countLasting_4 r0 n) r0 x1 x2))))))))
set_option maxRecDepth 100000 in
set_option maxHeartbeats 4000000 in
theorem s_X11_countLasting_4 {X : Cg} (cx : Cx X cX11_countLasting RX11 3) (hfr : 3 ≤ (xR X).frames) (hlo : 64 ≤ (xR X).locals) (hr : (xM X).sig.returnType = (some .int)) (r0 : Option Nat) : ∀ (n : Nat) (x1 : Int32) (x2 : Int32), Sim X 3 (FiM X vI) 4 [(0, va_rf r0), (1, .int x1), (2, .int x2)] [] (f_X11_countLasting_4 r0 n x1 x2) := by
  intro n
  induction n with
  | zero =>
    intro _ _
    exact sm_mf
  | succ n ih =>
    intro x1 x2
    rw [f_X11_countLasting_4]
    refine sm_iload_n cx 2 dX11_countLasting_4 rfl rfl ?_
    refine sm_aload_n cx 0 dX11_countLasting_5 rfl rfl ?_
    refine sm_getR cx fl_X11_29 dX11_countLasting_6 (fun v6 => ?_)
    refine sm_callV (T := TJx4a65c) (N := 3) (toV := vI) cx [] rfl cv_X11_88 (fun a h => ct_Jx4a65c_size_8abf5 (xZ X) a h) (Nat.le_trans (by decide) hfr) (Nat.le_trans (by decide) hlo) rfl (cat_le _ (Nat.le_of_ble_eq_true rfl)) dX11_countLasting_9 (fun v9 => ?_)
    refine sm_icmp_ge (tgt := 41) cx dX11_countLasting_12 (by decide) ?_ ?_
    · refine sm_iload_n cx 1 dX11_countLasting_41 rfl rfl ?_
      exact sm_iret cx hr dX11_countLasting_42
    · refine sm_aload_n cx 0 dX11_countLasting_15 rfl rfl ?_
      refine sm_getR cx fl_X11_29 dX11_countLasting_16 (fun v16 => ?_)
      refine sm_iload_n cx 2 dX11_countLasting_19 rfl rfl ?_
      refine sm_callV (T := TJx4a65c) (N := 3) (toV := vR) cx [.int x2] rfl cv_X11_99 (fun a h => ct_Jx4a65c_get_915e3 (xZ X) a h x2) (Nat.le_trans (by decide) hfr) (Nat.le_trans (by decide) hlo) rfl (cat_le _ (Nat.le_of_ble_eq_true rfl)) dX11_countLasting_20 (fun v20 => ?_)
      refine sm_ck (T := TX4) (N := 7) cx rfl wd_2_142 dX11_countLasting_23 ?_
      refine sm_getI cx fl_X11_201 dX11_countLasting_26 (fun v26 => ?_)
      refine sm_if_ne (tgt := 35) cx dX11_countLasting_29 (by decide) ?_ ?_
      · exact sm_lv [0, 1, 2] rfl (s_X11_countLasting_35 cx hfr hlo hr r0 x1 x2 ih)
      · refine sm_iinc cx 1 [(1, .int (x1 + 1)), (0, va_rf r0), (2, .int x2)] dX11_countLasting_32 rfl rfl (by decide) rfl (nc1 (rf_cat _)) rfl ?_
        exact sm_lv [1, 0, 2] rfl (s_X11_countLasting_35 cx hfr hlo hr r0 (x1 + 1) x2 ih)
def f_X11_countLasting (r0 : Option Nat) : Mo Int32 := f_X11_countLasting_4 r0 fuL (0 : Int32) (0 : Int32)
set_option maxRecDepth 100000 in
set_option maxHeartbeats 4000000 in
theorem s_X11_countLasting {X : Cg} (cx : Cx X cX11_countLasting RX11 3) (hfr : 3 ≤ (xR X).frames) (hlo : 64 ≤ (xR X).locals) (hr : (xM X).sig.returnType = (some .int)) (r0 : Option Nat) : Sim X 3 (FiM X vI) 0 [(0, va_rf r0)] [] (f_X11_countLasting r0) := by
  unfold f_X11_countLasting
  refine sm_iconst (v := 0) cx dX11_countLasting_0 (by decide) ?_
  refine sm_istore_n cx [(1, .int (0 : Int32)), (0, va_rf r0)] dX11_countLasting_1 rfl (by decide) rfl (nc1 (rf_cat _)) rfl ?_
  refine sm_iconst (v := 0) cx dX11_countLasting_2 (by decide) ?_
  refine sm_istore_n cx [(2, .int (0 : Int32)), (1, .int (0 : Int32)), (0, va_rf r0)] dX11_countLasting_3 rfl (by decide) rfl (nc1 rfl) rfl ?_
  exact sm_lv [2, 1, 0] rfl (s_X11_countLasting_4 cx hfr hlo hr r0 fuL (0 : Int32) (0 : Int32))
set_option maxRecDepth 100000 in
set_option maxHeartbeats 4000000 in
theorem ct_X11_countLasting (Z : Nat → Nat) {r0 : Option Nat} (a0 : Nat) (h0 : r0 = some a0) : Ct yX11_countLasting cX11_countLasting 3 (some .int) 3 64 Z [.ref a0] vI (f_X11_countLasting r0) := by
  subst h0
  refine ct_of (lv0 := [(0, va_rf (some a0))]) (by decide +kernel) (by simp [lg_sl, ct_i, ct_l, ct_r, rf_cat]) (by show _ = ([(0, Value.ref a0)] : List (Nat × Value)); simp [lv_args, ct_i, ct_l, ct_r, rf_cat]) (fun X cx hZ hfr hlo hr hin => ?_)
  subst hZ
  exact s_X11_countLasting cx (Nat.le_of_eq hfr.symm) (Nat.le_of_eq hlo.symm) hr (some a0)
/-! PolicyTree.feed(IIIII)I -/
theorem dX11_feed_0 : decode cX11_feed 0 = .ok (.aload_n 0, 1) := by decide +kernel
theorem dX11_feed_1 : decode cX11_feed 1 = .ok (.getfield 39, 3) := by decide +kernel
theorem dX11_feed_4 : decode cX11_feed 4 = .ok (.bipush 20, 2) := by decide +kernel
theorem dX11_feed_6 : decode cX11_feed 6 = .ok (.invokevirtual 168, 3) := by decide +kernel
theorem dX11_feed_9 : decode cX11_feed 9 = .ok (.ifCond .ne 5, 3) := by decide +kernel
theorem dX11_feed_12 : decode cX11_feed 12 = .ok (.iconst (-1), 1) := by decide +kernel
theorem dX11_feed_13 : decode cX11_feed 13 = .ok (.ireturn, 1) := by decide +kernel
theorem dX11_feed_14 : decode cX11_feed 14 = .ok (.aload_n 0, 1) := by decide +kernel
theorem dX11_feed_15 : decode cX11_feed 15 = .ok (.getfield 39, 3) := by decide +kernel
theorem dX11_feed_18 : decode cX11_feed 18 = .ok (.iload_n 1, 1) := by decide +kernel
theorem dX11_feed_19 : decode cX11_feed 19 = .ok (.invokevirtual 171, 3) := by decide +kernel
theorem dX11_feed_22 : decode cX11_feed 22 = .ok (.aload_n 0, 1) := by decide +kernel
theorem dX11_feed_23 : decode cX11_feed 23 = .ok (.getfield 39, 3) := by decide +kernel
theorem dX11_feed_26 : decode cX11_feed 26 = .ok (.iload_n 2, 1) := by decide +kernel
theorem dX11_feed_27 : decode cX11_feed 27 = .ok (.invokevirtual 171, 3) := by decide +kernel
theorem dX11_feed_30 : decode cX11_feed 30 = .ok (.aload_n 0, 1) := by decide +kernel
theorem dX11_feed_31 : decode cX11_feed 31 = .ok (.getfield 39, 3) := by decide +kernel
theorem dX11_feed_34 : decode cX11_feed 34 = .ok (.iload_n 3, 1) := by decide +kernel
theorem dX11_feed_35 : decode cX11_feed 35 = .ok (.invokevirtual 171, 3) := by decide +kernel
theorem dX11_feed_38 : decode cX11_feed 38 = .ok (.aload_n 0, 1) := by decide +kernel
theorem dX11_feed_39 : decode cX11_feed 39 = .ok (.getfield 39, 3) := by decide +kernel
theorem dX11_feed_42 : decode cX11_feed 42 = .ok (.iload 4, 2) := by decide +kernel
theorem dX11_feed_44 : decode cX11_feed 44 = .ok (.invokevirtual 171, 3) := by decide +kernel
theorem dX11_feed_47 : decode cX11_feed 47 = .ok (.aload_n 0, 1) := by decide +kernel
theorem dX11_feed_48 : decode cX11_feed 48 = .ok (.getfield 39, 3) := by decide +kernel
theorem dX11_feed_51 : decode cX11_feed 51 = .ok (.iload 5, 2) := by decide +kernel
theorem dX11_feed_53 : decode cX11_feed 53 = .ok (.invokevirtual 171, 3) := by decide +kernel
theorem dX11_feed_56 : decode cX11_feed 56 = .ok (.aload_n 0, 1) := by decide +kernel
theorem dX11_feed_57 : decode cX11_feed 57 = .ok (.getfield 39, 3) := by decide +kernel
theorem dX11_feed_60 : decode cX11_feed 60 = .ok (.invokevirtual 175, 3) := by decide +kernel
theorem dX11_feed_63 : decode cX11_feed 63 = .ok (.ireturn, 1) := by decide +kernel
def f_X11_feed (r0 : Option Nat) (x1 : Int32) (x2 : Int32) (x3 : Int32) (x4 : Int32) (x5 : Int32) : Mo Int32 := mb (gR 14 6 r0) (fun v1 => mb (mo 13 v1 (f_X10_hasRoom v1 (20 : Int32))) (fun v6 => (if v6 = 0 then mp (-1 : Int32) else mb (gR 14 6 r0) (fun v15 => mb (mo 13 v15 (f_X10_addNumber v15 x1)) (fun _ => mb (gR 14 6 r0) (fun v23 => mb (mo 13 v23 (f_X10_addNumber v23 x2)) (fun _ => mb (gR 14 6 r0) (fun v31 => mb (mo 13 v31 (f_X10_addNumber v31 x3)) (fun _ => mb (gR 14 6 r0) (fun v39 => mb (mo 13 v39 (f_X10_addNumber v39 x4)) (fun _ => mb (gR 14 6 r0) (fun v48 => mb (mo 13 v48 (f_X10_addNumber v48 x5)) (fun _ => mb (gR 14 6 r0) (fun v57 => mb (mo 13 v57 (f_X10_size v57)) (fun v60 => mp v60)))))))))))))))
set_option maxRecDepth 100000 in
set_option maxHeartbeats 4000000 in
theorem s_X11_feed {X : Cg} (cx : Cx X cX11_feed RX11 6) (hfr : 1 ≤ (xR X).frames) (hlo : 22 ≤ (xR X).locals) (hr : (xM X).sig.returnType = (some .int)) (r0 : Option Nat) (x1 : Int32) (x2 : Int32) (x3 : Int32) (x4 : Int32) (x5 : Int32) : Sim X 6 (FiM X vI) 0 [(0, va_rf r0), (1, .int x1), (2, .int x2), (3, .int x3), (4, .int x4), (5, .int x5)] [] (f_X11_feed r0 x1 x2 x3 x4 x5) := by
  unfold f_X11_feed
  refine sm_aload_n cx 0 dX11_feed_0 rfl rfl ?_
  refine sm_getR cx fl_X11_39 dX11_feed_1 (fun v1 => ?_)
  refine sm_bipush (v := 20) cx dX11_feed_4 (by decide) ?_
  refine sm_callV (T := TX10) (N := 2) (toV := vI) cx [.int (20 : Int32)] rfl cv_X11_168 (fun a h => ct_X10_hasRoom (xZ X) a h (20 : Int32)) (Nat.le_trans (by decide) hfr) (Nat.le_trans (by decide) hlo) rfl (cat_le _ (Nat.le_of_ble_eq_true rfl)) dX11_feed_6 (fun v6 => ?_)
  refine sm_if_ne (tgt := 14) cx dX11_feed_9 (by decide) ?_ ?_
  · refine sm_aload_n cx 0 dX11_feed_14 rfl rfl ?_
    refine sm_getR cx fl_X11_39 dX11_feed_15 (fun v15 => ?_)
    refine sm_iload_n cx 1 dX11_feed_18 rfl rfl ?_
    refine sm_callV (T := TX10) (N := 2) (toV := vV) cx [.int x1] rfl cv_X11_171 (fun a h => ct_X10_addNumber (xZ X) a h x1) (Nat.le_trans (by decide) hfr) (Nat.le_trans (by decide) hlo) rfl (cat_le _ (Nat.le_of_ble_eq_true rfl)) dX11_feed_19 (fun _ => ?_)
    refine sm_aload_n cx 0 dX11_feed_22 rfl rfl ?_
    refine sm_getR cx fl_X11_39 dX11_feed_23 (fun v23 => ?_)
    refine sm_iload_n cx 2 dX11_feed_26 rfl rfl ?_
    refine sm_callV (T := TX10) (N := 2) (toV := vV) cx [.int x2] rfl cv_X11_171 (fun a h => ct_X10_addNumber (xZ X) a h x2) (Nat.le_trans (by decide) hfr) (Nat.le_trans (by decide) hlo) rfl (cat_le _ (Nat.le_of_ble_eq_true rfl)) dX11_feed_27 (fun _ => ?_)
    refine sm_aload_n cx 0 dX11_feed_30 rfl rfl ?_
    refine sm_getR cx fl_X11_39 dX11_feed_31 (fun v31 => ?_)
    refine sm_iload_n cx 3 dX11_feed_34 rfl rfl ?_
    refine sm_callV (T := TX10) (N := 2) (toV := vV) cx [.int x3] rfl cv_X11_171 (fun a h => ct_X10_addNumber (xZ X) a h x3) (Nat.le_trans (by decide) hfr) (Nat.le_trans (by decide) hlo) rfl (cat_le _ (Nat.le_of_ble_eq_true rfl)) dX11_feed_35 (fun _ => ?_)
    refine sm_aload_n cx 0 dX11_feed_38 rfl rfl ?_
    refine sm_getR cx fl_X11_39 dX11_feed_39 (fun v39 => ?_)
    refine sm_iload cx 4 dX11_feed_42 rfl ?_
    refine sm_callV (T := TX10) (N := 2) (toV := vV) cx [.int x4] rfl cv_X11_171 (fun a h => ct_X10_addNumber (xZ X) a h x4) (Nat.le_trans (by decide) hfr) (Nat.le_trans (by decide) hlo) rfl (cat_le _ (Nat.le_of_ble_eq_true rfl)) dX11_feed_44 (fun _ => ?_)
    refine sm_aload_n cx 0 dX11_feed_47 rfl rfl ?_
    refine sm_getR cx fl_X11_39 dX11_feed_48 (fun v48 => ?_)
    refine sm_iload cx 5 dX11_feed_51 rfl ?_
    refine sm_callV (T := TX10) (N := 2) (toV := vV) cx [.int x5] rfl cv_X11_171 (fun a h => ct_X10_addNumber (xZ X) a h x5) (Nat.le_trans (by decide) hfr) (Nat.le_trans (by decide) hlo) rfl (cat_le _ (Nat.le_of_ble_eq_true rfl)) dX11_feed_53 (fun _ => ?_)
    refine sm_aload_n cx 0 dX11_feed_56 rfl rfl ?_
    refine sm_getR cx fl_X11_39 dX11_feed_57 (fun v57 => ?_)
    refine sm_callV (T := TX10) (N := 2) (toV := vI) cx [] rfl cv_X11_175 (fun a h => ct_X10_size (xZ X) a h) (Nat.le_trans (by decide) hfr) (Nat.le_trans (by decide) hlo) rfl (cat_le _ (Nat.le_of_ble_eq_true rfl)) dX11_feed_60 (fun v60 => ?_)
    exact sm_iret cx hr dX11_feed_63
  · refine sm_iconst (v := -1) cx dX11_feed_12 (by decide) ?_
    exact sm_iret cx hr dX11_feed_13
set_option maxRecDepth 100000 in
set_option maxHeartbeats 4000000 in
theorem ct_X11_feed (Z : Nat → Nat) {r0 : Option Nat} (a0 : Nat) (h0 : r0 = some a0) (x1 : Int32) (x2 : Int32) (x3 : Int32) (x4 : Int32) (x5 : Int32) : Ct yX11_feed cX11_feed 6 (some .int) 1 22 Z [.ref a0, .int x1, .int x2, .int x3, .int x4, .int x5] vI (f_X11_feed r0 x1 x2 x3 x4 x5) := by
  subst h0
  refine ct_of (lv0 := [(0, va_rf (some a0)), (1, .int x1), (2, .int x2), (3, .int x3), (4, .int x4), (5, .int x5)]) (by decide +kernel) (by simp [lg_sl, ct_i, ct_l, ct_r, rf_cat]) (by show _ = ([(0, Value.ref a0), (1, .int x1), (2, .int x2), (3, .int x3), (4, .int x4), (5, .int x5)] : List (Nat × Value)); simp [lv_args, ct_i, ct_l, ct_r, rf_cat]) (fun X cx hZ hfr hlo hr hin => ?_)
  subst hZ
  exact s_X11_feed cx (Nat.le_of_eq hfr.symm) (Nat.le_of_eq hlo.symm) hr (some a0) x1 x2 x3 x4 x5
/-! PolicyTree.fault()I -/
theorem dX11_fault_0 : decode cX11_fault 0 = .ok (.aload_n 0, 1) := by decide +kernel
theorem dX11_fault_1 : decode cX11_fault 1 = .ok (.getfield 52, 3) := by decide +kernel
theorem dX11_fault_4 : decode cX11_fault 4 = .ok (.ireturn, 1) := by decide +kernel
def f_X11_fault (r0 : Option Nat) : Mo Int32 := mb (gI 14 8 r0) (fun v1 => mp v1)
set_option maxRecDepth 100000 in
set_option maxHeartbeats 4000000 in
theorem s_X11_fault {X : Cg} (cx : Cx X cX11_fault RX11 1) (hfr : 0 ≤ (xR X).frames) (hlo : 0 ≤ (xR X).locals) (hr : (xM X).sig.returnType = (some .int)) (r0 : Option Nat) : Sim X 1 (FiM X vI) 0 [(0, va_rf r0)] [] (f_X11_fault r0) := by
  unfold f_X11_fault
  refine sm_aload_n cx 0 dX11_fault_0 rfl rfl ?_
  refine sm_getI cx fl_X11_52 dX11_fault_1 (fun v1 => ?_)
  exact sm_iret cx hr dX11_fault_4
set_option maxRecDepth 100000 in
set_option maxHeartbeats 4000000 in
theorem ct_X11_fault (Z : Nat → Nat) {r0 : Option Nat} (a0 : Nat) (h0 : r0 = some a0) : Ct yX11_fault cX11_fault 1 (some .int) 0 0 Z [.ref a0] vI (f_X11_fault r0) := by
  subst h0
  refine ct_of (lv0 := [(0, va_rf (some a0))]) (by decide +kernel) (by simp [lg_sl, ct_i, ct_l, ct_r, rf_cat]) (by show _ = ([(0, Value.ref a0)] : List (Nat × Value)); simp [lv_args, ct_i, ct_l, ct_r, rf_cat]) (fun X cx hZ hfr hlo hr hin => ?_)
  subst hZ
  exact s_X11_fault cx (Nat.le_of_eq hfr.symm) (Nat.le_of_eq hlo.symm) hr (some a0)
/-! PolicyTree.quarrels()I -/
theorem dX11_quarrels_0 : decode cX11_quarrels 0 = .ok (.aload_n 0, 1) := by decide +kernel
theorem dX11_quarrels_1 : decode cX11_quarrels 1 = .ok (.invokevirtual 242, 3) := by decide +kernel
theorem dX11_quarrels_4 : decode cX11_quarrels 4 = .ok (.istore_n 1, 1) := by decide +kernel
theorem dX11_quarrels_5 : decode cX11_quarrels 5 = .ok (.iconst 0, 1) := by decide +kernel
theorem dX11_quarrels_6 : decode cX11_quarrels 6 = .ok (.istore_n 2, 1) := by decide +kernel
theorem dX11_quarrels_7 : decode cX11_quarrels 7 = .ok (.iconst 0, 1) := by decide +kernel
theorem dX11_quarrels_8 : decode cX11_quarrels 8 = .ok (.istore_n 3, 1) := by decide +kernel
theorem dX11_quarrels_9 : decode cX11_quarrels 9 = .ok (.iload_n 3, 1) := by decide +kernel
theorem dX11_quarrels_10 : decode cX11_quarrels 10 = .ok (.aload_n 0, 1) := by decide +kernel
theorem dX11_quarrels_11 : decode cX11_quarrels 11 = .ok (.getfield 29, 3) := by decide +kernel
theorem dX11_quarrels_14 : decode cX11_quarrels 14 = .ok (.invokevirtual 88, 3) := by decide +kernel
theorem dX11_quarrels_17 : decode cX11_quarrels 17 = .ok (.if_icmp .ge 18, 3) := by decide +kernel
theorem dX11_quarrels_20 : decode cX11_quarrels 20 = .ok (.iload_n 2, 1) := by decide +kernel
theorem dX11_quarrels_21 : decode cX11_quarrels 21 = .ok (.aload_n 0, 1) := by decide +kernel
theorem dX11_quarrels_22 : decode cX11_quarrels 22 = .ok (.iload_n 3, 1) := by decide +kernel
theorem dX11_quarrels_23 : decode cX11_quarrels 23 = .ok (.iload_n 1, 1) := by decide +kernel
theorem dX11_quarrels_24 : decode cX11_quarrels 24 = .ok (.invokevirtual 245, 3) := by decide +kernel
theorem dX11_quarrels_27 : decode cX11_quarrels 27 = .ok (.iadd, 1) := by decide +kernel
theorem dX11_quarrels_28 : decode cX11_quarrels 28 = .ok (.istore_n 2, 1) := by decide +kernel
theorem dX11_quarrels_29 : decode cX11_quarrels 29 = .ok (.iinc 3 1, 3) := by decide +kernel
theorem dX11_quarrels_32 : decode cX11_quarrels 32 = .ok (.goto (-23), 3) := by decide +kernel
theorem dX11_quarrels_35 : decode cX11_quarrels 35 = .ok (.iload_n 2, 1) := by decide +kernel
theorem dX11_quarrels_36 : decode cX11_quarrels 36 = .ok (.ireturn, 1) := by decide +kernel
def f_X11_quarrels_9 (r0 : Option Nat) (x1 : Int32) : Nat → Int32 → Int32 → Mo Int32
  | 0, _, _ => mf
  | n + 1, x2, x3 => mb (gR 14 4 r0) (fun v11 => mb (mo 2 v11 (f_Jx4a65c_size_8abf5 v11)) (fun v14 => (if v14 ≤ x3 then mp x2 else mb (mo 14 r0 (f_X11_countQuarrels r0 x3 x1)) (fun v24 => (f_X11_quarrels_9 r0 x1 n) (x2 + v24) (x3 + 1)))))
set_option maxRecDepth 100000 in
set_option maxHeartbeats 4000000 in
theorem s_X11_quarrels_9 {X : Cg} (cx : Cx X cX11_quarrels RX11 4) (hfr : 4 ≤ (xR X).frames) (hlo : 92 ≤ (xR X).locals) (hr : (xM X).sig.returnType = (some .int)) (r0 : Option Nat) (x1 : Int32) : ∀ (n : Nat) (x2 : Int32) (x3 : Int32), Sim X 4 (FiM X vI) 9 [(0, va_rf r0), (1, .int x1), (2, .int x2), (3, .int x3)] [] (f_X11_quarrels_9 r0 x1 n x2 x3) := by
  intro n
  induction n with
  | zero =>
    intro _ _
    exact sm_mf
  | succ n ih =>
    intro x2 x3
    rw [f_X11_quarrels_9]
    refine sm_iload_n cx 3 dX11_quarrels_9 rfl rfl ?_
    refine sm_aload_n cx 0 dX11_quarrels_10 rfl rfl ?_
    refine sm_getR cx fl_X11_29 dX11_quarrels_11 (fun v11 => ?_)
    refine sm_callV (T := TJx4a65c) (N := 3) (toV := vI) cx [] rfl cv_X11_88 (fun a h => ct_Jx4a65c_size_8abf5 (xZ X) a h) (Nat.le_trans (by decide) hfr) (Nat.le_trans (by decide) hlo) rfl (cat_le _ (Nat.le_of_ble_eq_true rfl)) dX11_quarrels_14 (fun v14 => ?_)
    refine sm_icmp_ge (tgt := 35) cx dX11_quarrels_17 (by decide) ?_ ?_
    · refine sm_iload_n cx 2 dX11_quarrels_35 rfl rfl ?_
      exact sm_iret cx hr dX11_quarrels_36
    · refine sm_iload_n cx 2 dX11_quarrels_20 rfl rfl ?_
      refine sm_aload_n cx 0 dX11_quarrels_21 rfl rfl ?_
      refine sm_iload_n cx 3 dX11_quarrels_22 rfl rfl ?_
      refine sm_iload_n cx 1 dX11_quarrels_23 rfl rfl ?_
      refine sm_callV (T := TX11) (N := 14) (toV := vI) cx [.int x3, .int x1] rfl cv_X11_245 (fun a h => ct_X11_countQuarrels (xZ X) a h x3 x1) (Nat.le_trans (by decide) hfr) (Nat.le_trans (by decide) hlo) rfl (cat_le _ (Nat.le_of_ble_eq_true rfl)) dX11_quarrels_24 (fun v24 => ?_)
      refine sm_iadd cx dX11_quarrels_27 ?_
      refine sm_istore_n cx [(2, .int (x2 + v24)), (0, va_rf r0), (1, .int x1), (3, .int x3)] dX11_quarrels_28 rfl (by decide) rfl (nc1 rfl) rfl ?_
      refine sm_iinc cx 3 [(3, .int (x3 + 1)), (2, .int (x2 + v24)), (0, va_rf r0), (1, .int x1)] dX11_quarrels_29 rfl rfl (by decide) rfl (nc1 rfl) rfl ?_
      refine sm_goto (tgt := 9) cx dX11_quarrels_32 (by decide) ?_
      exact sm_lv [2, 3, 1, 0] rfl (ih (x2 + v24) (x3 + 1))
def f_X11_quarrels (r0 : Option Nat) : Mo Int32 := mb (mo 14 r0 (f_X11_settingsOfLast r0)) (fun v1 => f_X11_quarrels_9 r0 v1 fuL (0 : Int32) (0 : Int32))
set_option maxRecDepth 100000 in
set_option maxHeartbeats 4000000 in
theorem s_X11_quarrels {X : Cg} (cx : Cx X cX11_quarrels RX11 4) (hfr : 4 ≤ (xR X).frames) (hlo : 92 ≤ (xR X).locals) (hr : (xM X).sig.returnType = (some .int)) (r0 : Option Nat) : Sim X 4 (FiM X vI) 0 [(0, va_rf r0)] [] (f_X11_quarrels r0) := by
  unfold f_X11_quarrels
  refine sm_aload_n cx 0 dX11_quarrels_0 rfl rfl ?_
  refine sm_callV (T := TX11) (N := 14) (toV := vI) cx [] rfl cv_X11_242 (fun a h => ct_X11_settingsOfLast (xZ X) a h) (Nat.le_trans (by decide) hfr) (Nat.le_trans (by decide) hlo) rfl (cat_le _ (Nat.le_of_ble_eq_true rfl)) dX11_quarrels_1 (fun v1 => ?_)
  refine sm_istore_n cx [(1, .int v1), (0, va_rf r0)] dX11_quarrels_4 rfl (by decide) rfl (nc1 (rf_cat _)) rfl ?_
  refine sm_iconst (v := 0) cx dX11_quarrels_5 (by decide) ?_
  refine sm_istore_n cx [(2, .int (0 : Int32)), (1, .int v1), (0, va_rf r0)] dX11_quarrels_6 rfl (by decide) rfl (nc1 rfl) rfl ?_
  refine sm_iconst (v := 0) cx dX11_quarrels_7 (by decide) ?_
  refine sm_istore_n cx [(3, .int (0 : Int32)), (2, .int (0 : Int32)), (1, .int v1), (0, va_rf r0)] dX11_quarrels_8 rfl (by decide) rfl (nc1 rfl) rfl ?_
  exact sm_lv [3, 2, 1, 0] rfl (s_X11_quarrels_9 cx hfr hlo hr r0 v1 fuL (0 : Int32) (0 : Int32))
set_option maxRecDepth 100000 in
set_option maxHeartbeats 4000000 in
theorem ct_X11_quarrels (Z : Nat → Nat) {r0 : Option Nat} (a0 : Nat) (h0 : r0 = some a0) : Ct yX11_quarrels cX11_quarrels 4 (some .int) 4 92 Z [.ref a0] vI (f_X11_quarrels r0) := by
  subst h0
  refine ct_of (lv0 := [(0, va_rf (some a0))]) (by decide +kernel) (by simp [lg_sl, ct_i, ct_l, ct_r, rf_cat]) (by show _ = ([(0, Value.ref a0)] : List (Nat × Value)); simp [lv_args, ct_i, ct_l, ct_r, rf_cat]) (fun X cx hZ hfr hlo hr hin => ?_)
  subst hZ
  exact s_X11_quarrels cx (Nat.le_of_eq hfr.symm) (Nat.le_of_eq hlo.symm) hr (some a0)
/-! PolicyTree.count(I)I -/
theorem dX11_count_0 : decode cX11_count 0 = .ok (.iload_n 1, 1) := by decide +kernel
theorem dX11_count_1 : decode cX11_count 1 = .ok (.tableswitch 96 0 6 #[43, 51, 59, 67, 75, 83, 88], 43) := by decide +kernel
theorem dX11_count_44 : decode cX11_count 44 = .ok (.aload_n 0, 1) := by decide +kernel
theorem dX11_count_45 : decode cX11_count 45 = .ok (.getfield 10, 3) := by decide +kernel
theorem dX11_count_48 : decode cX11_count 48 = .ok (.invokevirtual 88, 3) := by decide +kernel
theorem dX11_count_51 : decode cX11_count 51 = .ok (.ireturn, 1) := by decide +kernel
theorem dX11_count_52 : decode cX11_count 52 = .ok (.aload_n 0, 1) := by decide +kernel
theorem dX11_count_53 : decode cX11_count 53 = .ok (.getfield 16, 3) := by decide +kernel
theorem dX11_count_56 : decode cX11_count 56 = .ok (.invokevirtual 88, 3) := by decide +kernel
theorem dX11_count_59 : decode cX11_count 59 = .ok (.ireturn, 1) := by decide +kernel
theorem dX11_count_60 : decode cX11_count 60 = .ok (.aload_n 0, 1) := by decide +kernel
theorem dX11_count_61 : decode cX11_count 61 = .ok (.getfield 22, 3) := by decide +kernel
theorem dX11_count_64 : decode cX11_count 64 = .ok (.invokevirtual 144, 3) := by decide +kernel
theorem dX11_count_67 : decode cX11_count 67 = .ok (.ireturn, 1) := by decide +kernel
theorem dX11_count_68 : decode cX11_count 68 = .ok (.aload_n 0, 1) := by decide +kernel
theorem dX11_count_69 : decode cX11_count 69 = .ok (.getfield 26, 3) := by decide +kernel
theorem dX11_count_72 : decode cX11_count 72 = .ok (.invokevirtual 88, 3) := by decide +kernel
theorem dX11_count_75 : decode cX11_count 75 = .ok (.ireturn, 1) := by decide +kernel
theorem dX11_count_76 : decode cX11_count 76 = .ok (.aload_n 0, 1) := by decide +kernel
theorem dX11_count_77 : decode cX11_count 77 = .ok (.getfield 29, 3) := by decide +kernel
theorem dX11_count_80 : decode cX11_count 80 = .ok (.invokevirtual 88, 3) := by decide +kernel
theorem dX11_count_83 : decode cX11_count 83 = .ok (.ireturn, 1) := by decide +kernel
theorem dX11_count_84 : decode cX11_count 84 = .ok (.aload_n 0, 1) := by decide +kernel
theorem dX11_count_85 : decode cX11_count 85 = .ok (.invokevirtual 252, 3) := by decide +kernel
theorem dX11_count_88 : decode cX11_count 88 = .ok (.ireturn, 1) := by decide +kernel
theorem dX11_count_89 : decode cX11_count 89 = .ok (.aload_n 0, 1) := by decide +kernel
theorem dX11_count_90 : decode cX11_count 90 = .ok (.getfield 39, 3) := by decide +kernel
theorem dX11_count_93 : decode cX11_count 93 = .ok (.invokevirtual 175, 3) := by decide +kernel
theorem dX11_count_96 : decode cX11_count 96 = .ok (.ireturn, 1) := by decide +kernel
theorem dX11_count_97 : decode cX11_count 97 = .ok (.iconst (-1), 1) := by decide +kernel
theorem dX11_count_98 : decode cX11_count 98 = .ok (.ireturn, 1) := by decide +kernel
def f_X11_count (r0 : Option Nat) (x1 : Int32) : Mo Int32 := (if x1 = 0 then mb (gR 14 0 r0) (fun v45 => mb (mo 2 v45 (f_Jx4a65c_size_8abf5 v45)) (fun v48 => mp v48)) else (if x1 = 1 then mb (gR 14 1 r0) (fun v53 => mb (mo 2 v53 (f_Jx4a65c_size_8abf5 v53)) (fun v56 => mp v56)) else (if x1 = 2 then mb (gR 14 2 r0) (fun v61 => mb (mo 6 v61 (f_X3_size v61)) (fun v64 => mp v64)) else (if x1 = 3 then mb (gR 14 3 r0) (fun v69 => mb (mo 2 v69 (f_Jx4a65c_size_8abf5 v69)) (fun v72 => mp v72)) else (if x1 = 4 then mb (gR 14 4 r0) (fun v77 => mb (mo 2 v77 (f_Jx4a65c_size_8abf5 v77)) (fun v80 => mp v80)) else (if x1 = 5 then mb (mo 14 r0 (f_X11_countLasting r0)) (fun v85 => mp v85) else (if x1 = 6 then mb (gR 14 6 r0) (fun v90 => mb (mo 13 v90 (f_X10_size v90)) (fun v93 => mp v93)) else mp (-1 : Int32))))))))
set_option maxRecDepth 100000 in
set_option maxHeartbeats 4000000 in
theorem s_X11_count {X : Cg} (cx : Cx X cX11_count RX11 2) (hfr : 4 ≤ (xR X).frames) (hlo : 86 ≤ (xR X).locals) (hr : (xM X).sig.returnType = (some .int)) (r0 : Option Nat) (x1 : Int32) : Sim X 2 (FiM X vI) 0 [(0, va_rf r0), (1, .int x1)] [] (f_X11_count r0 x1) := by
  unfold f_X11_count
  refine sm_iload_n cx 1 dX11_count_0 rfl rfl ?_
  refine sm_tsw7 (t0 := 44) (t1 := 52) (t2 := 60) (t3 := 68) (t4 := 76) (t5 := 84) (t6 := 89) (td := 97) cx dX11_count_1 (by decide) (by decide) (by decide) (by decide) (by decide) (by decide) (by decide) (by decide) ?_ ?_ ?_ ?_ ?_ ?_ ?_ ?_
  · refine sm_aload_n cx 0 dX11_count_44 rfl rfl ?_
    refine sm_getR cx fl_X11_10 dX11_count_45 (fun v45 => ?_)
    refine sm_callV (T := TJx4a65c) (N := 3) (toV := vI) cx [] rfl cv_X11_88 (fun a h => ct_Jx4a65c_size_8abf5 (xZ X) a h) (Nat.le_trans (by decide) hfr) (Nat.le_trans (by decide) hlo) rfl (cat_le _ (Nat.le_of_ble_eq_true rfl)) dX11_count_48 (fun v48 => ?_)
    exact sm_iret cx hr dX11_count_51
  · refine sm_aload_n cx 0 dX11_count_52 rfl rfl ?_
    refine sm_getR cx fl_X11_16 dX11_count_53 (fun v53 => ?_)
    refine sm_callV (T := TJx4a65c) (N := 3) (toV := vI) cx [] rfl cv_X11_88 (fun a h => ct_Jx4a65c_size_8abf5 (xZ X) a h) (Nat.le_trans (by decide) hfr) (Nat.le_trans (by decide) hlo) rfl (cat_le _ (Nat.le_of_ble_eq_true rfl)) dX11_count_56 (fun v56 => ?_)
    exact sm_iret cx hr dX11_count_59
  · refine sm_aload_n cx 0 dX11_count_60 rfl rfl ?_
    refine sm_getR cx fl_X11_22 dX11_count_61 (fun v61 => ?_)
    refine sm_callV (T := TX3) (N := 3) (toV := vI) cx [] rfl cv_X11_144 (fun a h => ct_X3_size (xZ X) a h) (Nat.le_trans (by decide) hfr) (Nat.le_trans (by decide) hlo) rfl (cat_le _ (Nat.le_of_ble_eq_true rfl)) dX11_count_64 (fun v64 => ?_)
    exact sm_iret cx hr dX11_count_67
  · refine sm_aload_n cx 0 dX11_count_68 rfl rfl ?_
    refine sm_getR cx fl_X11_26 dX11_count_69 (fun v69 => ?_)
    refine sm_callV (T := TJx4a65c) (N := 3) (toV := vI) cx [] rfl cv_X11_88 (fun a h => ct_Jx4a65c_size_8abf5 (xZ X) a h) (Nat.le_trans (by decide) hfr) (Nat.le_trans (by decide) hlo) rfl (cat_le _ (Nat.le_of_ble_eq_true rfl)) dX11_count_72 (fun v72 => ?_)
    exact sm_iret cx hr dX11_count_75
  · refine sm_aload_n cx 0 dX11_count_76 rfl rfl ?_
    refine sm_getR cx fl_X11_29 dX11_count_77 (fun v77 => ?_)
    refine sm_callV (T := TJx4a65c) (N := 3) (toV := vI) cx [] rfl cv_X11_88 (fun a h => ct_Jx4a65c_size_8abf5 (xZ X) a h) (Nat.le_trans (by decide) hfr) (Nat.le_trans (by decide) hlo) rfl (cat_le _ (Nat.le_of_ble_eq_true rfl)) dX11_count_80 (fun v80 => ?_)
    exact sm_iret cx hr dX11_count_83
  · refine sm_aload_n cx 0 dX11_count_84 rfl rfl ?_
    refine sm_callV (T := TX11) (N := 14) (toV := vI) cx [] rfl cv_X11_252 (fun a h => ct_X11_countLasting (xZ X) a h) (Nat.le_trans (by decide) hfr) (Nat.le_trans (by decide) hlo) rfl (cat_le _ (Nat.le_of_ble_eq_true rfl)) dX11_count_85 (fun v85 => ?_)
    exact sm_iret cx hr dX11_count_88
  · refine sm_aload_n cx 0 dX11_count_89 rfl rfl ?_
    refine sm_getR cx fl_X11_39 dX11_count_90 (fun v90 => ?_)
    refine sm_callV (T := TX10) (N := 2) (toV := vI) cx [] rfl cv_X11_175 (fun a h => ct_X10_size (xZ X) a h) (Nat.le_trans (by decide) hfr) (Nat.le_trans (by decide) hlo) rfl (cat_le _ (Nat.le_of_ble_eq_true rfl)) dX11_count_93 (fun v93 => ?_)
    exact sm_iret cx hr dX11_count_96
  · refine sm_iconst (v := -1) cx dX11_count_97 (by decide) ?_
    exact sm_iret cx hr dX11_count_98
set_option maxRecDepth 100000 in
set_option maxHeartbeats 4000000 in
theorem ct_X11_count (Z : Nat → Nat) {r0 : Option Nat} (a0 : Nat) (h0 : r0 = some a0) (x1 : Int32) : Ct yX11_count cX11_count 2 (some .int) 4 86 Z [.ref a0, .int x1] vI (f_X11_count r0 x1) := by
  subst h0
  refine ct_of (lv0 := [(0, va_rf (some a0)), (1, .int x1)]) (by decide +kernel) (by simp [lg_sl, ct_i, ct_l, ct_r, rf_cat]) (by show _ = ([(0, Value.ref a0), (1, .int x1)] : List (Nat × Value)); simp [lv_args, ct_i, ct_l, ct_r, rf_cat]) (fun X cx hZ hfr hlo hr hin => ?_)
  subst hZ
  exact s_X11_count cx (Nat.le_of_eq hfr.symm) (Nat.le_of_eq hlo.symm) hr (some a0) x1
