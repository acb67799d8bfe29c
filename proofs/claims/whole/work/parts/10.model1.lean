theorem inT_X12 : ∀ w ∈ u_ws RX12 TX12 47, w ∈ TB := by
  intro w h
  obtain ⟨k, hk, rfl⟩ := List.mem_map.mp h
  have hk := List.mem_range.mp hk
  match k, hk with
  | 0, _ => exact wd_6_174
  | 1, _ => exact wd_6_176
  | 2, _ => exact wd_6_178
  | 3, _ => exact wd_6_180
  | 4, _ => exact wd_6_182
  | 5, _ => exact wd_6_184
  | 6, _ => exact wd_6_186
  | 7, _ => exact wd_6_188
  | 8, _ => exact wd_6_190
  | 9, _ => exact wd_6_192
  | 10, _ => exact wd_6_194
  | 11, _ => exact wd_6_196
  | 12, _ => exact wd_6_198
  | 13, _ => exact wd_6_200
  | 14, _ => exact wd_6_202
  | 15, _ => exact wd_6_204
  | 16, _ => exact wd_6_206
  | 17, _ => exact wd_6_208
  | 18, _ => exact wd_6_210
  | 19, _ => exact wd_6_212
  | 20, _ => exact wd_6_214
  | 21, _ => exact wd_6_216
  | 22, _ => exact wd_6_218
  | 23, _ => exact wd_6_220
  | 24, _ => exact wd_6_222
  | 25, _ => exact wd_6_224
  | 26, _ => exact wd_6_226
  | 27, _ => exact wd_6_228
  | 28, _ => exact wd_6_230
  | 29, _ => exact wd_6_232
  | 30, _ => exact wd_6_234
  | 31, _ => exact wd_6_236
  | 32, _ => exact wd_6_238
  | 33, _ => exact wd_7_0
  | 34, _ => exact wd_7_2
  | 35, _ => exact wd_7_4
  | 36, _ => exact wd_7_6
  | 37, _ => exact wd_7_8
  | 38, _ => exact wd_7_10
  | 39, _ => exact wd_7_12
  | 40, _ => exact wd_7_14
  | 41, _ => exact wd_7_16
  | 42, _ => exact wd_7_18
  | 43, _ => exact wd_7_20
  | 44, _ => exact wd_7_22
  | 45, _ => exact wd_7_24
  | 46, _ => exact wd_7_26
  | k + 47, hk => exact absurd hk (by omega)
theorem fl_X12_9 : FldOk RX12 9 15 1 (.array .int) true true := ⟨RX12, TX12, 47, "PolicyTreeModel", tyX12, rfl, by decide, inT_X12, tyX12_ok, nmX12, wd_6_128, Or.inl rfl, tyX12_ok 1 (by decide), rfl, fun _ => rfl⟩
theorem fl_X12_13 : FldOk RX12 13 15 2 (.array .boolean) true true := ⟨RX12, TX12, 47, "PolicyTreeModel", tyX12, rfl, by decide, inT_X12, tyX12_ok, nmX12, wd_6_129, Or.inl rfl, tyX12_ok 2 (by decide), rfl, fun _ => rfl⟩
theorem fl_X12_17 : FldOk RX12 17 15 4 (.array .int) true true := ⟨RX12, TX12, 47, "PolicyTreeModel", tyX12, rfl, by decide, inT_X12, tyX12_ok, nmX12, wd_6_131, Or.inl rfl, tyX12_ok 4 (by decide), rfl, fun _ => rfl⟩
theorem fl_X12_20 : FldOk RX12 20 15 5 (.array .int) true true := ⟨RX12, TX12, 47, "PolicyTreeModel", tyX12, rfl, by decide, inT_X12, tyX12_ok, nmX12, wd_6_132, Or.inl rfl, tyX12_ok 5 (by decide), rfl, fun _ => rfl⟩
theorem fl_X12_23 : FldOk RX12 23 15 6 (.array .int) true true := ⟨RX12, TX12, 47, "PolicyTreeModel", tyX12, rfl, by decide, inT_X12, tyX12_ok, nmX12, wd_6_133, Or.inl rfl, tyX12_ok 6 (by decide), rfl, fun _ => rfl⟩
theorem fl_X12_26 : FldOk RX12 26 15 8 (.array .int) true true := ⟨RX12, TX12, 47, "PolicyTreeModel", tyX12, rfl, by decide, inT_X12, tyX12_ok, nmX12, wd_6_135, Or.inl rfl, tyX12_ok 8 (by decide), rfl, fun _ => rfl⟩
theorem fl_X12_29 : FldOk RX12 29 15 10 (.array .int) true true := ⟨RX12, TX12, 47, "PolicyTreeModel", tyX12, rfl, by decide, inT_X12, tyX12_ok, nmX12, wd_6_137, Or.inl rfl, tyX12_ok 10 (by decide), rfl, fun _ => rfl⟩
theorem fl_X12_32 : FldOk RX12 32 15 11 (.array .int) true true := ⟨RX12, TX12, 47, "PolicyTreeModel", tyX12, rfl, by decide, inT_X12, tyX12_ok, nmX12, wd_6_138, Or.inl rfl, tyX12_ok 11 (by decide), rfl, fun _ => rfl⟩
theorem fl_X12_35 : FldOk RX12 35 15 13 (.array .int) true true := ⟨RX12, TX12, 47, "PolicyTreeModel", tyX12, rfl, by decide, inT_X12, tyX12_ok, nmX12, wd_6_140, Or.inl rfl, tyX12_ok 13 (by decide), rfl, fun _ => rfl⟩
theorem fl_X12_38 : FldOk RX12 38 15 14 (.array .byte) true true := ⟨RX12, TX12, 47, "PolicyTreeModel", tyX12, rfl, by decide, inT_X12, tyX12_ok, nmX12, wd_6_141, Or.inl rfl, tyX12_ok 14 (by decide), rfl, fun _ => rfl⟩
theorem fl_X12_42 : FldOk RX12 42 15 19 .int false true := ⟨RX12, TX12, 47, "PolicyTreeModel", tyX12, rfl, by decide, inT_X12, tyX12_ok, nmX12, wd_6_146, Or.inl rfl, tyX12_ok 19 (by decide), rfl, fun _ => rfl⟩
theorem fl_X12_46 : FldOk RX12 46 15 21 (.array .int) false true := ⟨RX12, TX12, 47, "PolicyTreeModel", tyX12, rfl, by decide, inT_X12, tyX12_ok, nmX12, wd_6_148, Or.inl rfl, tyX12_ok 21 (by decide), rfl, fun _ => rfl⟩
theorem fl_X12_49 : FldOk RX12 49 15 23 (.array .boolean) true true := ⟨RX12, TX12, 47, "PolicyTreeModel", tyX12, rfl, by decide, inT_X12, tyX12_ok, nmX12, wd_6_150, Or.inl rfl, tyX12_ok 23 (by decide), rfl, fun _ => rfl⟩
theorem fl_X12_52 : FldOk RX12 52 15 24 (.array .int) true true := ⟨RX12, TX12, 47, "PolicyTreeModel", tyX12, rfl, by decide, inT_X12, tyX12_ok, nmX12, wd_6_151, Or.inl rfl, tyX12_ok 24 (by decide), rfl, fun _ => rfl⟩
theorem fl_X12_55 : FldOk RX12 55 15 25 (.array .int) true true := ⟨RX12, TX12, 47, "PolicyTreeModel", tyX12, rfl, by decide, inT_X12, tyX12_ok, nmX12, wd_6_152, Or.inl rfl, tyX12_ok 25 (by decide), rfl, fun _ => rfl⟩
theorem fl_X12_58 : FldOk RX12 58 15 26 (.array .int) true true := ⟨RX12, TX12, 47, "PolicyTreeModel", tyX12, rfl, by decide, inT_X12, tyX12_ok, nmX12, wd_6_153, Or.inl rfl, tyX12_ok 26 (by decide), rfl, fun _ => rfl⟩
theorem fl_X12_61 : FldOk RX12 61 15 27 (.array .boolean) true true := ⟨RX12, TX12, 47, "PolicyTreeModel", tyX12, rfl, by decide, inT_X12, tyX12_ok, nmX12, wd_6_154, Or.inl rfl, tyX12_ok 27 (by decide), rfl, fun _ => rfl⟩
theorem fl_X12_64 : FldOk RX12 64 15 28 (.array .boolean) true true := ⟨RX12, TX12, 47, "PolicyTreeModel", tyX12, rfl, by decide, inT_X12, tyX12_ok, nmX12, wd_6_155, Or.inl rfl, tyX12_ok 28 (by decide), rfl, fun _ => rfl⟩
theorem fl_X12_67 : FldOk RX12 67 15 29 (.array .int) true true := ⟨RX12, TX12, 47, "PolicyTreeModel", tyX12, rfl, by decide, inT_X12, tyX12_ok, nmX12, wd_6_156, Or.inl rfl, tyX12_ok 29 (by decide), rfl, fun _ => rfl⟩
theorem fl_X12_70 : FldOk RX12 70 15 30 (.array .int) true true := ⟨RX12, TX12, 47, "PolicyTreeModel", tyX12, rfl, by decide, inT_X12, tyX12_ok, nmX12, wd_6_157, Or.inl rfl, tyX12_ok 30 (by decide), rfl, fun _ => rfl⟩
theorem fl_X12_73 : FldOk RX12 73 15 31 (.array .int) true true := ⟨RX12, TX12, 47, "PolicyTreeModel", tyX12, rfl, by decide, inT_X12, tyX12_ok, nmX12, wd_6_158, Or.inl rfl, tyX12_ok 31 (by decide), rfl, fun _ => rfl⟩
theorem fl_X12_76 : FldOk RX12 76 15 33 (.array .int) true true := ⟨RX12, TX12, 47, "PolicyTreeModel", tyX12, rfl, by decide, inT_X12, tyX12_ok, nmX12, wd_6_160, Or.inl rfl, tyX12_ok 33 (by decide), rfl, fun _ => rfl⟩
theorem fl_X12_79 : FldOk RX12 79 15 34 (.array .int) true true := ⟨RX12, TX12, 47, "PolicyTreeModel", tyX12, rfl, by decide, inT_X12, tyX12_ok, nmX12, wd_6_161, Or.inl rfl, tyX12_ok 34 (by decide), rfl, fun _ => rfl⟩
theorem fl_X12_82 : FldOk RX12 82 15 35 (.array .int) true true := ⟨RX12, TX12, 47, "PolicyTreeModel", tyX12, rfl, by decide, inT_X12, tyX12_ok, nmX12, wd_6_162, Or.inl rfl, tyX12_ok 35 (by decide), rfl, fun _ => rfl⟩
theorem fl_X12_85 : FldOk RX12 85 15 37 (.array .int) true true := ⟨RX12, TX12, 47, "PolicyTreeModel", tyX12, rfl, by decide, inT_X12, tyX12_ok, nmX12, wd_6_164, Or.inl rfl, tyX12_ok 37 (by decide), rfl, fun _ => rfl⟩
theorem fl_X12_88 : FldOk RX12 88 15 40 (.array .int) true true := ⟨RX12, TX12, 47, "PolicyTreeModel", tyX12, rfl, by decide, inT_X12, tyX12_ok, nmX12, wd_6_167, Or.inl rfl, tyX12_ok 40 (by decide), rfl, fun _ => rfl⟩
theorem fl_X12_91 : FldOk RX12 91 15 44 (.array .int) true true := ⟨RX12, TX12, 47, "PolicyTreeModel", tyX12, rfl, by decide, inT_X12, tyX12_ok, nmX12, wd_6_171, Or.inl rfl, tyX12_ok 44 (by decide), rfl, fun _ => rfl⟩
theorem fl_X12_94 : FldOk RX12 94 15 3 .int false true := ⟨RX12, TX12, 47, "PolicyTreeModel", tyX12, rfl, by decide, inT_X12, tyX12_ok, nmX12, wd_6_130, Or.inl rfl, tyX12_ok 3 (by decide), rfl, fun _ => rfl⟩
theorem fl_X12_97 : FldOk RX12 97 15 0 .int false true := ⟨RX12, TX12, 47, "PolicyTreeModel", tyX12, rfl, by decide, inT_X12, tyX12_ok, nmX12, wd_6_127, Or.inl rfl, tyX12_ok 0 (by decide), rfl, fun _ => rfl⟩
theorem fl_X12_108 : FldOk RX12 108 15 7 .int false true := ⟨RX12, TX12, 47, "PolicyTreeModel", tyX12, rfl, by decide, inT_X12, tyX12_ok, nmX12, wd_6_134, Or.inl rfl, tyX12_ok 7 (by decide), rfl, fun _ => rfl⟩
theorem fl_X12_111 : FldOk RX12 111 15 9 .int false true := ⟨RX12, TX12, 47, "PolicyTreeModel", tyX12, rfl, by decide, inT_X12, tyX12_ok, nmX12, wd_6_136, Or.inl rfl, tyX12_ok 9 (by decide), rfl, fun _ => rfl⟩
theorem fl_X12_118 : FldOk RX12 118 15 12 .int false true := ⟨RX12, TX12, 47, "PolicyTreeModel", tyX12, rfl, by decide, inT_X12, tyX12_ok, nmX12, wd_6_139, Or.inl rfl, tyX12_ok 12 (by decide), rfl, fun _ => rfl⟩
theorem fl_X12_128 : FldOk RX12 128 15 15 .int false true := ⟨RX12, TX12, 47, "PolicyTreeModel", tyX12, rfl, by decide, inT_X12, tyX12_ok, nmX12, wd_6_142, Or.inl rfl, tyX12_ok 15 (by decide), rfl, fun _ => rfl⟩
theorem cv_X12_104 : CalV RX12 104 RX12 yX12_bad cX12_bad 3 (some .boolean) 2 := ⟨wd_V wd_7_42 wd_7_44 wp_3_0 wd_1_16 wd_7_45, rfl, by decide +kernel, by decide +kernel, by decide +kernel⟩
theorem cv_X12_100 : CalV RX12 100 RX12 yX12_none cX12_none 3 (some .boolean) 2 := ⟨wd_V wd_7_38 wd_7_40 wp_2_15 wd_1_16 wd_7_41, rfl, by decide +kernel, by decide +kernel, by decide +kernel⟩
theorem cv_X12_114 : CalV RX12 114 RX12 yX12_allIn cX12_allIn 5 (some .int) 1 := ⟨wd_V wd_7_74 wd_7_76 wp_3_1 wd_1_16 wd_7_77, rfl, by decide +kernel, by decide +kernel, by decide +kernel⟩
theorem cv_X12_125 : CalV RX12 125 RX12 yX12_tells cX12_tells 3 (some .boolean) 2 := ⟨wd_V wd_7_89 wd_7_91 wp_3_2 wd_1_16 wd_7_92, rfl, by decide +kernel, by decide +kernel, by decide +kernel⟩
theorem cs_X12_121 : CalS RX12 121 yX12_isSetting cX12_isSetting 1 (some .boolean) 1 := ⟨wd_S wd_7_86 wd_7_87 wd_1_16 wd_7_88, by decide +kernel, by decide +kernel, by decide +kernel⟩
/-! PolicyTreeModel.<init>()V -/
theorem dX12_init_0 : decode cX12_init 0 = .ok (.aload_n 0, 1) := by decide +kernel
theorem dX12_init_1 : decode cX12_init 1 = .ok (.invokespecial 1, 3) := by decide +kernel
theorem dX12_init_4 : decode cX12_init 4 = .ok (.aload_n 0, 1) := by decide +kernel
theorem dX12_init_5 : decode cX12_init 5 = .ok (.bipush 60, 2) := by decide +kernel
theorem dX12_init_7 : decode cX12_init 7 = .ok (.newarray .int, 2) := by decide +kernel
theorem dX12_init_9 : decode cX12_init 9 = .ok (.putfield 9, 3) := by decide +kernel
theorem dX12_init_12 : decode cX12_init 12 = .ok (.aload_n 0, 1) := by decide +kernel
theorem dX12_init_13 : decode cX12_init 13 = .ok (.bipush 60, 2) := by decide +kernel
theorem dX12_init_15 : decode cX12_init 15 = .ok (.newarray .boolean, 2) := by decide +kernel
theorem dX12_init_17 : decode cX12_init 17 = .ok (.putfield 13, 3) := by decide +kernel
theorem dX12_init_20 : decode cX12_init 20 = .ok (.aload_n 0, 1) := by decide +kernel
theorem dX12_init_21 : decode cX12_init 21 = .ok (.bipush 60, 2) := by decide +kernel
theorem dX12_init_23 : decode cX12_init 23 = .ok (.newarray .int, 2) := by decide +kernel
theorem dX12_init_25 : decode cX12_init 25 = .ok (.putfield 17, 3) := by decide +kernel
theorem dX12_init_28 : decode cX12_init 28 = .ok (.aload_n 0, 1) := by decide +kernel
theorem dX12_init_29 : decode cX12_init 29 = .ok (.sipush 480, 3) := by decide +kernel
theorem dX12_init_32 : decode cX12_init 32 = .ok (.newarray .int, 2) := by decide +kernel
theorem dX12_init_34 : decode cX12_init 34 = .ok (.putfield 20, 3) := by decide +kernel
theorem dX12_init_37 : decode cX12_init 37 = .ok (.aload_n 0, 1) := by decide +kernel
theorem dX12_init_38 : decode cX12_init 38 = .ok (.bipush 60, 2) := by decide +kernel
theorem dX12_init_40 : decode cX12_init 40 = .ok (.newarray .int, 2) := by decide +kernel
theorem dX12_init_42 : decode cX12_init 42 = .ok (.putfield 23, 3) := by decide +kernel
theorem dX12_init_45 : decode cX12_init 45 = .ok (.aload_n 0, 1) := by decide +kernel
theorem dX12_init_46 : decode cX12_init 46 = .ok (.bipush 20, 2) := by decide +kernel
theorem dX12_init_48 : decode cX12_init 48 = .ok (.newarray .int, 2) := by decide +kernel
theorem dX12_init_50 : decode cX12_init 50 = .ok (.putfield 26, 3) := by decide +kernel
theorem dX12_init_53 : decode cX12_init 53 = .ok (.aload_n 0, 1) := by decide +kernel
theorem dX12_init_54 : decode cX12_init 54 = .ok (.bipush 40, 2) := by decide +kernel
theorem dX12_init_56 : decode cX12_init 56 = .ok (.newarray .int, 2) := by decide +kernel
theorem dX12_init_58 : decode cX12_init 58 = .ok (.putfield 29, 3) := by decide +kernel
theorem dX12_init_61 : decode cX12_init 61 = .ok (.aload_n 0, 1) := by decide +kernel
theorem dX12_init_62 : decode cX12_init 62 = .ok (.sipush 480, 3) := by decide +kernel
theorem dX12_init_65 : decode cX12_init 65 = .ok (.newarray .int, 2) := by decide +kernel
theorem dX12_init_67 : decode cX12_init 67 = .ok (.putfield 32, 3) := by decide +kernel
theorem dX12_init_70 : decode cX12_init 70 = .ok (.aload_n 0, 1) := by decide +kernel
theorem dX12_init_71 : decode cX12_init 71 = .ok (.bipush 12, 2) := by decide +kernel
theorem dX12_init_73 : decode cX12_init 73 = .ok (.newarray .int, 2) := by decide +kernel
theorem dX12_init_75 : decode cX12_init 75 = .ok (.putfield 35, 3) := by decide +kernel
theorem dX12_init_78 : decode cX12_init 78 = .ok (.aload_n 0, 1) := by decide +kernel
theorem dX12_init_79 : decode cX12_init 79 = .ok (.sipush 200, 3) := by decide +kernel
theorem dX12_init_82 : decode cX12_init 82 = .ok (.newarray .byte, 2) := by decide +kernel
theorem dX12_init_84 : decode cX12_init 84 = .ok (.putfield 38, 3) := by decide +kernel
theorem dX12_init_87 : decode cX12_init 87 = .ok (.aload_n 0, 1) := by decide +kernel
theorem dX12_init_88 : decode cX12_init 88 = .ok (.iconst (-1), 1) := by decide +kernel
theorem dX12_init_89 : decode cX12_init 89 = .ok (.putfield 42, 3) := by decide +kernel
theorem dX12_init_92 : decode cX12_init 92 = .ok (.aload_n 0, 1) := by decide +kernel
theorem dX12_init_93 : decode cX12_init 93 = .ok (.sipush 256, 3) := by decide +kernel
theorem dX12_init_96 : decode cX12_init 96 = .ok (.newarray .int, 2) := by decide +kernel
theorem dX12_init_98 : decode cX12_init 98 = .ok (.putfield 46, 3) := by decide +kernel
theorem dX12_init_101 : decode cX12_init 101 = .ok (.aload_n 0, 1) := by decide +kernel
theorem dX12_init_102 : decode cX12_init 102 = .ok (.bipush 64, 2) := by decide +kernel
theorem dX12_init_104 : decode cX12_init 104 = .ok (.newarray .boolean, 2) := by decide +kernel
theorem dX12_init_106 : decode cX12_init 106 = .ok (.putfield 49, 3) := by decide +kernel
theorem dX12_init_109 : decode cX12_init 109 = .ok (.aload_n 0, 1) := by decide +kernel
theorem dX12_init_110 : decode cX12_init 110 = .ok (.bipush 100, 2) := by decide +kernel
theorem dX12_init_112 : decode cX12_init 112 = .ok (.newarray .int, 2) := by decide +kernel
theorem dX12_init_114 : decode cX12_init 114 = .ok (.putfield 52, 3) := by decide +kernel
theorem dX12_init_117 : decode cX12_init 117 = .ok (.aload_n 0, 1) := by decide +kernel
theorem dX12_init_118 : decode cX12_init 118 = .ok (.bipush 100, 2) := by decide +kernel
theorem dX12_init_120 : decode cX12_init 120 = .ok (.newarray .int, 2) := by decide +kernel
theorem dX12_init_122 : decode cX12_init 122 = .ok (.putfield 55, 3) := by decide +kernel
theorem dX12_init_125 : decode cX12_init 125 = .ok (.aload_n 0, 1) := by decide +kernel
theorem dX12_init_126 : decode cX12_init 126 = .ok (.bipush 100, 2) := by decide +kernel
theorem dX12_init_128 : decode cX12_init 128 = .ok (.newarray .int, 2) := by decide +kernel
theorem dX12_init_130 : decode cX12_init 130 = .ok (.putfield 58, 3) := by decide +kernel
theorem dX12_init_133 : decode cX12_init 133 = .ok (.aload_n 0, 1) := by decide +kernel
theorem dX12_init_134 : decode cX12_init 134 = .ok (.bipush 100, 2) := by decide +kernel
theorem dX12_init_136 : decode cX12_init 136 = .ok (.newarray .boolean, 2) := by decide +kernel
theorem dX12_init_138 : decode cX12_init 138 = .ok (.putfield 61, 3) := by decide +kernel
theorem dX12_init_141 : decode cX12_init 141 = .ok (.aload_n 0, 1) := by decide +kernel
theorem dX12_init_142 : decode cX12_init 142 = .ok (.bipush 100, 2) := by decide +kernel
theorem dX12_init_144 : decode cX12_init 144 = .ok (.newarray .boolean, 2) := by decide +kernel
theorem dX12_init_146 : decode cX12_init 146 = .ok (.putfield 64, 3) := by decide +kernel
theorem dX12_init_149 : decode cX12_init 149 = .ok (.aload_n 0, 1) := by decide +kernel
theorem dX12_init_150 : decode cX12_init 150 = .ok (.bipush 100, 2) := by decide +kernel
theorem dX12_init_152 : decode cX12_init 152 = .ok (.newarray .int, 2) := by decide +kernel
theorem dX12_init_154 : decode cX12_init 154 = .ok (.putfield 67, 3) := by decide +kernel
theorem dX12_init_157 : decode cX12_init 157 = .ok (.aload_n 0, 1) := by decide +kernel
theorem dX12_init_158 : decode cX12_init 158 = .ok (.bipush 100, 2) := by decide +kernel
theorem dX12_init_160 : decode cX12_init 160 = .ok (.newarray .int, 2) := by decide +kernel
theorem dX12_init_162 : decode cX12_init 162 = .ok (.putfield 70, 3) := by decide +kernel
theorem dX12_init_165 : decode cX12_init 165 = .ok (.aload_n 0, 1) := by decide +kernel
theorem dX12_init_166 : decode cX12_init 166 = .ok (.bipush 100, 2) := by decide +kernel
theorem dX12_init_168 : decode cX12_init 168 = .ok (.newarray .int, 2) := by decide +kernel
theorem dX12_init_170 : decode cX12_init 170 = .ok (.putfield 73, 3) := by decide +kernel
theorem dX12_init_173 : decode cX12_init 173 = .ok (.aload_n 0, 1) := by decide +kernel
theorem dX12_init_174 : decode cX12_init 174 = .ok (.bipush 20, 2) := by decide +kernel
theorem dX12_init_176 : decode cX12_init 176 = .ok (.newarray .int, 2) := by decide +kernel
theorem dX12_init_178 : decode cX12_init 178 = .ok (.putfield 76, 3) := by decide +kernel
theorem dX12_init_181 : decode cX12_init 181 = .ok (.aload_n 0, 1) := by decide +kernel
theorem dX12_init_182 : decode cX12_init 182 = .ok (.bipush 60, 2) := by decide +kernel
theorem dX12_init_184 : decode cX12_init 184 = .ok (.newarray .int, 2) := by decide +kernel
theorem dX12_init_186 : decode cX12_init 186 = .ok (.putfield 79, 3) := by decide +kernel
theorem dX12_init_189 : decode cX12_init 189 = .ok (.aload_n 0, 1) := by decide +kernel
theorem dX12_init_190 : decode cX12_init 190 = .ok (.bipush 100, 2) := by decide +kernel
theorem dX12_init_192 : decode cX12_init 192 = .ok (.newarray .int, 2) := by decide +kernel
theorem dX12_init_194 : decode cX12_init 194 = .ok (.putfield 82, 3) := by decide +kernel
theorem dX12_init_197 : decode cX12_init 197 = .ok (.aload_n 0, 1) := by decide +kernel
theorem dX12_init_198 : decode cX12_init 198 = .ok (.bipush 100, 2) := by decide +kernel
theorem dX12_init_200 : decode cX12_init 200 = .ok (.newarray .int, 2) := by decide +kernel
theorem dX12_init_202 : decode cX12_init 202 = .ok (.putfield 85, 3) := by decide +kernel
theorem dX12_init_205 : decode cX12_init 205 = .ok (.aload_n 0, 1) := by decide +kernel
theorem dX12_init_206 : decode cX12_init 206 = .ok (.bipush 100, 2) := by decide +kernel
theorem dX12_init_208 : decode cX12_init 208 = .ok (.newarray .int, 2) := by decide +kernel
theorem dX12_init_210 : decode cX12_init 210 = .ok (.putfield 88, 3) := by decide +kernel
theorem dX12_init_213 : decode cX12_init 213 = .ok (.aload_n 0, 1) := by decide +kernel
theorem dX12_init_214 : decode cX12_init 214 = .ok (.sipush 29520, 3) := by decide +kernel
theorem dX12_init_217 : decode cX12_init 217 = .ok (.newarray .int, 2) := by decide +kernel
theorem dX12_init_219 : decode cX12_init 219 = .ok (.putfield 91, 3) := by decide +kernel
theorem dX12_init_222 : decode cX12_init 222 = .ok (.aload_n 0, 1) := by decide +kernel
theorem dX12_init_223 : decode cX12_init 223 = .ok (.getfield 9, 3) := by decide +kernel
theorem dX12_init_226 : decode cX12_init 226 = .ok (.iconst 0, 1) := by decide +kernel
theorem dX12_init_227 : decode cX12_init 227 = .ok (.iconst (-1), 1) := by decide +kernel
theorem dX12_init_228 : decode cX12_init 228 = .ok (.iastore, 1) := by decide +kernel
theorem dX12_init_229 : decode cX12_init 229 = .ok (.aload_n 0, 1) := by decide +kernel
theorem dX12_init_230 : decode cX12_init 230 = .ok (.iconst 1, 1) := by decide +kernel
theorem dX12_init_231 : decode cX12_init 231 = .ok (.putfield 94, 3) := by decide +kernel
theorem dX12_init_234 : decode cX12_init 234 = .ok (.return_, 1) := by decide +kernel
def f_X12_init (r0 : Option Nat) : Mo Unit := mb (mo 15 r0 (mp ())) (fun _ => mb (nA 1 (60 : Int32)) (fun v7 => mb (pV 15 1 r0 (va_rf v7)) (fun _ => mb (nA 3 (60 : Int32)) (fun v15 => mb (pV 15 2 r0 (va_rf v15)) (fun _ => mb (nA 1 (60 : Int32)) (fun v23 => mb (pV 15 4 r0 (va_rf v23)) (fun _ => mb (nA 1 (480 : Int32)) (fun v32 => mb (pV 15 5 r0 (va_rf v32)) (fun _ => mb (nA 1 (60 : Int32)) (fun v40 => mb (pV 15 6 r0 (va_rf v40)) (fun _ => mb (nA 1 (20 : Int32)) (fun v48 => mb (pV 15 8 r0 (va_rf v48)) (fun _ => mb (nA 1 (40 : Int32)) (fun v56 => mb (pV 15 10 r0 (va_rf v56)) (fun _ => mb (nA 1 (480 : Int32)) (fun v65 => mb (pV 15 11 r0 (va_rf v65)) (fun _ => mb (nA 1 (12 : Int32)) (fun v73 => mb (pV 15 13 r0 (va_rf v73)) (fun _ => mb (nA 0 (200 : Int32)) (fun v82 => mb (pV 15 14 r0 (va_rf v82)) (fun _ => mb (pV 15 19 r0 (.int (-1 : Int32))) (fun _ => mb (nA 1 (256 : Int32)) (fun v96 => mb (pV 15 21 r0 (va_rf v96)) (fun _ => mb (nA 3 (64 : Int32)) (fun v104 => mb (pV 15 23 r0 (va_rf v104)) (fun _ => mb (nA 1 (100 : Int32)) (fun v112 => mb (pV 15 24 r0 (va_rf v112)) (fun _ => mb (nA 1 (100 : Int32)) (fun v120 => mb (pV 15 25 r0 (va_rf v120)) (fun _ => mb (nA 1 (100 : Int32)) (fun v128 => mb (pV 15 26 r0 (va_rf v128)) (fun _ => mb (nA 3 (100 : Int32)) (fun v136 => mb (pV 15 27 r0 (va_rf v136)) (fun _ => mb (nA 3 (100 : Int32)) (fun v144 => mb (pV 15 28 r0 (va_rf v144)) (fun _ => mb (nA 1 (100 : Int32)) (fun v152 => mb (pV 15 29 r0 (va_rf v152)) (fun _ => mb (nA 1 (100 : Int32)) (fun v160 => mb (pV 15 30 r0 (va_rf v160)) (fun _ => mb (nA 1 (100 : Int32)) (fun v168 => mb (pV 15 31 r0 (va_rf v168)) (fun _ => mb (nA 1 (20 : Int32)) (fun v176 => mb (pV 15 33 r0 (va_rf v176)) (fun _ => mb (nA 1 (60 : Int32)) (fun v184 => mb (pV 15 34 r0 (va_rf v184)) (fun _ => mb (nA 1 (100 : Int32)) (fun v192 => mb (pV 15 35 r0 (va_rf v192)) (fun _ => mb (nA 1 (100 : Int32)) (fun v200 => mb (pV 15 37 r0 (va_rf v200)) (fun _ => mb (nA 1 (100 : Int32)) (fun v208 => mb (pV 15 40 r0 (va_rf v208)) (fun _ => mb (nA 1 (29520 : Int32)) (fun v217 => mb (pV 15 44 r0 (va_rf v217)) (fun _ => mb (gR 15 1 r0) (fun v223 => mb (sI 1 v223 (0 : Int32) (-1 : Int32)) (fun _ => mb (pV 15 3 r0 (.int (1 : Int32))) (fun _ => mp ())))))))))))))))))))))))))))))))))))))))))))))))))))))))))
set_option maxRecDepth 100000 in
set_option maxHeartbeats 4000000 in
theorem s_X12_init {X : Cg} (cx : Cx X cX12_init RX12 1) (hfr : 1 ≤ (xR X).frames) (hlo : 12 ≤ (xR X).locals) (hr : (xM X).sig.returnType = none) (hin : (xM X).name = "<init>") (r0 : Option Nat) : Sim X 1 (FiM X vV) 0 [(0, va_rf r0)] [] (f_X12_init r0) := by
  unfold f_X12_init
  refine sm_aload_n cx 0 dX12_init_0 rfl rfl ?_
  refine sm_obj (ci := 15) cx wd_6_126 wd_1_41 wd_1_42 (Nat.le_trans (by decide) hfr) (Nat.le_trans (by decide) hlo) dX12_init_1 rfl ?_
  refine sm_aload_n cx 0 dX12_init_4 rfl rfl ?_
  refine sm_bipush (v := 60) cx dX12_init_5 (by decide) ?_
  refine sm_newa1 cx dX12_init_7 (fun v7 => ?_)
  refine sm_putF cx hin fl_X12_9 (nr_ra _) (ft_ra _) dX12_init_9 ?_
  refine sm_aload_n cx 0 dX12_init_12 rfl rfl ?_
  refine sm_bipush (v := 60) cx dX12_init_13 (by decide) ?_
  refine sm_newa3 cx dX12_init_15 (fun v15 => ?_)
  refine sm_putF cx hin fl_X12_13 (nr_ra _) (ft_ra _) dX12_init_17 ?_
  refine sm_aload_n cx 0 dX12_init_20 rfl rfl ?_
  refine sm_bipush (v := 60) cx dX12_init_21 (by decide) ?_
  refine sm_newa1 cx dX12_init_23 (fun v23 => ?_)
  refine sm_putF cx hin fl_X12_17 (nr_ra _) (ft_ra _) dX12_init_25 ?_
  refine sm_aload_n cx 0 dX12_init_28 rfl rfl ?_
  refine sm_sipush (v := 480) cx dX12_init_29 (by decide) ?_
  refine sm_newa1 cx dX12_init_32 (fun v32 => ?_)
  refine sm_putF cx hin fl_X12_20 (nr_ra _) (ft_ra _) dX12_init_34 ?_
  refine sm_aload_n cx 0 dX12_init_37 rfl rfl ?_
  refine sm_bipush (v := 60) cx dX12_init_38 (by decide) ?_
  refine sm_newa1 cx dX12_init_40 (fun v40 => ?_)
  refine sm_putF cx hin fl_X12_23 (nr_ra _) (ft_ra _) dX12_init_42 ?_
  refine sm_aload_n cx 0 dX12_init_45 rfl rfl ?_
  refine sm_bipush (v := 20) cx dX12_init_46 (by decide) ?_
  refine sm_newa1 cx dX12_init_48 (fun v48 => ?_)
  refine sm_putF cx hin fl_X12_26 (nr_ra _) (ft_ra _) dX12_init_50 ?_
  refine sm_aload_n cx 0 dX12_init_53 rfl rfl ?_
  refine sm_bipush (v := 40) cx dX12_init_54 (by decide) ?_
  refine sm_newa1 cx dX12_init_56 (fun v56 => ?_)
  refine sm_putF cx hin fl_X12_29 (nr_ra _) (ft_ra _) dX12_init_58 ?_
  refine sm_aload_n cx 0 dX12_init_61 rfl rfl ?_
  refine sm_sipush (v := 480) cx dX12_init_62 (by decide) ?_
  refine sm_newa1 cx dX12_init_65 (fun v65 => ?_)
  refine sm_putF cx hin fl_X12_32 (nr_ra _) (ft_ra _) dX12_init_67 ?_
  refine sm_aload_n cx 0 dX12_init_70 rfl rfl ?_
  refine sm_bipush (v := 12) cx dX12_init_71 (by decide) ?_
  refine sm_newa1 cx dX12_init_73 (fun v73 => ?_)
  refine sm_putF cx hin fl_X12_35 (nr_ra _) (ft_ra _) dX12_init_75 ?_
  refine sm_aload_n cx 0 dX12_init_78 rfl rfl ?_
  refine sm_sipush (v := 200) cx dX12_init_79 (by decide) ?_
  refine sm_newa0 cx dX12_init_82 (fun v82 => ?_)
  refine sm_putF cx hin fl_X12_38 (nr_ra _) (ft_ra _) dX12_init_84 ?_
  refine sm_aload_n cx 0 dX12_init_87 rfl rfl ?_
  refine sm_iconst (v := -1) cx dX12_init_88 (by decide) ?_
  refine sm_putV cx fl_X12_42 rfl rfl dX12_init_89 ?_
  refine sm_aload_n cx 0 dX12_init_92 rfl rfl ?_
  refine sm_sipush (v := 256) cx dX12_init_93 (by decide) ?_
  refine sm_newa1 cx dX12_init_96 (fun v96 => ?_)
  refine sm_putV cx fl_X12_46 (nr_ra _) (ft_ra _) dX12_init_98 ?_
  refine sm_aload_n cx 0 dX12_init_101 rfl rfl ?_
  refine sm_bipush (v := 64) cx dX12_init_102 (by decide) ?_
  refine sm_newa3 cx dX12_init_104 (fun v104 => ?_)
  refine sm_putF cx hin fl_X12_49 (nr_ra _) (ft_ra _) dX12_init_106 ?_
  refine sm_aload_n cx 0 dX12_init_109 rfl rfl ?_
  refine sm_bipush (v := 100) cx dX12_init_110 (by decide) ?_
  refine sm_newa1 cx dX12_init_112 (fun v112 => ?_)
  refine sm_putF cx hin fl_X12_52 (nr_ra _) (ft_ra _) dX12_init_114 ?_
  refine sm_aload_n cx 0 dX12_init_117 rfl rfl ?_
  refine sm_bipush (v := 100) cx dX12_init_118 (by decide) ?_
  refine sm_newa1 cx dX12_init_120 (fun v120 => ?_)
  refine sm_putF cx hin fl_X12_55 (nr_ra _) (ft_ra _) dX12_init_122 ?_
  refine sm_aload_n cx 0 dX12_init_125 rfl rfl ?_
  refine sm_bipush (v := 100) cx dX12_init_126 (by decide) ?_
  refine sm_newa1 cx dX12_init_128 (fun v128 => ?_)
  refine sm_putF cx hin fl_X12_58 (nr_ra _) (ft_ra _) dX12_init_130 ?_
  refine sm_aload_n cx 0 dX12_init_133 rfl rfl ?_
  refine sm_bipush (v := 100) cx dX12_init_134 (by decide) ?_
  refine sm_newa3 cx dX12_init_136 (fun v136 => ?_)
  refine sm_putF cx hin fl_X12_61 (nr_ra _) (ft_ra _) dX12_init_138 ?_
  refine sm_aload_n cx 0 dX12_init_141 rfl rfl ?_
  refine sm_bipush (v := 100) cx dX12_init_142 (by decide) ?_
  refine sm_newa3 cx dX12_init_144 (fun v144 => ?_)
  refine sm_putF cx hin fl_X12_64 (nr_ra _) (ft_ra _) dX12_init_146 ?_
  refine sm_aload_n cx 0 dX12_init_149 rfl rfl ?_
  refine sm_bipush (v := 100) cx dX12_init_150 (by decide) ?_
  refine sm_newa1 cx dX12_init_152 (fun v152 => ?_)
  refine sm_putF cx hin fl_X12_67 (nr_ra _) (ft_ra _) dX12_init_154 ?_
  refine sm_aload_n cx 0 dX12_init_157 rfl rfl ?_
  refine sm_bipush (v := 100) cx dX12_init_158 (by decide) ?_
  refine sm_newa1 cx dX12_init_160 (fun v160 => ?_)
  refine sm_putF cx hin fl_X12_70 (nr_ra _) (ft_ra _) dX12_init_162 ?_
  refine sm_aload_n cx 0 dX12_init_165 rfl rfl ?_
  refine sm_bipush (v := 100) cx dX12_init_166 (by decide) ?_
  refine sm_newa1 cx dX12_init_168 (fun v168 => ?_)
  refine sm_putF cx hin fl_X12_73 (nr_ra _) (ft_ra _) dX12_init_170 ?_
  refine sm_aload_n cx 0 dX12_init_173 rfl rfl ?_
  refine sm_bipush (v := 20) cx dX12_init_174 (by decide) ?_
  refine sm_newa1 cx dX12_init_176 (fun v176 => ?_)
  refine sm_putF cx hin fl_X12_76 (nr_ra _) (ft_ra _) dX12_init_178 ?_
  refine sm_aload_n cx 0 dX12_init_181 rfl rfl ?_
  refine sm_bipush (v := 60) cx dX12_init_182 (by decide) ?_
  refine sm_newa1 cx dX12_init_184 (fun v184 => ?_)
  refine sm_putF cx hin fl_X12_79 (nr_ra _) (ft_ra _) dX12_init_186 ?_
  refine sm_aload_n cx 0 dX12_init_189 rfl rfl ?_
  refine sm_bipush (v := 100) cx dX12_init_190 (by decide) ?_
  refine sm_newa1 cx dX12_init_192 (fun v192 => ?_)
  refine sm_putF cx hin fl_X12_82 (nr_ra _) (ft_ra _) dX12_init_194 ?_
  refine sm_aload_n cx 0 dX12_init_197 rfl rfl ?_
  refine sm_bipush (v := 100) cx dX12_init_198 (by decide) ?_
  refine sm_newa1 cx dX12_init_200 (fun v200 => ?_)
  refine sm_putF cx hin fl_X12_85 (nr_ra _) (ft_ra _) dX12_init_202 ?_
  refine sm_aload_n cx 0 dX12_init_205 rfl rfl ?_
  refine sm_bipush (v := 100) cx dX12_init_206 (by decide) ?_
  refine sm_newa1 cx dX12_init_208 (fun v208 => ?_)
  refine sm_putF cx hin fl_X12_88 (nr_ra _) (ft_ra _) dX12_init_210 ?_
  refine sm_aload_n cx 0 dX12_init_213 rfl rfl ?_
  refine sm_sipush (v := 29520) cx dX12_init_214 (by decide) ?_
  refine sm_newa1 cx dX12_init_217 (fun v217 => ?_)
  refine sm_putF cx hin fl_X12_91 (nr_ra _) (ft_ra _) dX12_init_219 ?_
  refine sm_aload_n cx 0 dX12_init_222 rfl rfl ?_
  refine sm_getR cx fl_X12_9 dX12_init_223 (fun v223 => ?_)
  refine sm_iconst (v := 0) cx dX12_init_226 (by decide) ?_
  refine sm_iconst (v := -1) cx dX12_init_227 (by decide) ?_
  refine sm_iast cx dX12_init_228 ?_
  refine sm_aload_n cx 0 dX12_init_229 rfl rfl ?_
  refine sm_iconst (v := 1) cx dX12_init_230 (by decide) ?_
  refine sm_putV cx fl_X12_94 rfl rfl dX12_init_231 ?_
  exact sm_vret cx hr dX12_init_234
set_option maxRecDepth 100000 in
set_option maxHeartbeats 4000000 in
theorem ct_X12_init (Z : Nat → Nat) {r0 : Option Nat} (a0 : Nat) (h0 : r0 = some a0) : Ct yX12_init cX12_init 1 none 1 12 Z [.ref a0] vV (f_X12_init r0) := by
  subst h0
  refine ct_of (lv0 := [(0, va_rf (some a0))]) (by decide +kernel) (by simp [lg_sl, ct_i, ct_l, ct_r, rf_cat]) (by show _ = ([(0, Value.ref a0)] : List (Nat × Value)); simp [lv_args, ct_i, ct_l, ct_r, rf_cat]) (fun X cx hZ hfr hlo hr hin => ?_)
  subst hZ
  exact s_X12_init cx (Nat.le_of_eq hfr.symm) (Nat.le_of_eq hlo.symm) hr hin (some a0)
/-! PolicyTreeModel.thrown()I -/
theorem dX12_thrown_0 : decode cX12_thrown 0 = .ok (.aload_n 0, 1) := by decide +kernel
theorem dX12_thrown_1 : decode cX12_thrown 1 = .ok (.getfield 97, 3) := by decide +kernel
theorem dX12_thrown_4 : decode cX12_thrown 4 = .ok (.ireturn, 1) := by decide +kernel
def f_X12_thrown (r0 : Option Nat) : Mo Int32 := mb (gI 15 0 r0) (fun v1 => mp v1)
set_option maxRecDepth 100000 in
set_option maxHeartbeats 4000000 in
theorem s_X12_thrown {X : Cg} (cx : Cx X cX12_thrown RX12 1) (hfr : 0 ≤ (xR X).frames) (hlo : 0 ≤ (xR X).locals) (hr : (xM X).sig.returnType = (some .int)) (r0 : Option Nat) : Sim X 1 (FiM X vI) 0 [(0, va_rf r0)] [] (f_X12_thrown r0) := by
  unfold f_X12_thrown
  refine sm_aload_n cx 0 dX12_thrown_0 rfl rfl ?_
  refine sm_getI cx fl_X12_97 dX12_thrown_1 (fun v1 => ?_)
  exact sm_iret cx hr dX12_thrown_4
set_option maxRecDepth 100000 in
set_option maxHeartbeats 4000000 in
theorem ct_X12_thrown (Z : Nat → Nat) {r0 : Option Nat} (a0 : Nat) (h0 : r0 = some a0) : Ct yX12_thrown cX12_thrown 1 (some .int) 0 0 Z [.ref a0] vI (f_X12_thrown r0) := by
  subst h0
  refine ct_of (lv0 := [(0, va_rf (some a0))]) (by decide +kernel) (by simp [lg_sl, ct_i, ct_l, ct_r, rf_cat]) (by show _ = ([(0, Value.ref a0)] : List (Nat × Value)); simp [lv_args, ct_i, ct_l, ct_r, rf_cat]) (fun X cx hZ hfr hlo hr hin => ?_)
  subst hZ
  exact s_X12_thrown cx (Nat.le_of_eq hfr.symm) (Nat.le_of_eq hlo.symm) hr (some a0)
/-! PolicyTreeModel.bad(ZI)Z -/
theorem dX12_bad_0 : decode cX12_bad 0 = .ok (.iload_n 1, 1) := by decide +kernel
theorem dX12_bad_1 : decode cX12_bad 1 = .ok (.ifCond .eq 8, 3) := by decide +kernel
theorem dX12_bad_4 : decode cX12_bad 4 = .ok (.aload_n 0, 1) := by decide +kernel
theorem dX12_bad_5 : decode cX12_bad 5 = .ok (.iload_n 2, 1) := by decide +kernel
theorem dX12_bad_6 : decode cX12_bad 6 = .ok (.putfield 97, 3) := by decide +kernel
theorem dX12_bad_9 : decode cX12_bad 9 = .ok (.iload_n 1, 1) := by decide +kernel
theorem dX12_bad_10 : decode cX12_bad 10 = .ok (.ireturn, 1) := by decide +kernel
def f_X12_bad_9 (x1 : Int32) : Mo Int32 := rz .boolean x1
set_option maxRecDepth 100000 in
set_option maxHeartbeats 4000000 in
theorem s_X12_bad_9 {X : Cg} (cx : Cx X cX12_bad RX12 3) (hfr : 0 ≤ (xR X).frames) (hlo : 0 ≤ (xR X).locals) (hr : (xM X).sig.returnType = (some .boolean)) (x1 : Int32) : Sim X 3 (FiM X vI) 9 [(1, .int x1)] [] (f_X12_bad_9 x1) := by
  unfold f_X12_bad_9
  refine sm_iload_n cx 0 dX12_bad_9 rfl rfl ?_
  exact sm_zret cx hr dX12_bad_10
def f_X12_bad (r0 : Option Nat) (x1 : Int32) (x2 : Int32) : Mo Int32 := (if x1 = 0 then f_X12_bad_9 x1 else mb (pV 15 0 r0 (.int x2)) (fun _ => f_X12_bad_9 x1))
set_option maxRecDepth 100000 in
set_option maxHeartbeats 4000000 in
theorem s_X12_bad {X : Cg} (cx : Cx X cX12_bad RX12 3) (hfr : 0 ≤ (xR X).frames) (hlo : 0 ≤ (xR X).locals) (hr : (xM X).sig.returnType = (some .boolean)) (r0 : Option Nat) (x1 : Int32) (x2 : Int32) : Sim X 3 (FiM X vI) 0 [(0, va_rf r0), (1, .int x1), (2, .int x2)] [] (f_X12_bad r0 x1 x2) := by
  unfold f_X12_bad
  refine sm_iload_n cx 1 dX12_bad_0 rfl rfl ?_
  refine sm_if_eq (tgt := 9) cx dX12_bad_1 (by decide) ?_ ?_
  · exact sm_lv [1] rfl (s_X12_bad_9 cx hfr hlo hr x1)
  · refine sm_aload_n cx 0 dX12_bad_4 rfl rfl ?_
    refine sm_iload_n cx 2 dX12_bad_5 rfl rfl ?_
    refine sm_putV cx fl_X12_97 rfl rfl dX12_bad_6 ?_
    exact sm_lv [1] rfl (s_X12_bad_9 cx hfr hlo hr x1)
set_option maxRecDepth 100000 in
set_option maxHeartbeats 4000000 in
theorem ct_X12_bad (Z : Nat → Nat) {r0 : Option Nat} (a0 : Nat) (h0 : r0 = some a0) (x1 : Int32) (x2 : Int32) : Ct yX12_bad cX12_bad 3 (some .boolean) 0 0 Z [.ref a0, .int x1, .int x2] vI (f_X12_bad r0 x1 x2) := by
  subst h0
  refine ct_of (lv0 := [(0, va_rf (some a0)), (1, .int x1), (2, .int x2)]) (by decide +kernel) (by simp [lg_sl, ct_i, ct_l, ct_r, rf_cat]) (by show _ = ([(0, Value.ref a0), (1, .int x1), (2, .int x2)] : List (Nat × Value)); simp [lv_args, ct_i, ct_l, ct_r, rf_cat]) (fun X cx hZ hfr hlo hr hin => ?_)
  subst hZ
  exact s_X12_bad cx (Nat.le_of_eq hfr.symm) (Nat.le_of_eq hlo.symm) hr (some a0) x1 x2
/-! PolicyTreeModel.none(II)Z -/
theorem dX12_none_0 : decode cX12_none 0 = .ok (.iload_n 1, 1) := by decide +kernel
theorem dX12_none_1 : decode cX12_none 1 = .ok (.ifCond .lt 8, 3) := by decide +kernel
theorem dX12_none_4 : decode cX12_none 4 = .ok (.iload_n 1, 1) := by decide +kernel
theorem dX12_none_5 : decode cX12_none 5 = .ok (.iload_n 2, 1) := by decide +kernel
theorem dX12_none_6 : decode cX12_none 6 = .ok (.if_icmp .lt 8, 3) := by decide +kernel
theorem dX12_none_9 : decode cX12_none 9 = .ok (.aload_n 0, 1) := by decide +kernel
theorem dX12_none_10 : decode cX12_none 10 = .ok (.iconst 1, 1) := by decide +kernel
theorem dX12_none_11 : decode cX12_none 11 = .ok (.putfield 97, 3) := by decide +kernel
theorem dX12_none_14 : decode cX12_none 14 = .ok (.aload_n 0, 1) := by decide +kernel
theorem dX12_none_15 : decode cX12_none 15 = .ok (.getfield 97, 3) := by decide +kernel
theorem dX12_none_18 : decode cX12_none 18 = .ok (.ifCond .le 7, 3) := by decide +kernel
theorem dX12_none_21 : decode cX12_none 21 = .ok (.iconst 1, 1) := by decide +kernel
theorem dX12_none_22 : decode cX12_none 22 = .ok (.goto 4, 3) := by decide +kernel
theorem dX12_none_25 : decode cX12_none 25 = .ok (.iconst 0, 1) := by decide +kernel
theorem dX12_none_26 : decode cX12_none 26 = .ok (.ireturn, 1) := by decide +kernel
def f_X12_none_26 (sx0 : Int32) : Mo Int32 := rz .boolean sx0
set_option maxRecDepth 100000 in
set_option maxHeartbeats 4000000 in
theorem s_X12_none_26 {X : Cg} (cx : Cx X cX12_none RX12 3) (hfr : 0 ≤ (xR X).frames) (hlo : 0 ≤ (xR X).locals) (hr : (xM X).sig.returnType = (some .boolean)) (sx0 : Int32) : Sim X 3 (FiM X vI) 26 [] [.int sx0] (f_X12_none_26 sx0) := by
  unfold f_X12_none_26
  exact sm_zret cx hr dX12_none_26
def f_X12_none_14 (r0 : Option Nat) : Mo Int32 := mb (gI 15 0 r0) (fun v15 => (if v15 ≤ 0 then f_X12_none_26 (0 : Int32) else f_X12_none_26 (1 : Int32)))
set_option maxRecDepth 100000 in
set_option maxHeartbeats 4000000 in
theorem s_X12_none_14 {X : Cg} (cx : Cx X cX12_none RX12 3) (hfr : 0 ≤ (xR X).frames) (hlo : 0 ≤ (xR X).locals) (hr : (xM X).sig.returnType = (some .boolean)) (r0 : Option Nat) : Sim X 3 (FiM X vI) 14 [(0, va_rf r0)] [] (f_X12_none_14 r0) := by
  unfold f_X12_none_14
  refine sm_aload_n cx 0 dX12_none_14 rfl rfl ?_
  refine sm_getI cx fl_X12_97 dX12_none_15 (fun v15 => ?_)
  refine sm_if_le (tgt := 25) cx dX12_none_18 (by decide) ?_ ?_
  · refine sm_iconst (v := 0) cx dX12_none_25 (by decide) ?_
    exact sm_lv [] rfl (s_X12_none_26 cx hfr hlo hr (0 : Int32))
  · refine sm_iconst (v := 1) cx dX12_none_21 (by decide) ?_
    refine sm_goto (tgt := 26) cx dX12_none_22 (by decide) ?_
    exact sm_lv [] rfl (s_X12_none_26 cx hfr hlo hr (1 : Int32))
def f_X12_none_9 (r0 : Option Nat) : Mo Int32 := mb (pV 15 0 r0 (.int (1 : Int32))) (fun _ => f_X12_none_14 r0)
set_option maxRecDepth 100000 in
set_option maxHeartbeats 4000000 in
theorem s_X12_none_9 {X : Cg} (cx : Cx X cX12_none RX12 3) (hfr : 0 ≤ (xR X).frames) (hlo : 0 ≤ (xR X).locals) (hr : (xM X).sig.returnType = (some .boolean)) (r0 : Option Nat) : Sim X 3 (FiM X vI) 9 [(0, va_rf r0)] [] (f_X12_none_9 r0) := by
  unfold f_X12_none_9
  refine sm_aload_n cx 0 dX12_none_9 rfl rfl ?_
  refine sm_iconst (v := 1) cx dX12_none_10 (by decide) ?_
  refine sm_putV cx fl_X12_97 rfl rfl dX12_none_11 ?_
  exact sm_lv [0] rfl (s_X12_none_14 cx hfr hlo hr r0)
def f_X12_none (r0 : Option Nat) (x1 : Int32) (x2 : Int32) : Mo Int32 := (if x1 < 0 then f_X12_none_9 r0 else (if x1 < x2 then f_X12_none_14 r0 else f_X12_none_9 r0))
set_option maxRecDepth 100000 in
set_option maxHeartbeats 4000000 in
theorem s_X12_none {X : Cg} (cx : Cx X cX12_none RX12 3) (hfr : 0 ≤ (xR X).frames) (hlo : 0 ≤ (xR X).locals) (hr : (xM X).sig.returnType = (some .boolean)) (r0 : Option Nat) (x1 : Int32) (x2 : Int32) : Sim X 3 (FiM X vI) 0 [(0, va_rf r0), (1, .int x1), (2, .int x2)] [] (f_X12_none r0 x1 x2) := by
  unfold f_X12_none
  refine sm_iload_n cx 1 dX12_none_0 rfl rfl ?_
  refine sm_if_lt (tgt := 9) cx dX12_none_1 (by decide) ?_ ?_
  · exact sm_lv [0] rfl (s_X12_none_9 cx hfr hlo hr r0)
  · refine sm_iload_n cx 1 dX12_none_4 rfl rfl ?_
    refine sm_iload_n cx 2 dX12_none_5 rfl rfl ?_
    refine sm_icmp_lt (tgt := 14) cx dX12_none_6 (by decide) ?_ ?_
    · exact sm_lv [0] rfl (s_X12_none_14 cx hfr hlo hr r0)
    · exact sm_lv [0] rfl (s_X12_none_9 cx hfr hlo hr r0)
set_option maxRecDepth 100000 in
set_option maxHeartbeats 4000000 in
theorem ct_X12_none (Z : Nat → Nat) {r0 : Option Nat} (a0 : Nat) (h0 : r0 = some a0) (x1 : Int32) (x2 : Int32) : Ct yX12_none cX12_none 3 (some .boolean) 0 0 Z [.ref a0, .int x1, .int x2] vI (f_X12_none r0 x1 x2) := by
  subst h0
  refine ct_of (lv0 := [(0, va_rf (some a0)), (1, .int x1), (2, .int x2)]) (by decide +kernel) (by simp [lg_sl, ct_i, ct_l, ct_r, rf_cat]) (by show _ = ([(0, Value.ref a0), (1, .int x1), (2, .int x2)] : List (Nat × Value)); simp [lv_args, ct_i, ct_l, ct_r, rf_cat]) (fun X cx hZ hfr hlo hr hin => ?_)
  subst hZ
  exact s_X12_none cx (Nat.le_of_eq hfr.symm) (Nat.le_of_eq hlo.symm) hr (some a0) x1 x2
/-! PolicyTreeModel.node(I)I -/
theorem dX12_node_0 : decode cX12_node 0 = .ok (.aload_n 0, 1) := by decide +kernel
theorem dX12_node_1 : decode cX12_node 1 = .ok (.iconst 0, 1) := by decide +kernel
theorem dX12_node_2 : decode cX12_node 2 = .ok (.putfield 97, 3) := by decide +kernel
theorem dX12_node_5 : decode cX12_node 5 = .ok (.aload_n 0, 1) := by decide +kernel
theorem dX12_node_6 : decode cX12_node 6 = .ok (.iload_n 1, 1) := by decide +kernel
theorem dX12_node_7 : decode cX12_node 7 = .ok (.aload_n 0, 1) := by decide +kernel
theorem dX12_node_8 : decode cX12_node 8 = .ok (.getfield 94, 3) := by decide +kernel
theorem dX12_node_11 : decode cX12_node 11 = .ok (.invokevirtual 100, 3) := by decide +kernel
theorem dX12_node_14 : decode cX12_node 14 = .ok (.ifCond .ne 25, 3) := by decide +kernel
theorem dX12_node_17 : decode cX12_node 17 = .ok (.aload_n 0, 1) := by decide +kernel
theorem dX12_node_18 : decode cX12_node 18 = .ok (.aload_n 0, 1) := by decide +kernel
theorem dX12_node_19 : decode cX12_node 19 = .ok (.getfield 94, 3) := by decide +kernel
theorem dX12_node_22 : decode cX12_node 22 = .ok (.bipush 60, 2) := by decide +kernel
theorem dX12_node_24 : decode cX12_node 24 = .ok (.if_icmp .ne 7, 3) := by decide +kernel
theorem dX12_node_27 : decode cX12_node 27 = .ok (.iconst 1, 1) := by decide +kernel
theorem dX12_node_28 : decode cX12_node 28 = .ok (.goto 4, 3) := by decide +kernel
theorem dX12_node_31 : decode cX12_node 31 = .ok (.iconst 0, 1) := by decide +kernel
theorem dX12_node_32 : decode cX12_node 32 = .ok (.iconst 2, 1) := by decide +kernel
theorem dX12_node_33 : decode cX12_node 33 = .ok (.invokevirtual 104, 3) := by decide +kernel
theorem dX12_node_36 : decode cX12_node 36 = .ok (.ifCond .eq 5, 3) := by decide +kernel
theorem dX12_node_39 : decode cX12_node 39 = .ok (.iconst 0, 1) := by decide +kernel
theorem dX12_node_40 : decode cX12_node 40 = .ok (.ireturn, 1) := by decide +kernel
theorem dX12_node_41 : decode cX12_node 41 = .ok (.aload_n 0, 1) := by decide +kernel
theorem dX12_node_42 : decode cX12_node 42 = .ok (.getfield 9, 3) := by decide +kernel
theorem dX12_node_45 : decode cX12_node 45 = .ok (.aload_n 0, 1) := by decide +kernel
theorem dX12_node_46 : decode cX12_node 46 = .ok (.getfield 94, 3) := by decide +kernel
theorem dX12_node_49 : decode cX12_node 49 = .ok (.iload_n 1, 1) := by decide +kernel
theorem dX12_node_50 : decode cX12_node 50 = .ok (.iastore, 1) := by decide +kernel
theorem dX12_node_51 : decode cX12_node 51 = .ok (.aload_n 0, 1) := by decide +kernel
theorem dX12_node_52 : decode cX12_node 52 = .ok (.dup, 1) := by decide +kernel
theorem dX12_node_53 : decode cX12_node 53 = .ok (.getfield 94, 3) := by decide +kernel
theorem dX12_node_56 : decode cX12_node 56 = .ok (.iconst 1, 1) := by decide +kernel
theorem dX12_node_57 : decode cX12_node 57 = .ok (.iadd, 1) := by decide +kernel
theorem dX12_node_58 : decode cX12_node 58 = .ok (.putfield 94, 3) := by decide +kernel
theorem dX12_node_61 : decode cX12_node 61 = .ok (.aload_n 0, 1) := by decide +kernel
theorem dX12_node_62 : decode cX12_node 62 = .ok (.getfield 94, 3) := by decide +kernel
theorem dX12_node_65 : decode cX12_node 65 = .ok (.iconst 1, 1) := by decide +kernel
theorem dX12_node_66 : decode cX12_node 66 = .ok (.isub, 1) := by decide +kernel
theorem dX12_node_67 : decode cX12_node 67 = .ok (.ireturn, 1) := by decide +kernel
def f_X12_node_39 : Mo Int32 := mp (0 : Int32)
set_option maxRecDepth 100000 in
set_option maxHeartbeats 4000000 in
theorem s_X12_node_39 {X : Cg} (cx : Cx X cX12_node RX12 2) (hfr : 1 ≤ (xR X).frames) (hlo : 22 ≤ (xR X).locals) (hr : (xM X).sig.returnType = (some .int)) : Sim X 2 (FiM X vI) 39 [] [] (f_X12_node_39) := by
  unfold f_X12_node_39
  refine sm_iconst (v := 0) cx dX12_node_39 (by decide) ?_
  exact sm_iret cx hr dX12_node_40
def f_X12_node_32 (r0 : Option Nat) (x1 : Int32) (sr0 : Option Nat) (sx1 : Int32) : Mo Int32 := mb (mo 15 sr0 (f_X12_bad sr0 sx1 (2 : Int32))) (fun v33 => (if v33 = 0 then mb (gR 15 1 r0) (fun v42 => mb (gI 15 3 r0) (fun v46 => mb (sI 1 v42 v46 x1) (fun _ => mb (gI 15 3 r0) (fun v53 => mb (pV 15 3 r0 (.int (v53 + (1 : Int32)))) (fun _ => mb (gI 15 3 r0) (fun v62 => mp (v62 - (1 : Int32)))))))) else f_X12_node_39))
set_option maxRecDepth 100000 in
set_option maxHeartbeats 4000000 in
theorem s_X12_node_32 {X : Cg} (cx : Cx X cX12_node RX12 2) (hfr : 1 ≤ (xR X).frames) (hlo : 22 ≤ (xR X).locals) (hr : (xM X).sig.returnType = (some .int)) (r0 : Option Nat) (x1 : Int32) (sr0 : Option Nat) (sx1 : Int32) : Sim X 2 (FiM X vI) 32 [(0, va_rf r0), (1, .int x1)] [.int sx1, va_rf sr0] (f_X12_node_32 r0 x1 sr0 sx1) := by
  unfold f_X12_node_32
  refine sm_iconst (v := 2) cx dX12_node_32 (by decide) ?_
  refine sm_callV (T := TX12) (N := 47) (toV := vI) cx [.int sx1, .int (2 : Int32)] rfl cv_X12_104 (fun a h => ct_X12_bad (xZ X) a h sx1 (2 : Int32)) (Nat.le_trans (by decide) hfr) (Nat.le_trans (by decide) hlo) rfl (cat_le _ (Nat.le_of_ble_eq_true rfl)) dX12_node_33 (fun v33 => ?_)
  refine sm_if_eq (tgt := 41) cx dX12_node_36 (by decide) ?_ ?_
  · refine sm_aload_n cx 0 dX12_node_41 rfl rfl ?_
    refine sm_getR cx fl_X12_9 dX12_node_42 (fun v42 => ?_)
    refine sm_aload_n cx 0 dX12_node_45 rfl rfl ?_
    refine sm_getI cx fl_X12_94 dX12_node_46 (fun v46 => ?_)
    refine sm_iload_n cx 1 dX12_node_49 rfl rfl ?_
    refine sm_iast cx dX12_node_50 ?_
    refine sm_aload_n cx 0 dX12_node_51 rfl rfl ?_
    refine sm_dup cx dX12_node_52 (rf_cat _) ?_
    refine sm_getI cx fl_X12_94 dX12_node_53 (fun v53 => ?_)
    refine sm_iconst (v := 1) cx dX12_node_56 (by decide) ?_
    refine sm_iadd cx dX12_node_57 ?_
    refine sm_putV cx fl_X12_94 rfl rfl dX12_node_58 ?_
    refine sm_aload_n cx 0 dX12_node_61 rfl rfl ?_
    refine sm_getI cx fl_X12_94 dX12_node_62 (fun v62 => ?_)
    refine sm_iconst (v := 1) cx dX12_node_65 (by decide) ?_
    refine sm_isub cx dX12_node_66 ?_
    exact sm_iret cx hr dX12_node_67
  · exact sm_lv [] rfl (s_X12_node_39 cx hfr hlo hr)
def f_X12_node (r0 : Option Nat) (x1 : Int32) : Mo Int32 := mb (pV 15 0 r0 (.int (0 : Int32))) (fun _ => mb (gI 15 3 r0) (fun v8 => mb (mo 15 r0 (f_X12_none r0 x1 v8)) (fun v11 => (if v11 = 0 then mb (gI 15 3 r0) (fun v19 => (if v19 = (60 : Int32) then f_X12_node_32 r0 x1 r0 (1 : Int32) else f_X12_node_32 r0 x1 r0 (0 : Int32))) else f_X12_node_39))))
set_option maxRecDepth 100000 in
set_option maxHeartbeats 4000000 in
theorem s_X12_node {X : Cg} (cx : Cx X cX12_node RX12 2) (hfr : 1 ≤ (xR X).frames) (hlo : 22 ≤ (xR X).locals) (hr : (xM X).sig.returnType = (some .int)) (r0 : Option Nat) (x1 : Int32) : Sim X 2 (FiM X vI) 0 [(0, va_rf r0), (1, .int x1)] [] (f_X12_node r0 x1) := by
  unfold f_X12_node
  refine sm_aload_n cx 0 dX12_node_0 rfl rfl ?_
  refine sm_iconst (v := 0) cx dX12_node_1 (by decide) ?_
  refine sm_putV cx fl_X12_97 rfl rfl dX12_node_2 ?_
  refine sm_aload_n cx 0 dX12_node_5 rfl rfl ?_
  refine sm_iload_n cx 1 dX12_node_6 rfl rfl ?_
  refine sm_aload_n cx 0 dX12_node_7 rfl rfl ?_
  refine sm_getI cx fl_X12_94 dX12_node_8 (fun v8 => ?_)
  refine sm_callV (T := TX12) (N := 47) (toV := vI) cx [.int x1, .int v8] rfl cv_X12_100 (fun a h => ct_X12_none (xZ X) a h x1 v8) (Nat.le_trans (by decide) hfr) (Nat.le_trans (by decide) hlo) rfl (cat_le _ (Nat.le_of_ble_eq_true rfl)) dX12_node_11 (fun v11 => ?_)
  refine sm_if_ne (tgt := 39) cx dX12_node_14 (by decide) ?_ ?_
  · exact sm_lv [] rfl (s_X12_node_39 cx hfr hlo hr)
  · refine sm_aload_n cx 0 dX12_node_17 rfl rfl ?_
    refine sm_aload_n cx 0 dX12_node_18 rfl rfl ?_
    refine sm_getI cx fl_X12_94 dX12_node_19 (fun v19 => ?_)
    refine sm_bipush (v := 60) cx dX12_node_22 (by decide) ?_
    refine sm_icmp_ne (tgt := 31) cx dX12_node_24 (by decide) ?_ ?_
    · refine sm_iconst (v := 0) cx dX12_node_31 (by decide) ?_
      exact sm_lv [0, 1] rfl (s_X12_node_32 cx hfr hlo hr r0 x1 r0 (0 : Int32))
    · refine sm_iconst (v := 1) cx dX12_node_27 (by decide) ?_
      refine sm_goto (tgt := 32) cx dX12_node_28 (by decide) ?_
      exact sm_lv [0, 1] rfl (s_X12_node_32 cx hfr hlo hr r0 x1 r0 (1 : Int32))
set_option maxRecDepth 100000 in
set_option maxHeartbeats 4000000 in
theorem ct_X12_node (Z : Nat → Nat) {r0 : Option Nat} (a0 : Nat) (h0 : r0 = some a0) (x1 : Int32) : Ct yX12_node cX12_node 2 (some .int) 1 22 Z [.ref a0, .int x1] vI (f_X12_node r0 x1) := by
  subst h0
  refine ct_of (lv0 := [(0, va_rf (some a0)), (1, .int x1)]) (by decide +kernel) (by simp [lg_sl, ct_i, ct_l, ct_r, rf_cat]) (by show _ = ([(0, Value.ref a0), (1, .int x1)] : List (Nat × Value)); simp [lv_args, ct_i, ct_l, ct_r, rf_cat]) (fun X cx hZ hfr hlo hr hin => ?_)
  subst hZ
  exact s_X12_node cx (Nat.le_of_eq hfr.symm) (Nat.le_of_eq hlo.symm) hr (some a0) x1
/-! PolicyTreeModel.block(IZ)Z -/
theorem dX12_block_0 : decode cX12_block 0 = .ok (.aload_n 0, 1) := by decide +kernel
theorem dX12_block_1 : decode cX12_block 1 = .ok (.iconst 0, 1) := by decide +kernel
theorem dX12_block_2 : decode cX12_block 2 = .ok (.putfield 97, 3) := by decide +kernel
theorem dX12_block_5 : decode cX12_block 5 = .ok (.aload_n 0, 1) := by decide +kernel
theorem dX12_block_6 : decode cX12_block 6 = .ok (.iload_n 1, 1) := by decide +kernel
theorem dX12_block_7 : decode cX12_block 7 = .ok (.aload_n 0, 1) := by decide +kernel
theorem dX12_block_8 : decode cX12_block 8 = .ok (.getfield 94, 3) := by decide +kernel
theorem dX12_block_11 : decode cX12_block 11 = .ok (.invokevirtual 100, 3) := by decide +kernel
theorem dX12_block_14 : decode cX12_block 14 = .ok (.ifCond .eq 5, 3) := by decide +kernel
theorem dX12_block_17 : decode cX12_block 17 = .ok (.iconst 0, 1) := by decide +kernel
theorem dX12_block_18 : decode cX12_block 18 = .ok (.ireturn, 1) := by decide +kernel
theorem dX12_block_19 : decode cX12_block 19 = .ok (.aload_n 0, 1) := by decide +kernel
theorem dX12_block_20 : decode cX12_block 20 = .ok (.getfield 13, 3) := by decide +kernel
theorem dX12_block_23 : decode cX12_block 23 = .ok (.iload_n 1, 1) := by decide +kernel
theorem dX12_block_24 : decode cX12_block 24 = .ok (.baload, 1) := by decide +kernel
theorem dX12_block_25 : decode cX12_block 25 = .ok (.istore_n 3, 1) := by decide +kernel
theorem dX12_block_26 : decode cX12_block 26 = .ok (.aload_n 0, 1) := by decide +kernel
theorem dX12_block_27 : decode cX12_block 27 = .ok (.getfield 13, 3) := by decide +kernel
theorem dX12_block_30 : decode cX12_block 30 = .ok (.iload_n 1, 1) := by decide +kernel
theorem dX12_block_31 : decode cX12_block 31 = .ok (.iload_n 2, 1) := by decide +kernel
theorem dX12_block_32 : decode cX12_block 32 = .ok (.bastore, 1) := by decide +kernel
theorem dX12_block_33 : decode cX12_block 33 = .ok (.iload_n 3, 1) := by decide +kernel
theorem dX12_block_34 : decode cX12_block 34 = .ok (.ireturn, 1) := by decide +kernel
def f_X12_block (r0 : Option Nat) (x1 : Int32) (x2 : Int32) : Mo Int32 := mb (pV 15 0 r0 (.int (0 : Int32))) (fun _ => mb (gI 15 3 r0) (fun v8 => mb (mo 15 r0 (f_X12_none r0 x1 v8)) (fun v11 => (if v11 = 0 then mb (gR 15 2 r0) (fun v20 => mb (aI 3 v20 x1) (fun v24 => mb (gR 15 2 r0) (fun v27 => mb (sI 3 v27 x1 x2) (fun _ => rz .boolean v24)))) else rz .boolean (0 : Int32)))))
set_option maxRecDepth 100000 in
set_option maxHeartbeats 4000000 in
theorem s_X12_block {X : Cg} (cx : Cx X cX12_block RX12 4) (hfr : 1 ≤ (xR X).frames) (hlo : 22 ≤ (xR X).locals) (hr : (xM X).sig.returnType = (some .boolean)) (r0 : Option Nat) (x1 : Int32) (x2 : Int32) : Sim X 4 (FiM X vI) 0 [(0, va_rf r0), (1, .int x1), (2, .int x2)] [] (f_X12_block r0 x1 x2) := by
  unfold f_X12_block
  refine sm_aload_n cx 0 dX12_block_0 rfl rfl ?_
  refine sm_iconst (v := 0) cx dX12_block_1 (by decide) ?_
  refine sm_putV cx fl_X12_97 rfl rfl dX12_block_2 ?_
  refine sm_aload_n cx 0 dX12_block_5 rfl rfl ?_
  refine sm_iload_n cx 1 dX12_block_6 rfl rfl ?_
  refine sm_aload_n cx 0 dX12_block_7 rfl rfl ?_
  refine sm_getI cx fl_X12_94 dX12_block_8 (fun v8 => ?_)
  refine sm_callV (T := TX12) (N := 47) (toV := vI) cx [.int x1, .int v8] rfl cv_X12_100 (fun a h => ct_X12_none (xZ X) a h x1 v8) (Nat.le_trans (by decide) hfr) (Nat.le_trans (by decide) hlo) rfl (cat_le _ (Nat.le_of_ble_eq_true rfl)) dX12_block_11 (fun v11 => ?_)
  refine sm_if_eq (tgt := 19) cx dX12_block_14 (by decide) ?_ ?_
  · refine sm_aload_n cx 0 dX12_block_19 rfl rfl ?_
    refine sm_getR cx fl_X12_13 dX12_block_20 (fun v20 => ?_)
    refine sm_iload_n cx 1 dX12_block_23 rfl rfl ?_
    refine sm_zald cx dX12_block_24 (fun v24 => ?_)
    refine sm_istore_n cx [(3, .int v24), (0, va_rf r0), (1, .int x1), (2, .int x2)] dX12_block_25 rfl (by decide) rfl (nc1 rfl) rfl ?_
    refine sm_aload_n cx 1 dX12_block_26 rfl rfl ?_
    refine sm_getR cx fl_X12_13 dX12_block_27 (fun v27 => ?_)
    refine sm_iload_n cx 2 dX12_block_30 rfl rfl ?_
    refine sm_iload_n cx 3 dX12_block_31 rfl rfl ?_
    refine sm_zast cx dX12_block_32 ?_
    refine sm_iload_n cx 0 dX12_block_33 rfl rfl ?_
    exact sm_zret cx hr dX12_block_34
  · refine sm_iconst (v := 0) cx dX12_block_17 (by decide) ?_
    exact sm_zret cx hr dX12_block_18
set_option maxRecDepth 100000 in
set_option maxHeartbeats 4000000 in
theorem ct_X12_block (Z : Nat → Nat) {r0 : Option Nat} (a0 : Nat) (h0 : r0 = some a0) (x1 : Int32) (x2 : Int32) : Ct yX12_block cX12_block 4 (some .boolean) 1 22 Z [.ref a0, .int x1, .int x2] vI (f_X12_block r0 x1 x2) := by
  subst h0
  refine ct_of (lv0 := [(0, va_rf (some a0)), (1, .int x1), (2, .int x2)]) (by decide +kernel) (by simp [lg_sl, ct_i, ct_l, ct_r, rf_cat]) (by show _ = ([(0, Value.ref a0), (1, .int x1), (2, .int x2)] : List (Nat × Value)); simp [lv_args, ct_i, ct_l, ct_r, rf_cat]) (fun X cx hZ hfr hlo hr hin => ?_)
  subst hZ
  exact s_X12_block cx (Nat.le_of_eq hfr.symm) (Nat.le_of_eq hlo.symm) hr (some a0) x1 x2
/-! PolicyTreeModel.isBelow(II)Z -/
theorem dX12_isBelow_0 : decode cX12_isBelow 0 = .ok (.iload_n 1, 1) := by decide +kernel
theorem dX12_isBelow_1 : decode cX12_isBelow 1 = .ok (.istore_n 3, 1) := by decide +kernel
theorem dX12_isBelow_2 : decode cX12_isBelow 2 = .ok (.iload_n 3, 1) := by decide +kernel
theorem dX12_isBelow_3 : decode cX12_isBelow 3 = .ok (.ifCond .lt 18, 3) := by decide +kernel
theorem dX12_isBelow_6 : decode cX12_isBelow 6 = .ok (.iload_n 3, 1) := by decide +kernel
theorem dX12_isBelow_7 : decode cX12_isBelow 7 = .ok (.iload_n 2, 1) := by decide +kernel
theorem dX12_isBelow_8 : decode cX12_isBelow 8 = .ok (.if_icmp .eq 13, 3) := by decide +kernel
theorem dX12_isBelow_11 : decode cX12_isBelow 11 = .ok (.aload_n 0, 1) := by decide +kernel
theorem dX12_isBelow_12 : decode cX12_isBelow 12 = .ok (.getfield 9, 3) := by decide +kernel
theorem dX12_isBelow_15 : decode cX12_isBelow 15 = .ok (.iload_n 3, 1) := by decide +kernel
theorem dX12_isBelow_16 : decode cX12_isBelow 16 = .ok (.iaload, 1) := by decide +kernel
theorem dX12_isBelow_17 : decode cX12_isBelow 17 = .ok (.istore_n 3, 1) := by decide +kernel
theorem dX12_isBelow_18 : decode cX12_isBelow 18 = .ok (.goto (-16), 3) := by decide +kernel
theorem dX12_isBelow_21 : decode cX12_isBelow 21 = .ok (.iload_n 3, 1) := by decide +kernel
theorem dX12_isBelow_22 : decode cX12_isBelow 22 = .ok (.ifCond .lt 7, 3) := by decide +kernel
theorem dX12_isBelow_25 : decode cX12_isBelow 25 = .ok (.iconst 1, 1) := by decide +kernel
theorem dX12_isBelow_26 : decode cX12_isBelow 26 = .ok (.goto 4, 3) := by decide +kernel
theorem dX12_isBelow_29 : decode cX12_isBelow 29 = .ok (.iconst 0, 1) := by decide +kernel
theorem dX12_isBelow_30 : decode cX12_isBelow 30 = .ok (.ireturn, 1) := by decide +kernel
def f_X12_isBelow_30 (sx0 : Int32) : Mo Int32 := rz .boolean sx0
set_option maxRecDepth 100000 in
set_option maxHeartbeats 4000000 in
theorem s_X12_isBelow_30 {X : Cg} (cx : Cx X cX12_isBelow RX12 4) (hfr : 0 ≤ (xR X).frames) (hlo : 0 ≤ (xR X).locals) (hr : (xM X).sig.returnType = (some .boolean)) (sx0 : Int32) : Sim X 4 (FiM X vI) 30 [] [.int sx0] (f_X12_isBelow_30 sx0) := by
  unfold f_X12_isBelow_30
  exact sm_zret cx hr dX12_isBelow_30
def f_X12_isBelow_21 (x3 : Int32) : Mo Int32 := (if x3 < 0 then f_X12_isBelow_30 (0 : Int32) else f_X12_isBelow_30 (1 : Int32))
set_option maxRecDepth 100000 in
set_option maxHeartbeats 4000000 in
theorem s_X12_isBelow_21 {X : Cg} (cx : Cx X cX12_isBelow RX12 4) (hfr : 0 ≤ (xR X).frames) (hlo : 0 ≤ (xR X).locals) (hr : (xM X).sig.returnType = (some .boolean)) (x3 : Int32) : Sim X 4 (FiM X vI) 21 [(3, .int x3)] [] (f_X12_isBelow_21 x3) := by
  unfold f_X12_isBelow_21
  refine sm_iload_n cx 0 dX12_isBelow_21 rfl rfl ?_
  refine sm_if_lt (tgt := 29) cx dX12_isBelow_22 (by decide) ?_ ?_
  · refine sm_iconst (v := 0) cx dX12_isBelow_29 (by decide) ?_
    exact sm_lv [] rfl (s_X12_isBelow_30 cx hfr hlo hr (0 : Int32))
  · refine sm_iconst (v := 1) cx dX12_isBelow_25 (by decide) ?_
    refine sm_goto (tgt := 30) cx dX12_isBelow_26 (by decide) ?_
    exact sm_lv [] rfl (s_X12_isBelow_30 cx hfr hlo hr (1 : Int32))
def f_X12_isBelow_2 (r0 : Option Nat) (x2 : Int32) : Nat → Int32 → Mo Int32
  | 0, _ => mf
  | n + 1, x3 => (if x3 < 0 then f_X12_isBelow_21 x3 else (if x3 = x2 then f_X12_isBelow_21 x3 else mb (gR 15 1 r0) (fun v12 => mb (aI 1 v12 x3) (fun v16 => (f_X12_isBelow_2 r0 x2 n) v16))))
set_option maxRecDepth 100000 in
set_option maxHeartbeats 4000000 in
theorem s_X12_isBelow_2 {X : Cg} (cx : Cx X cX12_isBelow RX12 4) (hfr : 0 ≤ (xR X).frames) (hlo : 0 ≤ (xR X).locals) (hr : (xM X).sig.returnType = (some .boolean)) (r0 : Option Nat) (x2 : Int32) : ∀ (n : Nat) (x3 : Int32), Sim X 4 (FiM X vI) 2 [(0, va_rf r0), (2, .int x2), (3, .int x3)] [] (f_X12_isBelow_2 r0 x2 n x3) := by
  intro n
  induction n with
  | zero =>
    intro _
    exact sm_mf
  | succ n ih =>
    intro x3
    rw [f_X12_isBelow_2]
    refine sm_iload_n cx 2 dX12_isBelow_2 rfl rfl ?_
    refine sm_if_lt (tgt := 21) cx dX12_isBelow_3 (by decide) ?_ ?_
    · exact sm_lv [2] rfl (s_X12_isBelow_21 cx hfr hlo hr x3)
    · refine sm_iload_n cx 2 dX12_isBelow_6 rfl rfl ?_
      refine sm_iload_n cx 1 dX12_isBelow_7 rfl rfl ?_
      refine sm_icmp_eq (tgt := 21) cx dX12_isBelow_8 (by decide) ?_ ?_
      · exact sm_lv [2] rfl (s_X12_isBelow_21 cx hfr hlo hr x3)
      · refine sm_aload_n cx 0 dX12_isBelow_11 rfl rfl ?_
        refine sm_getR cx fl_X12_9 dX12_isBelow_12 (fun v12 => ?_)
        refine sm_iload_n cx 2 dX12_isBelow_15 rfl rfl ?_
        refine sm_iald cx dX12_isBelow_16 (fun v16 => ?_)
        refine sm_istore_n cx [(3, .int v16), (0, va_rf r0), (2, .int x2)] dX12_isBelow_17 rfl (by decide) rfl (nc1 rfl) rfl ?_
        refine sm_goto (tgt := 2) cx dX12_isBelow_18 (by decide) ?_
        exact sm_lv [1, 2, 0] rfl (ih v16)
def f_X12_isBelow (r0 : Option Nat) (x1 : Int32) (x2 : Int32) : Mo Int32 := f_X12_isBelow_2 r0 x2 fuL x1
set_option maxRecDepth 100000 in
set_option maxHeartbeats 4000000 in
theorem s_X12_isBelow {X : Cg} (cx : Cx X cX12_isBelow RX12 4) (hfr : 0 ≤ (xR X).frames) (hlo : 0 ≤ (xR X).locals) (hr : (xM X).sig.returnType = (some .boolean)) (r0 : Option Nat) (x1 : Int32) (x2 : Int32) : Sim X 4 (FiM X vI) 0 [(0, va_rf r0), (1, .int x1), (2, .int x2)] [] (f_X12_isBelow r0 x1 x2) := by
  unfold f_X12_isBelow
  refine sm_iload_n cx 1 dX12_isBelow_0 rfl rfl ?_
  refine sm_istore_n cx [(3, .int x1), (0, va_rf r0), (1, .int x1), (2, .int x2)] dX12_isBelow_1 rfl (by decide) rfl (nc1 rfl) rfl ?_
  exact sm_lv [1, 3, 0] rfl (s_X12_isBelow_2 cx hfr hlo hr r0 x2 fuL x1)
set_option maxRecDepth 100000 in
set_option maxHeartbeats 4000000 in
theorem ct_X12_isBelow (Z : Nat → Nat) {r0 : Option Nat} (a0 : Nat) (h0 : r0 = some a0) (x1 : Int32) (x2 : Int32) : Ct yX12_isBelow cX12_isBelow 4 (some .boolean) 0 0 Z [.ref a0, .int x1, .int x2] vI (f_X12_isBelow r0 x1 x2) := by
  subst h0
  refine ct_of (lv0 := [(0, va_rf (some a0)), (1, .int x1), (2, .int x2)]) (by decide +kernel) (by simp [lg_sl, ct_i, ct_l, ct_r, rf_cat]) (by show _ = ([(0, Value.ref a0), (1, .int x1), (2, .int x2)] : List (Nat × Value)); simp [lv_args, ct_i, ct_l, ct_r, rf_cat]) (fun X cx hZ hfr hlo hr hin => ?_)
  subst hZ
  exact s_X12_isBelow cx (Nat.le_of_eq hfr.symm) (Nat.le_of_eq hlo.symm) hr (some a0) x1 x2
/-! PolicyTreeModel.machine(I)I -/
theorem dX12_machine_0 : decode cX12_machine 0 = .ok (.aload_n 0, 1) := by decide +kernel
theorem dX12_machine_1 : decode cX12_machine 1 = .ok (.iconst 0, 1) := by decide +kernel
theorem dX12_machine_2 : decode cX12_machine 2 = .ok (.putfield 97, 3) := by decide +kernel
theorem dX12_machine_5 : decode cX12_machine 5 = .ok (.aload_n 0, 1) := by decide +kernel
theorem dX12_machine_6 : decode cX12_machine 6 = .ok (.iload_n 1, 1) := by decide +kernel
theorem dX12_machine_7 : decode cX12_machine 7 = .ok (.aload_n 0, 1) := by decide +kernel
theorem dX12_machine_8 : decode cX12_machine 8 = .ok (.getfield 94, 3) := by decide +kernel
theorem dX12_machine_11 : decode cX12_machine 11 = .ok (.invokevirtual 100, 3) := by decide +kernel
theorem dX12_machine_14 : decode cX12_machine 14 = .ok (.ifCond .ne 25, 3) := by decide +kernel
theorem dX12_machine_17 : decode cX12_machine 17 = .ok (.aload_n 0, 1) := by decide +kernel
theorem dX12_machine_18 : decode cX12_machine 18 = .ok (.aload_n 0, 1) := by decide +kernel
theorem dX12_machine_19 : decode cX12_machine 19 = .ok (.getfield 108, 3) := by decide +kernel
theorem dX12_machine_22 : decode cX12_machine 22 = .ok (.bipush 60, 2) := by decide +kernel
theorem dX12_machine_24 : decode cX12_machine 24 = .ok (.if_icmp .ne 7, 3) := by decide +kernel
theorem dX12_machine_27 : decode cX12_machine 27 = .ok (.iconst 1, 1) := by decide +kernel
theorem dX12_machine_28 : decode cX12_machine 28 = .ok (.goto 4, 3) := by decide +kernel
theorem dX12_machine_31 : decode cX12_machine 31 = .ok (.iconst 0, 1) := by decide +kernel
theorem dX12_machine_32 : decode cX12_machine 32 = .ok (.iconst 2, 1) := by decide +kernel
theorem dX12_machine_33 : decode cX12_machine 33 = .ok (.invokevirtual 104, 3) := by decide +kernel
theorem dX12_machine_36 : decode cX12_machine 36 = .ok (.ifCond .eq 5, 3) := by decide +kernel
theorem dX12_machine_39 : decode cX12_machine 39 = .ok (.iconst 0, 1) := by decide +kernel
theorem dX12_machine_40 : decode cX12_machine 40 = .ok (.ireturn, 1) := by decide +kernel
theorem dX12_machine_41 : decode cX12_machine 41 = .ok (.aload_n 0, 1) := by decide +kernel
theorem dX12_machine_42 : decode cX12_machine 42 = .ok (.getfield 17, 3) := by decide +kernel
theorem dX12_machine_45 : decode cX12_machine 45 = .ok (.aload_n 0, 1) := by decide +kernel
theorem dX12_machine_46 : decode cX12_machine 46 = .ok (.getfield 108, 3) := by decide +kernel
theorem dX12_machine_49 : decode cX12_machine 49 = .ok (.iload_n 1, 1) := by decide +kernel
theorem dX12_machine_50 : decode cX12_machine 50 = .ok (.iastore, 1) := by decide +kernel
theorem dX12_machine_51 : decode cX12_machine 51 = .ok (.iconst 0, 1) := by decide +kernel
theorem dX12_machine_52 : decode cX12_machine 52 = .ok (.istore_n 2, 1) := by decide +kernel
theorem dX12_machine_53 : decode cX12_machine 53 = .ok (.iload_n 2, 1) := by decide +kernel
theorem dX12_machine_54 : decode cX12_machine 54 = .ok (.bipush 8, 2) := by decide +kernel
theorem dX12_machine_56 : decode cX12_machine 56 = .ok (.if_icmp .ge 24, 3) := by decide +kernel
theorem dX12_machine_59 : decode cX12_machine 59 = .ok (.aload_n 0, 1) := by decide +kernel
theorem dX12_machine_60 : decode cX12_machine 60 = .ok (.getfield 20, 3) := by decide +kernel
theorem dX12_machine_63 : decode cX12_machine 63 = .ok (.bipush 8, 2) := by decide +kernel
theorem dX12_machine_65 : decode cX12_machine 65 = .ok (.aload_n 0, 1) := by decide +kernel
theorem dX12_machine_66 : decode cX12_machine 66 = .ok (.getfield 108, 3) := by decide +kernel
theorem dX12_machine_69 : decode cX12_machine 69 = .ok (.imul, 1) := by decide +kernel
theorem dX12_machine_70 : decode cX12_machine 70 = .ok (.iload_n 2, 1) := by decide +kernel
theorem dX12_machine_71 : decode cX12_machine 71 = .ok (.iadd, 1) := by decide +kernel
theorem dX12_machine_72 : decode cX12_machine 72 = .ok (.iconst (-1), 1) := by decide +kernel
theorem dX12_machine_73 : decode cX12_machine 73 = .ok (.iastore, 1) := by decide +kernel
theorem dX12_machine_74 : decode cX12_machine 74 = .ok (.iinc 2 1, 3) := by decide +kernel
theorem dX12_machine_77 : decode cX12_machine 77 = .ok (.goto (-24), 3) := by decide +kernel
theorem dX12_machine_80 : decode cX12_machine 80 = .ok (.aload_n 0, 1) := by decide +kernel
theorem dX12_machine_81 : decode cX12_machine 81 = .ok (.dup, 1) := by decide +kernel
theorem dX12_machine_82 : decode cX12_machine 82 = .ok (.getfield 108, 3) := by decide +kernel
theorem dX12_machine_85 : decode cX12_machine 85 = .ok (.iconst 1, 1) := by decide +kernel
theorem dX12_machine_86 : decode cX12_machine 86 = .ok (.iadd, 1) := by decide +kernel
theorem dX12_machine_87 : decode cX12_machine 87 = .ok (.putfield 108, 3) := by decide +kernel
theorem dX12_machine_90 : decode cX12_machine 90 = .ok (.aload_n 0, 1) := by decide +kernel
theorem dX12_machine_91 : decode cX12_machine 91 = .ok (.getfield 108, 3) := by decide +kernel
theorem dX12_machine_94 : decode cX12_machine 94 = .ok (.iconst 1, 1) := by decide +kernel
theorem dX12_machine_95 : decode cX12_machine 95 = .ok (.isub, 1) := by decide +kernel
theorem dX12_machine_96 : decode cX12_machine 96 = .ok (.ireturn, 1) := by decide +kernel
def f_X12_machine_39 : Mo Int32 := mp (0 : Int32)
set_option maxRecDepth 100000 in
set_option maxHeartbeats 4000000 in
theorem s_X12_machine_39 {X : Cg} (cx : Cx X cX12_machine RX12 3) (hfr : 1 ≤ (xR X).frames) (hlo : 22 ≤ (xR X).locals) (hr : (xM X).sig.returnType = (some .int)) : Sim X 3 (FiM X vI) 39 [] [] (f_X12_machine_39) := by
  unfold f_X12_machine_39
  refine sm_iconst (v := 0) cx dX12_machine_39 (by decide) ?_
  exact sm_iret cx hr dX12_machine_40
def f_X12_machine_53 (r0 : Option Nat) : Nat → Int32 → Mo Int32
  | 0, _ => mf
  | n + 1, x2 => (if (8 : Int32) ≤ x2 then mb (gI 15 7 r0) (fun v82 => mb (pV 15 7 r0 (.int (v82 + (1 : Int32)))) (fun _ => mb (gI 15 7 r0) (fun v91 => mp (v91 - (1 : Int32))))) else mb (gR 15 5 r0) (fun v60 => mb (gI 15 7 r0) (fun v66 => mb (sI 1 v60 (((8 : Int32) * v66) + x2) (-1 : Int32)) (fun _ => (f_X12_machine_53 r0 n) (x2 + 1)))))
set_option maxRecDepth 100000 in
set_option maxHeartbeats 4000000 in
theorem s_X12_machine_53 {X : Cg} (cx : Cx X cX12_machine RX12 3) (hfr : 1 ≤ (xR X).frames) (hlo : 22 ≤ (xR X).locals) (hr : (xM X).sig.returnType = (some .int)) (r0 : Option Nat) : ∀ (n : Nat) (x2 : Int32), Sim X 3 (FiM X vI) 53 [(0, va_rf r0), (2, .int x2)] [] (f_X12_machine_53 r0 n x2) := by
  intro n
  induction n with
  | zero =>
    intro _
    exact sm_mf
  | succ n ih =>
    intro x2
    rw [f_X12_machine_53]
    refine sm_iload_n cx 1 dX12_machine_53 rfl rfl ?_
    refine sm_bipush (v := 8) cx dX12_machine_54 (by decide) ?_
    refine sm_icmp_ge (tgt := 80) cx dX12_machine_56 (by decide) ?_ ?_
    · refine sm_aload_n cx 0 dX12_machine_80 rfl rfl ?_
      refine sm_dup cx dX12_machine_81 (rf_cat _) ?_
      refine sm_getI cx fl_X12_108 dX12_machine_82 (fun v82 => ?_)
      refine sm_iconst (v := 1) cx dX12_machine_85 (by decide) ?_
      refine sm_iadd cx dX12_machine_86 ?_
      refine sm_putV cx fl_X12_108 rfl rfl dX12_machine_87 ?_
      refine sm_aload_n cx 0 dX12_machine_90 rfl rfl ?_
      refine sm_getI cx fl_X12_108 dX12_machine_91 (fun v91 => ?_)
      refine sm_iconst (v := 1) cx dX12_machine_94 (by decide) ?_
      refine sm_isub cx dX12_machine_95 ?_
      exact sm_iret cx hr dX12_machine_96
    · refine sm_aload_n cx 0 dX12_machine_59 rfl rfl ?_
      refine sm_getR cx fl_X12_20 dX12_machine_60 (fun v60 => ?_)
      refine sm_bipush (v := 8) cx dX12_machine_63 (by decide) ?_
      refine sm_aload_n cx 0 dX12_machine_65 rfl rfl ?_
      refine sm_getI cx fl_X12_108 dX12_machine_66 (fun v66 => ?_)
      refine sm_imul cx dX12_machine_69 ?_
      refine sm_iload_n cx 1 dX12_machine_70 rfl rfl ?_
      refine sm_iadd cx dX12_machine_71 ?_
      refine sm_iconst (v := -1) cx dX12_machine_72 (by decide) ?_
      refine sm_iast cx dX12_machine_73 ?_
      refine sm_iinc cx 1 [(2, .int (x2 + 1)), (0, va_rf r0)] dX12_machine_74 rfl rfl (by decide) rfl nc0 rfl ?_
      refine sm_goto (tgt := 53) cx dX12_machine_77 (by decide) ?_
      exact sm_lv [1, 0] rfl (ih (x2 + 1))
def f_X12_machine_32 (r0 : Option Nat) (x1 : Int32) (sr0 : Option Nat) (sx1 : Int32) : Mo Int32 := mb (mo 15 sr0 (f_X12_bad sr0 sx1 (2 : Int32))) (fun v33 => (if v33 = 0 then mb (gR 15 4 r0) (fun v42 => mb (gI 15 7 r0) (fun v46 => mb (sI 1 v42 v46 x1) (fun _ => f_X12_machine_53 r0 fuL (0 : Int32)))) else f_X12_machine_39))
set_option maxRecDepth 100000 in
set_option maxHeartbeats 4000000 in
theorem s_X12_machine_32 {X : Cg} (cx : Cx X cX12_machine RX12 3) (hfr : 1 ≤ (xR X).frames) (hlo : 22 ≤ (xR X).locals) (hr : (xM X).sig.returnType = (some .int)) (r0 : Option Nat) (x1 : Int32) (sr0 : Option Nat) (sx1 : Int32) : Sim X 3 (FiM X vI) 32 [(0, va_rf r0), (1, .int x1)] [.int sx1, va_rf sr0] (f_X12_machine_32 r0 x1 sr0 sx1) := by
  unfold f_X12_machine_32
  refine sm_iconst (v := 2) cx dX12_machine_32 (by decide) ?_
  refine sm_callV (T := TX12) (N := 47) (toV := vI) cx [.int sx1, .int (2 : Int32)] rfl cv_X12_104 (fun a h => ct_X12_bad (xZ X) a h sx1 (2 : Int32)) (Nat.le_trans (by decide) hfr) (Nat.le_trans (by decide) hlo) rfl (cat_le _ (Nat.le_of_ble_eq_true rfl)) dX12_machine_33 (fun v33 => ?_)
  refine sm_if_eq (tgt := 41) cx dX12_machine_36 (by decide) ?_ ?_
  · refine sm_aload_n cx 0 dX12_machine_41 rfl rfl ?_
    refine sm_getR cx fl_X12_17 dX12_machine_42 (fun v42 => ?_)
    refine sm_aload_n cx 0 dX12_machine_45 rfl rfl ?_
    refine sm_getI cx fl_X12_108 dX12_machine_46 (fun v46 => ?_)
    refine sm_iload_n cx 1 dX12_machine_49 rfl rfl ?_
    refine sm_iast cx dX12_machine_50 ?_
    refine sm_iconst (v := 0) cx dX12_machine_51 (by decide) ?_
    refine sm_istore_n cx [(2, .int (0 : Int32)), (0, va_rf r0), (1, .int x1)] dX12_machine_52 rfl (by decide) rfl (nc1 rfl) rfl ?_
    exact sm_lv [1, 0] rfl (s_X12_machine_53 cx hfr hlo hr r0 fuL (0 : Int32))
  · exact sm_lv [] rfl (s_X12_machine_39 cx hfr hlo hr)
def f_X12_machine (r0 : Option Nat) (x1 : Int32) : Mo Int32 := mb (pV 15 0 r0 (.int (0 : Int32))) (fun _ => mb (gI 15 3 r0) (fun v8 => mb (mo 15 r0 (f_X12_none r0 x1 v8)) (fun v11 => (if v11 = 0 then mb (gI 15 7 r0) (fun v19 => (if v19 = (60 : Int32) then f_X12_machine_32 r0 x1 r0 (1 : Int32) else f_X12_machine_32 r0 x1 r0 (0 : Int32))) else f_X12_machine_39))))
set_option maxRecDepth 100000 in
set_option maxHeartbeats 4000000 in
theorem s_X12_machine {X : Cg} (cx : Cx X cX12_machine RX12 3) (hfr : 1 ≤ (xR X).frames) (hlo : 22 ≤ (xR X).locals) (hr : (xM X).sig.returnType = (some .int)) (r0 : Option Nat) (x1 : Int32) : Sim X 3 (FiM X vI) 0 [(0, va_rf r0), (1, .int x1)] [] (f_X12_machine r0 x1) := by
  unfold f_X12_machine
  refine sm_aload_n cx 0 dX12_machine_0 rfl rfl ?_
  refine sm_iconst (v := 0) cx dX12_machine_1 (by decide) ?_
  refine sm_putV cx fl_X12_97 rfl rfl dX12_machine_2 ?_
  refine sm_aload_n cx 0 dX12_machine_5 rfl rfl ?_
  refine sm_iload_n cx 1 dX12_machine_6 rfl rfl ?_
  refine sm_aload_n cx 0 dX12_machine_7 rfl rfl ?_
  refine sm_getI cx fl_X12_94 dX12_machine_8 (fun v8 => ?_)
  refine sm_callV (T := TX12) (N := 47) (toV := vI) cx [.int x1, .int v8] rfl cv_X12_100 (fun a h => ct_X12_none (xZ X) a h x1 v8) (Nat.le_trans (by decide) hfr) (Nat.le_trans (by decide) hlo) rfl (cat_le _ (Nat.le_of_ble_eq_true rfl)) dX12_machine_11 (fun v11 => ?_)
  refine sm_if_ne (tgt := 39) cx dX12_machine_14 (by decide) ?_ ?_
  · exact sm_lv [] rfl (s_X12_machine_39 cx hfr hlo hr)
  · refine sm_aload_n cx 0 dX12_machine_17 rfl rfl ?_
    refine sm_aload_n cx 0 dX12_machine_18 rfl rfl ?_
    refine sm_getI cx fl_X12_108 dX12_machine_19 (fun v19 => ?_)
    refine sm_bipush (v := 60) cx dX12_machine_22 (by decide) ?_
    refine sm_icmp_ne (tgt := 31) cx dX12_machine_24 (by decide) ?_ ?_
    · refine sm_iconst (v := 0) cx dX12_machine_31 (by decide) ?_
      exact sm_lv [0, 1] rfl (s_X12_machine_32 cx hfr hlo hr r0 x1 r0 (0 : Int32))
    · refine sm_iconst (v := 1) cx dX12_machine_27 (by decide) ?_
      refine sm_goto (tgt := 32) cx dX12_machine_28 (by decide) ?_
      exact sm_lv [0, 1] rfl (s_X12_machine_32 cx hfr hlo hr r0 x1 r0 (1 : Int32))
set_option maxRecDepth 100000 in
set_option maxHeartbeats 4000000 in
theorem ct_X12_machine (Z : Nat → Nat) {r0 : Option Nat} (a0 : Nat) (h0 : r0 = some a0) (x1 : Int32) : Ct yX12_machine cX12_machine 3 (some .int) 1 22 Z [.ref a0, .int x1] vI (f_X12_machine r0 x1) := by
  subst h0
  refine ct_of (lv0 := [(0, va_rf (some a0)), (1, .int x1)]) (by decide +kernel) (by simp [lg_sl, ct_i, ct_l, ct_r, rf_cat]) (by show _ = ([(0, Value.ref a0), (1, .int x1)] : List (Nat × Value)); simp [lv_args, ct_i, ct_l, ct_r, rf_cat]) (fun X cx hZ hfr hlo hr hin => ?_)
  subst hZ
  exact s_X12_machine cx (Nat.le_of_eq hfr.symm) (Nat.le_of_eq hlo.symm) hr (some a0) x1
/-! PolicyTreeModel.fact(III)I -/
theorem dX12_fact_0 : decode cX12_fact 0 = .ok (.aload_n 0, 1) := by decide +kernel
theorem dX12_fact_1 : decode cX12_fact 1 = .ok (.iconst 0, 1) := by decide +kernel
theorem dX12_fact_2 : decode cX12_fact 2 = .ok (.putfield 97, 3) := by decide +kernel
theorem dX12_fact_5 : decode cX12_fact 5 = .ok (.aload_n 0, 1) := by decide +kernel
theorem dX12_fact_6 : decode cX12_fact 6 = .ok (.iload_n 1, 1) := by decide +kernel
theorem dX12_fact_7 : decode cX12_fact 7 = .ok (.aload_n 0, 1) := by decide +kernel
theorem dX12_fact_8 : decode cX12_fact 8 = .ok (.getfield 108, 3) := by decide +kernel
theorem dX12_fact_11 : decode cX12_fact 11 = .ok (.invokevirtual 100, 3) := by decide +kernel
theorem dX12_fact_14 : decode cX12_fact 14 = .ok (.ifCond .ne 36, 3) := by decide +kernel
theorem dX12_fact_17 : decode cX12_fact 17 = .ok (.aload_n 0, 1) := by decide +kernel
theorem dX12_fact_18 : decode cX12_fact 18 = .ok (.iload_n 2, 1) := by decide +kernel
theorem dX12_fact_19 : decode cX12_fact 19 = .ok (.ifCond .lt 19, 3) := by decide +kernel
theorem dX12_fact_22 : decode cX12_fact 22 = .ok (.iload_n 2, 1) := by decide +kernel
theorem dX12_fact_23 : decode cX12_fact 23 = .ok (.bipush 8, 2) := by decide +kernel
theorem dX12_fact_25 : decode cX12_fact 25 = .ok (.if_icmp .ge 13, 3) := by decide +kernel
theorem dX12_fact_28 : decode cX12_fact 28 = .ok (.iload_n 3, 1) := by decide +kernel
theorem dX12_fact_29 : decode cX12_fact 29 = .ok (.iconst (-1), 1) := by decide +kernel
theorem dX12_fact_30 : decode cX12_fact 30 = .ok (.if_icmp .lt 8, 3) := by decide +kernel
theorem dX12_fact_33 : decode cX12_fact 33 = .ok (.iload_n 3, 1) := by decide +kernel
theorem dX12_fact_34 : decode cX12_fact 34 = .ok (.iconst 1, 1) := by decide +kernel
theorem dX12_fact_35 : decode cX12_fact 35 = .ok (.if_icmp .le 7, 3) := by decide +kernel
theorem dX12_fact_38 : decode cX12_fact 38 = .ok (.iconst 1, 1) := by decide +kernel
theorem dX12_fact_39 : decode cX12_fact 39 = .ok (.goto 4, 3) := by decide +kernel
theorem dX12_fact_42 : decode cX12_fact 42 = .ok (.iconst 0, 1) := by decide +kernel
theorem dX12_fact_43 : decode cX12_fact 43 = .ok (.iconst 2, 1) := by decide +kernel
theorem dX12_fact_44 : decode cX12_fact 44 = .ok (.invokevirtual 104, 3) := by decide +kernel
theorem dX12_fact_47 : decode cX12_fact 47 = .ok (.ifCond .eq 5, 3) := by decide +kernel
theorem dX12_fact_50 : decode cX12_fact 50 = .ok (.iconst 0, 1) := by decide +kernel
theorem dX12_fact_51 : decode cX12_fact 51 = .ok (.ireturn, 1) := by decide +kernel
theorem dX12_fact_52 : decode cX12_fact 52 = .ok (.aload_n 0, 1) := by decide +kernel
theorem dX12_fact_53 : decode cX12_fact 53 = .ok (.getfield 20, 3) := by decide +kernel
theorem dX12_fact_56 : decode cX12_fact 56 = .ok (.bipush 8, 2) := by decide +kernel
theorem dX12_fact_58 : decode cX12_fact 58 = .ok (.iload_n 1, 1) := by decide +kernel
theorem dX12_fact_59 : decode cX12_fact 59 = .ok (.imul, 1) := by decide +kernel
theorem dX12_fact_60 : decode cX12_fact 60 = .ok (.iload_n 2, 1) := by decide +kernel
theorem dX12_fact_61 : decode cX12_fact 61 = .ok (.iadd, 1) := by decide +kernel
theorem dX12_fact_62 : decode cX12_fact 62 = .ok (.iaload, 1) := by decide +kernel
theorem dX12_fact_63 : decode cX12_fact 63 = .ok (.istore 4, 2) := by decide +kernel
theorem dX12_fact_65 : decode cX12_fact 65 = .ok (.aload_n 0, 1) := by decide +kernel
theorem dX12_fact_66 : decode cX12_fact 66 = .ok (.getfield 20, 3) := by decide +kernel
theorem dX12_fact_69 : decode cX12_fact 69 = .ok (.bipush 8, 2) := by decide +kernel
theorem dX12_fact_71 : decode cX12_fact 71 = .ok (.iload_n 1, 1) := by decide +kernel
theorem dX12_fact_72 : decode cX12_fact 72 = .ok (.imul, 1) := by decide +kernel
theorem dX12_fact_73 : decode cX12_fact 73 = .ok (.iload_n 2, 1) := by decide +kernel
theorem dX12_fact_74 : decode cX12_fact 74 = .ok (.iadd, 1) := by decide +kernel
theorem dX12_fact_75 : decode cX12_fact 75 = .ok (.iload_n 3, 1) := by decide +kernel
theorem dX12_fact_76 : decode cX12_fact 76 = .ok (.iastore, 1) := by decide +kernel
theorem dX12_fact_77 : decode cX12_fact 77 = .ok (.iload 4, 2) := by decide +kernel
theorem dX12_fact_79 : decode cX12_fact 79 = .ok (.ireturn, 1) := by decide +kernel
def f_X12_fact_50 : Mo Int32 := mp (0 : Int32)
set_option maxRecDepth 100000 in
set_option maxHeartbeats 4000000 in
theorem s_X12_fact_50 {X : Cg} (cx : Cx X cX12_fact RX12 5) (hfr : 1 ≤ (xR X).frames) (hlo : 22 ≤ (xR X).locals) (hr : (xM X).sig.returnType = (some .int)) : Sim X 5 (FiM X vI) 50 [] [] (f_X12_fact_50) := by
  unfold f_X12_fact_50
  refine sm_iconst (v := 0) cx dX12_fact_50 (by decide) ?_
  exact sm_iret cx hr dX12_fact_51
def f_X12_fact_43 (r0 : Option Nat) (x1 : Int32) (x2 : Int32) (x3 : Int32) (sr0 : Option Nat) (sx1 : Int32) : Mo Int32 := mb (mo 15 sr0 (f_X12_bad sr0 sx1 (2 : Int32))) (fun v44 => (if v44 = 0 then mb (gR 15 5 r0) (fun v53 => mb (aI 1 v53 (((8 : Int32) * x1) + x2)) (fun v62 => mb (gR 15 5 r0) (fun v66 => mb (sI 1 v66 (((8 : Int32) * x1) + x2) x3) (fun _ => mp v62)))) else f_X12_fact_50))
set_option maxRecDepth 100000 in
set_option maxHeartbeats 4000000 in
theorem s_X12_fact_43 {X : Cg} (cx : Cx X cX12_fact RX12 5) (hfr : 1 ≤ (xR X).frames) (hlo : 22 ≤ (xR X).locals) (hr : (xM X).sig.returnType = (some .int)) (r0 : Option Nat) (x1 : Int32) (x2 : Int32) (x3 : Int32) (sr0 : Option Nat) (sx1 : Int32) : Sim X 5 (FiM X vI) 43 [(0, va_rf r0), (1, .int x1), (2, .int x2), (3, .int x3)] [.int sx1, va_rf sr0] (f_X12_fact_43 r0 x1 x2 x3 sr0 sx1) := by
  unfold f_X12_fact_43
  refine sm_iconst (v := 2) cx dX12_fact_43 (by decide) ?_
  refine sm_callV (T := TX12) (N := 47) (toV := vI) cx [.int sx1, .int (2 : Int32)] rfl cv_X12_104 (fun a h => ct_X12_bad (xZ X) a h sx1 (2 : Int32)) (Nat.le_trans (by decide) hfr) (Nat.le_trans (by decide) hlo) rfl (cat_le _ (Nat.le_of_ble_eq_true rfl)) dX12_fact_44 (fun v44 => ?_)
  refine sm_if_eq (tgt := 52) cx dX12_fact_47 (by decide) ?_ ?_
  · refine sm_aload_n cx 0 dX12_fact_52 rfl rfl ?_
    refine sm_getR cx fl_X12_20 dX12_fact_53 (fun v53 => ?_)
    refine sm_bipush (v := 8) cx dX12_fact_56 (by decide) ?_
    refine sm_iload_n cx 1 dX12_fact_58 rfl rfl ?_
    refine sm_imul cx dX12_fact_59 ?_
    refine sm_iload_n cx 2 dX12_fact_60 rfl rfl ?_
    refine sm_iadd cx dX12_fact_61 ?_
    refine sm_iald cx dX12_fact_62 (fun v62 => ?_)
    refine sm_istore cx [(4, .int v62), (0, va_rf r0), (1, .int x1), (2, .int x2), (3, .int x3)] dX12_fact_63 (by decide) rfl (nc1 rfl) rfl ?_
    refine sm_aload_n cx 1 dX12_fact_65 rfl rfl ?_
    refine sm_getR cx fl_X12_20 dX12_fact_66 (fun v66 => ?_)
    refine sm_bipush (v := 8) cx dX12_fact_69 (by decide) ?_
    refine sm_iload_n cx 2 dX12_fact_71 rfl rfl ?_
    refine sm_imul cx dX12_fact_72 ?_
    refine sm_iload_n cx 3 dX12_fact_73 rfl rfl ?_
    refine sm_iadd cx dX12_fact_74 ?_
    refine sm_iload_n cx 4 dX12_fact_75 rfl rfl ?_
    refine sm_iast cx dX12_fact_76 ?_
    refine sm_iload cx 0 dX12_fact_77 rfl ?_
    exact sm_iret cx hr dX12_fact_79
  · exact sm_lv [] rfl (s_X12_fact_50 cx hfr hlo hr)
def f_X12_fact_38 (r0 : Option Nat) (x1 : Int32) (x2 : Int32) (x3 : Int32) (sr0 : Option Nat) : Mo Int32 := f_X12_fact_43 r0 x1 x2 x3 sr0 (1 : Int32)
set_option maxRecDepth 100000 in
set_option maxHeartbeats 4000000 in
theorem s_X12_fact_38 {X : Cg} (cx : Cx X cX12_fact RX12 5) (hfr : 1 ≤ (xR X).frames) (hlo : 22 ≤ (xR X).locals) (hr : (xM X).sig.returnType = (some .int)) (r0 : Option Nat) (x1 : Int32) (x2 : Int32) (x3 : Int32) (sr0 : Option Nat) : Sim X 5 (FiM X vI) 38 [(0, va_rf r0), (1, .int x1), (2, .int x2), (3, .int x3)] [va_rf sr0] (f_X12_fact_38 r0 x1 x2 x3 sr0) := by
  unfold f_X12_fact_38
  refine sm_iconst (v := 1) cx dX12_fact_38 (by decide) ?_
  refine sm_goto (tgt := 43) cx dX12_fact_39 (by decide) ?_
  exact sm_lv [0, 1, 2, 3] rfl (s_X12_fact_43 cx hfr hlo hr r0 x1 x2 x3 sr0 (1 : Int32))
def f_X12_fact (r0 : Option Nat) (x1 : Int32) (x2 : Int32) (x3 : Int32) : Mo Int32 := mb (pV 15 0 r0 (.int (0 : Int32))) (fun _ => mb (gI 15 7 r0) (fun v8 => mb (mo 15 r0 (f_X12_none r0 x1 v8)) (fun v11 => (if v11 = 0 then (if x2 < 0 then f_X12_fact_38 r0 x1 x2 x3 r0 else (if (8 : Int32) ≤ x2 then f_X12_fact_38 r0 x1 x2 x3 r0 else (if x3 < (-1 : Int32) then f_X12_fact_38 r0 x1 x2 x3 r0 else (if x3 ≤ (1 : Int32) then f_X12_fact_43 r0 x1 x2 x3 r0 (0 : Int32) else f_X12_fact_38 r0 x1 x2 x3 r0)))) else f_X12_fact_50))))
set_option maxRecDepth 100000 in
set_option maxHeartbeats 4000000 in
theorem s_X12_fact {X : Cg} (cx : Cx X cX12_fact RX12 5) (hfr : 1 ≤ (xR X).frames) (hlo : 22 ≤ (xR X).locals) (hr : (xM X).sig.returnType = (some .int)) (r0 : Option Nat) (x1 : Int32) (x2 : Int32) (x3 : Int32) : Sim X 5 (FiM X vI) 0 [(0, va_rf r0), (1, .int x1), (2, .int x2), (3, .int x3)] [] (f_X12_fact r0 x1 x2 x3) := by
  unfold f_X12_fact
  refine sm_aload_n cx 0 dX12_fact_0 rfl rfl ?_
  refine sm_iconst (v := 0) cx dX12_fact_1 (by decide) ?_
  refine sm_putV cx fl_X12_97 rfl rfl dX12_fact_2 ?_
  refine sm_aload_n cx 0 dX12_fact_5 rfl rfl ?_
  refine sm_iload_n cx 1 dX12_fact_6 rfl rfl ?_
  refine sm_aload_n cx 0 dX12_fact_7 rfl rfl ?_
  refine sm_getI cx fl_X12_108 dX12_fact_8 (fun v8 => ?_)
  refine sm_callV (T := TX12) (N := 47) (toV := vI) cx [.int x1, .int v8] rfl cv_X12_100 (fun a h => ct_X12_none (xZ X) a h x1 v8) (Nat.le_trans (by decide) hfr) (Nat.le_trans (by decide) hlo) rfl (cat_le _ (Nat.le_of_ble_eq_true rfl)) dX12_fact_11 (fun v11 => ?_)
  refine sm_if_ne (tgt := 50) cx dX12_fact_14 (by decide) ?_ ?_
  · exact sm_lv [] rfl (s_X12_fact_50 cx hfr hlo hr)
  · refine sm_aload_n cx 0 dX12_fact_17 rfl rfl ?_
    refine sm_iload_n cx 2 dX12_fact_18 rfl rfl ?_
    refine sm_if_lt (tgt := 38) cx dX12_fact_19 (by decide) ?_ ?_
    · exact sm_lv [0, 1, 2, 3] rfl (s_X12_fact_38 cx hfr hlo hr r0 x1 x2 x3 r0)
    · refine sm_iload_n cx 2 dX12_fact_22 rfl rfl ?_
      refine sm_bipush (v := 8) cx dX12_fact_23 (by decide) ?_
      refine sm_icmp_ge (tgt := 38) cx dX12_fact_25 (by decide) ?_ ?_
      · exact sm_lv [0, 1, 2, 3] rfl (s_X12_fact_38 cx hfr hlo hr r0 x1 x2 x3 r0)
      · refine sm_iload_n cx 3 dX12_fact_28 rfl rfl ?_
        refine sm_iconst (v := -1) cx dX12_fact_29 (by decide) ?_
        refine sm_icmp_lt (tgt := 38) cx dX12_fact_30 (by decide) ?_ ?_
        · exact sm_lv [0, 1, 2, 3] rfl (s_X12_fact_38 cx hfr hlo hr r0 x1 x2 x3 r0)
        · refine sm_iload_n cx 3 dX12_fact_33 rfl rfl ?_
          refine sm_iconst (v := 1) cx dX12_fact_34 (by decide) ?_
          refine sm_icmp_le (tgt := 42) cx dX12_fact_35 (by decide) ?_ ?_
          · refine sm_iconst (v := 0) cx dX12_fact_42 (by decide) ?_
            exact sm_lv [0, 1, 2, 3] rfl (s_X12_fact_43 cx hfr hlo hr r0 x1 x2 x3 r0 (0 : Int32))
          · exact sm_lv [0, 1, 2, 3] rfl (s_X12_fact_38 cx hfr hlo hr r0 x1 x2 x3 r0)
set_option maxRecDepth 100000 in
set_option maxHeartbeats 4000000 in
theorem ct_X12_fact (Z : Nat → Nat) {r0 : Option Nat} (a0 : Nat) (h0 : r0 = some a0) (x1 : Int32) (x2 : Int32) (x3 : Int32) : Ct yX12_fact cX12_fact 5 (some .int) 1 22 Z [.ref a0, .int x1, .int x2, .int x3] vI (f_X12_fact r0 x1 x2 x3) := by
  subst h0
  refine ct_of (lv0 := [(0, va_rf (some a0)), (1, .int x1), (2, .int x2), (3, .int x3)]) (by decide +kernel) (by simp [lg_sl, ct_i, ct_l, ct_r, rf_cat]) (by show _ = ([(0, Value.ref a0), (1, .int x1), (2, .int x2), (3, .int x3)] : List (Nat × Value)); simp [lv_args, ct_i, ct_l, ct_r, rf_cat]) (fun X cx hZ hfr hlo hr hin => ?_)
  subst hZ
  exact s_X12_fact cx (Nat.le_of_eq hfr.symm) (Nat.le_of_eq hlo.symm) hr (some a0) x1 x2 x3
/-! PolicyTreeModel.group()I -/
theorem dX12_group_0 : decode cX12_group 0 = .ok (.aload_n 0, 1) := by decide +kernel
theorem dX12_group_1 : decode cX12_group 1 = .ok (.iconst 0, 1) := by decide +kernel
theorem dX12_group_2 : decode cX12_group 2 = .ok (.putfield 97, 3) := by decide +kernel
theorem dX12_group_5 : decode cX12_group 5 = .ok (.aload_n 0, 1) := by decide +kernel
theorem dX12_group_6 : decode cX12_group 6 = .ok (.aload_n 0, 1) := by decide +kernel
theorem dX12_group_7 : decode cX12_group 7 = .ok (.getfield 111, 3) := by decide +kernel
theorem dX12_group_10 : decode cX12_group 10 = .ok (.bipush 20, 2) := by decide +kernel
theorem dX12_group_12 : decode cX12_group 12 = .ok (.if_icmp .ne 7, 3) := by decide +kernel
theorem dX12_group_15 : decode cX12_group 15 = .ok (.iconst 1, 1) := by decide +kernel
theorem dX12_group_16 : decode cX12_group 16 = .ok (.goto 4, 3) := by decide +kernel
theorem dX12_group_19 : decode cX12_group 19 = .ok (.iconst 0, 1) := by decide +kernel
theorem dX12_group_20 : decode cX12_group 20 = .ok (.iconst 1, 1) := by decide +kernel
theorem dX12_group_21 : decode cX12_group 21 = .ok (.invokevirtual 104, 3) := by decide +kernel
theorem dX12_group_24 : decode cX12_group 24 = .ok (.ifCond .eq 5, 3) := by decide +kernel
theorem dX12_group_27 : decode cX12_group 27 = .ok (.iconst 0, 1) := by decide +kernel
theorem dX12_group_28 : decode cX12_group 28 = .ok (.ireturn, 1) := by decide +kernel
theorem dX12_group_29 : decode cX12_group 29 = .ok (.aload_n 0, 1) := by decide +kernel
theorem dX12_group_30 : decode cX12_group 30 = .ok (.dup, 1) := by decide +kernel
theorem dX12_group_31 : decode cX12_group 31 = .ok (.getfield 111, 3) := by decide +kernel
theorem dX12_group_34 : decode cX12_group 34 = .ok (.iconst 1, 1) := by decide +kernel
theorem dX12_group_35 : decode cX12_group 35 = .ok (.iadd, 1) := by decide +kernel
theorem dX12_group_36 : decode cX12_group 36 = .ok (.putfield 111, 3) := by decide +kernel
theorem dX12_group_39 : decode cX12_group 39 = .ok (.aload_n 0, 1) := by decide +kernel
theorem dX12_group_40 : decode cX12_group 40 = .ok (.getfield 111, 3) := by decide +kernel
theorem dX12_group_43 : decode cX12_group 43 = .ok (.iconst 1, 1) := by decide +kernel
theorem dX12_group_44 : decode cX12_group 44 = .ok (.isub, 1) := by decide +kernel
theorem dX12_group_45 : decode cX12_group 45 = .ok (.ireturn, 1) := by decide +kernel
def f_X12_group_20 (r0 : Option Nat) (sr0 : Option Nat) (sx1 : Int32) : Mo Int32 := mb (mo 15 sr0 (f_X12_bad sr0 sx1 (1 : Int32))) (fun v21 => (if v21 = 0 then mb (gI 15 9 r0) (fun v31 => mb (pV 15 9 r0 (.int (v31 + (1 : Int32)))) (fun _ => mb (gI 15 9 r0) (fun v40 => mp (v40 - (1 : Int32))))) else mp (0 : Int32)))
set_option maxRecDepth 100000 in
set_option maxHeartbeats 4000000 in
theorem s_X12_group_20 {X : Cg} (cx : Cx X cX12_group RX12 1) (hfr : 1 ≤ (xR X).frames) (hlo : 22 ≤ (xR X).locals) (hr : (xM X).sig.returnType = (some .int)) (r0 : Option Nat) (sr0 : Option Nat) (sx1 : Int32) : Sim X 1 (FiM X vI) 20 [(0, va_rf r0)] [.int sx1, va_rf sr0] (f_X12_group_20 r0 sr0 sx1) := by
  unfold f_X12_group_20
  refine sm_iconst (v := 1) cx dX12_group_20 (by decide) ?_
  refine sm_callV (T := TX12) (N := 47) (toV := vI) cx [.int sx1, .int (1 : Int32)] rfl cv_X12_104 (fun a h => ct_X12_bad (xZ X) a h sx1 (1 : Int32)) (Nat.le_trans (by decide) hfr) (Nat.le_trans (by decide) hlo) rfl (cat_le _ (Nat.le_of_ble_eq_true rfl)) dX12_group_21 (fun v21 => ?_)
  refine sm_if_eq (tgt := 29) cx dX12_group_24 (by decide) ?_ ?_
  · refine sm_aload_n cx 0 dX12_group_29 rfl rfl ?_
    refine sm_dup cx dX12_group_30 (rf_cat _) ?_
    refine sm_getI cx fl_X12_111 dX12_group_31 (fun v31 => ?_)
    refine sm_iconst (v := 1) cx dX12_group_34 (by decide) ?_
    refine sm_iadd cx dX12_group_35 ?_
    refine sm_putV cx fl_X12_111 rfl rfl dX12_group_36 ?_
    refine sm_aload_n cx 0 dX12_group_39 rfl rfl ?_
    refine sm_getI cx fl_X12_111 dX12_group_40 (fun v40 => ?_)
    refine sm_iconst (v := 1) cx dX12_group_43 (by decide) ?_
    refine sm_isub cx dX12_group_44 ?_
    exact sm_iret cx hr dX12_group_45
  · refine sm_iconst (v := 0) cx dX12_group_27 (by decide) ?_
    exact sm_iret cx hr dX12_group_28
def f_X12_group (r0 : Option Nat) : Mo Int32 := mb (pV 15 0 r0 (.int (0 : Int32))) (fun _ => mb (gI 15 9 r0) (fun v7 => (if v7 = (20 : Int32) then f_X12_group_20 r0 r0 (1 : Int32) else f_X12_group_20 r0 r0 (0 : Int32))))
set_option maxRecDepth 100000 in
set_option maxHeartbeats 4000000 in
theorem s_X12_group {X : Cg} (cx : Cx X cX12_group RX12 1) (hfr : 1 ≤ (xR X).frames) (hlo : 22 ≤ (xR X).locals) (hr : (xM X).sig.returnType = (some .int)) (r0 : Option Nat) : Sim X 1 (FiM X vI) 0 [(0, va_rf r0)] [] (f_X12_group r0) := by
  unfold f_X12_group
  refine sm_aload_n cx 0 dX12_group_0 rfl rfl ?_
  refine sm_iconst (v := 0) cx dX12_group_1 (by decide) ?_
  refine sm_putV cx fl_X12_97 rfl rfl dX12_group_2 ?_
  refine sm_aload_n cx 0 dX12_group_5 rfl rfl ?_
  refine sm_aload_n cx 0 dX12_group_6 rfl rfl ?_
  refine sm_getI cx fl_X12_111 dX12_group_7 (fun v7 => ?_)
  refine sm_bipush (v := 20) cx dX12_group_10 (by decide) ?_
  refine sm_icmp_ne (tgt := 19) cx dX12_group_12 (by decide) ?_ ?_
  · refine sm_iconst (v := 0) cx dX12_group_19 (by decide) ?_
    exact sm_lv [0] rfl (s_X12_group_20 cx hfr hlo hr r0 r0 (0 : Int32))
  · refine sm_iconst (v := 1) cx dX12_group_15 (by decide) ?_
    refine sm_goto (tgt := 20) cx dX12_group_16 (by decide) ?_
    exact sm_lv [0] rfl (s_X12_group_20 cx hfr hlo hr r0 r0 (1 : Int32))
set_option maxRecDepth 100000 in
set_option maxHeartbeats 4000000 in
theorem ct_X12_group (Z : Nat → Nat) {r0 : Option Nat} (a0 : Nat) (h0 : r0 = some a0) : Ct yX12_group cX12_group 1 (some .int) 1 22 Z [.ref a0] vI (f_X12_group r0) := by
  subst h0
  refine ct_of (lv0 := [(0, va_rf (some a0))]) (by decide +kernel) (by simp [lg_sl, ct_i, ct_l, ct_r, rf_cat]) (by show _ = ([(0, Value.ref a0)] : List (Nat × Value)); simp [lv_args, ct_i, ct_l, ct_r, rf_cat]) (fun X cx hZ hfr hlo hr hin => ?_)
  subst hZ
  exact s_X12_group cx (Nat.le_of_eq hfr.symm) (Nat.le_of_eq hlo.symm) hr (some a0)
/-! PolicyTreeModel.joins(IIZ)Z -/
theorem dX12_joins_0 : decode cX12_joins 0 = .ok (.aload_n 0, 1) := by decide +kernel
theorem dX12_joins_1 : decode cX12_joins 1 = .ok (.iconst 0, 1) := by decide +kernel
theorem dX12_joins_2 : decode cX12_joins 2 = .ok (.putfield 97, 3) := by decide +kernel
theorem dX12_joins_5 : decode cX12_joins 5 = .ok (.aload_n 0, 1) := by decide +kernel
theorem dX12_joins_6 : decode cX12_joins 6 = .ok (.iload_n 1, 1) := by decide +kernel
theorem dX12_joins_7 : decode cX12_joins 7 = .ok (.aload_n 0, 1) := by decide +kernel
theorem dX12_joins_8 : decode cX12_joins 8 = .ok (.getfield 111, 3) := by decide +kernel
theorem dX12_joins_11 : decode cX12_joins 11 = .ok (.invokevirtual 100, 3) := by decide +kernel
theorem dX12_joins_14 : decode cX12_joins 14 = .ok (.ifCond .ne 15, 3) := by decide +kernel
theorem dX12_joins_17 : decode cX12_joins 17 = .ok (.aload_n 0, 1) := by decide +kernel
theorem dX12_joins_18 : decode cX12_joins 18 = .ok (.iload_n 2, 1) := by decide +kernel
theorem dX12_joins_19 : decode cX12_joins 19 = .ok (.aload_n 0, 1) := by decide +kernel
theorem dX12_joins_20 : decode cX12_joins 20 = .ok (.getfield 108, 3) := by decide +kernel
theorem dX12_joins_23 : decode cX12_joins 23 = .ok (.invokevirtual 100, 3) := by decide +kernel
theorem dX12_joins_26 : decode cX12_joins 26 = .ok (.ifCond .eq 5, 3) := by decide +kernel
theorem dX12_joins_29 : decode cX12_joins 29 = .ok (.iconst 0, 1) := by decide +kernel
theorem dX12_joins_30 : decode cX12_joins 30 = .ok (.ireturn, 1) := by decide +kernel
theorem dX12_joins_31 : decode cX12_joins 31 = .ok (.aload_n 0, 1) := by decide +kernel
theorem dX12_joins_32 : decode cX12_joins 32 = .ok (.getfield 23, 3) := by decide +kernel
theorem dX12_joins_35 : decode cX12_joins 35 = .ok (.iload_n 2, 1) := by decide +kernel
theorem dX12_joins_36 : decode cX12_joins 36 = .ok (.iaload, 1) := by decide +kernel
theorem dX12_joins_37 : decode cX12_joins 37 = .ok (.iload_n 1, 1) := by decide +kernel
theorem dX12_joins_38 : decode cX12_joins 38 = .ok (.ishr, 1) := by decide +kernel
theorem dX12_joins_39 : decode cX12_joins 39 = .ok (.iconst 1, 1) := by decide +kernel
theorem dX12_joins_40 : decode cX12_joins 40 = .ok (.iand, 1) := by decide +kernel
theorem dX12_joins_41 : decode cX12_joins 41 = .ok (.iconst 1, 1) := by decide +kernel
theorem dX12_joins_42 : decode cX12_joins 42 = .ok (.if_icmp .ne 7, 3) := by decide +kernel
theorem dX12_joins_45 : decode cX12_joins 45 = .ok (.iconst 1, 1) := by decide +kernel
theorem dX12_joins_46 : decode cX12_joins 46 = .ok (.goto 4, 3) := by decide +kernel
theorem dX12_joins_49 : decode cX12_joins 49 = .ok (.iconst 0, 1) := by decide +kernel
theorem dX12_joins_50 : decode cX12_joins 50 = .ok (.istore 4, 2) := by decide +kernel
theorem dX12_joins_52 : decode cX12_joins 52 = .ok (.iload 4, 2) := by decide +kernel
theorem dX12_joins_54 : decode cX12_joins 54 = .ok (.iload_n 3, 1) := by decide +kernel
theorem dX12_joins_55 : decode cX12_joins 55 = .ok (.if_icmp .eq 15, 3) := by decide +kernel
theorem dX12_joins_58 : decode cX12_joins 58 = .ok (.aload_n 0, 1) := by decide +kernel
theorem dX12_joins_59 : decode cX12_joins 59 = .ok (.getfield 23, 3) := by decide +kernel
theorem dX12_joins_62 : decode cX12_joins 62 = .ok (.iload_n 2, 1) := by decide +kernel
theorem dX12_joins_63 : decode cX12_joins 63 = .ok (.dup2, 1) := by decide +kernel
theorem dX12_joins_64 : decode cX12_joins 64 = .ok (.iaload, 1) := by decide +kernel
theorem dX12_joins_65 : decode cX12_joins 65 = .ok (.iconst 1, 1) := by decide +kernel
theorem dX12_joins_66 : decode cX12_joins 66 = .ok (.iload_n 1, 1) := by decide +kernel
theorem dX12_joins_67 : decode cX12_joins 67 = .ok (.ishl, 1) := by decide +kernel
theorem dX12_joins_68 : decode cX12_joins 68 = .ok (.ixor, 1) := by decide +kernel
theorem dX12_joins_69 : decode cX12_joins 69 = .ok (.iastore, 1) := by decide +kernel
theorem dX12_joins_70 : decode cX12_joins 70 = .ok (.iload 4, 2) := by decide +kernel
theorem dX12_joins_72 : decode cX12_joins 72 = .ok (.ireturn, 1) := by decide +kernel
def f_X12_joins_29 : Mo Int32 := rz .boolean (0 : Int32)
set_option maxRecDepth 100000 in
set_option maxHeartbeats 4000000 in
theorem s_X12_joins_29 {X : Cg} (cx : Cx X cX12_joins RX12 5) (hfr : 1 ≤ (xR X).frames) (hlo : 22 ≤ (xR X).locals) (hr : (xM X).sig.returnType = (some .boolean)) : Sim X 5 (FiM X vI) 29 [] [] (f_X12_joins_29) := by
  unfold f_X12_joins_29
  refine sm_iconst (v := 0) cx dX12_joins_29 (by decide) ?_
  exact sm_zret cx hr dX12_joins_30
def f_X12_joins_70 (x4 : Int32) : Mo Int32 := rz .boolean x4
set_option maxRecDepth 100000 in
set_option maxHeartbeats 4000000 in
theorem s_X12_joins_70 {X : Cg} (cx : Cx X cX12_joins RX12 5) (hfr : 1 ≤ (xR X).frames) (hlo : 22 ≤ (xR X).locals) (hr : (xM X).sig.returnType = (some .boolean)) (x4 : Int32) : Sim X 5 (FiM X vI) 70 [(4, .int x4)] [] (f_X12_joins_70 x4) := by
  unfold f_X12_joins_70
  refine sm_iload cx 0 dX12_joins_70 rfl ?_
  exact sm_zret cx hr dX12_joins_72
def f_X12_joins_50 (r0 : Option Nat) (x1 : Int32) (x2 : Int32) (x3 : Int32) (sx0 : Int32) : Mo Int32 := (if sx0 = x3 then f_X12_joins_70 sx0 else mb (gR 15 6 r0) (fun v59 => mb (aI 1 v59 x2) (fun v64 => mb (sI 1 v59 x2 (v64 ^^^ ((1 : Int32) <<< (x1 &&& 31)))) (fun _ => f_X12_joins_70 sx0))))
set_option maxRecDepth 100000 in
set_option maxHeartbeats 4000000 in
theorem s_X12_joins_50 {X : Cg} (cx : Cx X cX12_joins RX12 5) (hfr : 1 ≤ (xR X).frames) (hlo : 22 ≤ (xR X).locals) (hr : (xM X).sig.returnType = (some .boolean)) (r0 : Option Nat) (x1 : Int32) (x2 : Int32) (x3 : Int32) (sx0 : Int32) : Sim X 5 (FiM X vI) 50 [(0, va_rf r0), (1, .int x1), (2, .int x2), (3, .int x3)] [.int sx0] (f_X12_joins_50 r0 x1 x2 x3 sx0) := by
  unfold f_X12_joins_50
  refine sm_istore cx [(4, .int sx0), (0, va_rf r0), (1, .int x1), (2, .int x2), (3, .int x3)] dX12_joins_50 (by decide) rfl (nc1 rfl) rfl ?_
  refine sm_iload cx 0 dX12_joins_52 rfl ?_
  refine sm_iload_n cx 4 dX12_joins_54 rfl rfl ?_
  refine sm_icmp_eq (tgt := 70) cx dX12_joins_55 (by decide) ?_ ?_
  · exact sm_lv [0] rfl (s_X12_joins_70 cx hfr hlo hr sx0)
  · refine sm_aload_n cx 1 dX12_joins_58 rfl rfl ?_
    refine sm_getR cx fl_X12_23 dX12_joins_59 (fun v59 => ?_)
    refine sm_iload_n cx 3 dX12_joins_62 rfl rfl ?_
    refine sm_dup2 cx dX12_joins_63 rfl (rf_cat _) ?_
    refine sm_iald cx dX12_joins_64 (fun v64 => ?_)
    refine sm_iconst (v := 1) cx dX12_joins_65 (by decide) ?_
    refine sm_iload_n cx 2 dX12_joins_66 rfl rfl ?_
    refine sm_ishl cx dX12_joins_67 ?_
    refine sm_ixor cx dX12_joins_68 ?_
    refine sm_iast cx dX12_joins_69 ?_
    exact sm_lv [0] rfl (s_X12_joins_70 cx hfr hlo hr sx0)
def f_X12_joins (r0 : Option Nat) (x1 : Int32) (x2 : Int32) (x3 : Int32) : Mo Int32 := mb (pV 15 0 r0 (.int (0 : Int32))) (fun _ => mb (gI 15 9 r0) (fun v8 => mb (mo 15 r0 (f_X12_none r0 x1 v8)) (fun v11 => (if v11 = 0 then mb (gI 15 7 r0) (fun v20 => mb (mo 15 r0 (f_X12_none r0 x2 v20)) (fun v23 => (if v23 = 0 then mb (gR 15 6 r0) (fun v32 => mb (aI 1 v32 x2) (fun v36 => (if ((v36 >>> (x1 &&& 31)) &&& (1 : Int32)) = (1 : Int32) then f_X12_joins_50 r0 x1 x2 x3 (1 : Int32) else f_X12_joins_50 r0 x1 x2 x3 (0 : Int32)))) else f_X12_joins_29))) else f_X12_joins_29))))
set_option maxRecDepth 100000 in
set_option maxHeartbeats 4000000 in
theorem s_X12_joins {X : Cg} (cx : Cx X cX12_joins RX12 5) (hfr : 1 ≤ (xR X).frames) (hlo : 22 ≤ (xR X).locals) (hr : (xM X).sig.returnType = (some .boolean)) (r0 : Option Nat) (x1 : Int32) (x2 : Int32) (x3 : Int32) : Sim X 5 (FiM X vI) 0 [(0, va_rf r0), (1, .int x1), (2, .int x2), (3, .int x3)] [] (f_X12_joins r0 x1 x2 x3) := by
  unfold f_X12_joins
  refine sm_aload_n cx 0 dX12_joins_0 rfl rfl ?_
  refine sm_iconst (v := 0) cx dX12_joins_1 (by decide) ?_
  refine sm_putV cx fl_X12_97 rfl rfl dX12_joins_2 ?_
  refine sm_aload_n cx 0 dX12_joins_5 rfl rfl ?_
  refine sm_iload_n cx 1 dX12_joins_6 rfl rfl ?_
  refine sm_aload_n cx 0 dX12_joins_7 rfl rfl ?_
  refine sm_getI cx fl_X12_111 dX12_joins_8 (fun v8 => ?_)
  refine sm_callV (T := TX12) (N := 47) (toV := vI) cx [.int x1, .int v8] rfl cv_X12_100 (fun a h => ct_X12_none (xZ X) a h x1 v8) (Nat.le_trans (by decide) hfr) (Nat.le_trans (by decide) hlo) rfl (cat_le _ (Nat.le_of_ble_eq_true rfl)) dX12_joins_11 (fun v11 => ?_)
  refine sm_if_ne (tgt := 29) cx dX12_joins_14 (by decide) ?_ ?_
  · exact sm_lv [] rfl (s_X12_joins_29 cx hfr hlo hr)
  · refine sm_aload_n cx 0 dX12_joins_17 rfl rfl ?_
    refine sm_iload_n cx 2 dX12_joins_18 rfl rfl ?_
    refine sm_aload_n cx 0 dX12_joins_19 rfl rfl ?_
    refine sm_getI cx fl_X12_108 dX12_joins_20 (fun v20 => ?_)
    refine sm_callV (T := TX12) (N := 47) (toV := vI) cx [.int x2, .int v20] rfl cv_X12_100 (fun a h => ct_X12_none (xZ X) a h x2 v20) (Nat.le_trans (by decide) hfr) (Nat.le_trans (by decide) hlo) rfl (cat_le _ (Nat.le_of_ble_eq_true rfl)) dX12_joins_23 (fun v23 => ?_)
    refine sm_if_eq (tgt := 31) cx dX12_joins_26 (by decide) ?_ ?_
    · refine sm_aload_n cx 0 dX12_joins_31 rfl rfl ?_
      refine sm_getR cx fl_X12_23 dX12_joins_32 (fun v32 => ?_)
      refine sm_iload_n cx 2 dX12_joins_35 rfl rfl ?_
      refine sm_iald cx dX12_joins_36 (fun v36 => ?_)
      refine sm_iload_n cx 1 dX12_joins_37 rfl rfl ?_
      refine sm_ishr cx dX12_joins_38 ?_
      refine sm_iconst (v := 1) cx dX12_joins_39 (by decide) ?_
      refine sm_iand cx dX12_joins_40 ?_
      refine sm_iconst (v := 1) cx dX12_joins_41 (by decide) ?_
      refine sm_icmp_ne (tgt := 49) cx dX12_joins_42 (by decide) ?_ ?_
      · refine sm_iconst (v := 0) cx dX12_joins_49 (by decide) ?_
        exact sm_lv [0, 1, 2, 3] rfl (s_X12_joins_50 cx hfr hlo hr r0 x1 x2 x3 (0 : Int32))
      · refine sm_iconst (v := 1) cx dX12_joins_45 (by decide) ?_
        refine sm_goto (tgt := 50) cx dX12_joins_46 (by decide) ?_
        exact sm_lv [0, 1, 2, 3] rfl (s_X12_joins_50 cx hfr hlo hr r0 x1 x2 x3 (1 : Int32))
    · exact sm_lv [] rfl (s_X12_joins_29 cx hfr hlo hr)
set_option maxRecDepth 100000 in
set_option maxHeartbeats 4000000 in
theorem ct_X12_joins (Z : Nat → Nat) {r0 : Option Nat} (a0 : Nat) (h0 : r0 = some a0) (x1 : Int32) (x2 : Int32) (x3 : Int32) : Ct yX12_joins cX12_joins 5 (some .boolean) 1 22 Z [.ref a0, .int x1, .int x2, .int x3] vI (f_X12_joins r0 x1 x2 x3) := by
  subst h0
  refine ct_of (lv0 := [(0, va_rf (some a0)), (1, .int x1), (2, .int x2), (3, .int x3)]) (by decide +kernel) (by simp [lg_sl, ct_i, ct_l, ct_r, rf_cat]) (by show _ = ([(0, Value.ref a0), (1, .int x1), (2, .int x2), (3, .int x3)] : List (Nat × Value)); simp [lv_args, ct_i, ct_l, ct_r, rf_cat]) (fun X cx hZ hfr hlo hr hin => ?_)
  subst hZ
  exact s_X12_joins cx (Nat.le_of_eq hfr.symm) (Nat.le_of_eq hlo.symm) hr (some a0) x1 x2 x3
/-! PolicyTreeModel.within(IIZ)Z -/
theorem dX12_within_0 : decode cX12_within 0 = .ok (.aload_n 0, 1) := by decide +kernel
theorem dX12_within_1 : decode cX12_within 1 = .ok (.iconst 0, 1) := by decide +kernel
theorem dX12_within_2 : decode cX12_within 2 = .ok (.putfield 97, 3) := by decide +kernel
theorem dX12_within_5 : decode cX12_within 5 = .ok (.aload_n 0, 1) := by decide +kernel
theorem dX12_within_6 : decode cX12_within 6 = .ok (.iload_n 1, 1) := by decide +kernel
theorem dX12_within_7 : decode cX12_within 7 = .ok (.aload_n 0, 1) := by decide +kernel
theorem dX12_within_8 : decode cX12_within 8 = .ok (.getfield 111, 3) := by decide +kernel
theorem dX12_within_11 : decode cX12_within 11 = .ok (.invokevirtual 100, 3) := by decide +kernel
theorem dX12_within_14 : decode cX12_within 14 = .ok (.ifCond .ne 15, 3) := by decide +kernel
theorem dX12_within_17 : decode cX12_within 17 = .ok (.aload_n 0, 1) := by decide +kernel
theorem dX12_within_18 : decode cX12_within 18 = .ok (.iload_n 2, 1) := by decide +kernel
theorem dX12_within_19 : decode cX12_within 19 = .ok (.aload_n 0, 1) := by decide +kernel
theorem dX12_within_20 : decode cX12_within 20 = .ok (.getfield 111, 3) := by decide +kernel
theorem dX12_within_23 : decode cX12_within 23 = .ok (.invokevirtual 100, 3) := by decide +kernel
theorem dX12_within_26 : decode cX12_within 26 = .ok (.ifCond .eq 5, 3) := by decide +kernel
theorem dX12_within_29 : decode cX12_within 29 = .ok (.iconst 0, 1) := by decide +kernel
theorem dX12_within_30 : decode cX12_within 30 = .ok (.ireturn, 1) := by decide +kernel
theorem dX12_within_31 : decode cX12_within 31 = .ok (.aload_n 0, 1) := by decide +kernel
theorem dX12_within_32 : decode cX12_within 32 = .ok (.getfield 26, 3) := by decide +kernel
theorem dX12_within_35 : decode cX12_within 35 = .ok (.iload_n 1, 1) := by decide +kernel
theorem dX12_within_36 : decode cX12_within 36 = .ok (.iaload, 1) := by decide +kernel
theorem dX12_within_37 : decode cX12_within 37 = .ok (.iload_n 2, 1) := by decide +kernel
theorem dX12_within_38 : decode cX12_within 38 = .ok (.ishr, 1) := by decide +kernel
theorem dX12_within_39 : decode cX12_within 39 = .ok (.iconst 1, 1) := by decide +kernel
theorem dX12_within_40 : decode cX12_within 40 = .ok (.iand, 1) := by decide +kernel
theorem dX12_within_41 : decode cX12_within 41 = .ok (.iconst 1, 1) := by decide +kernel
theorem dX12_within_42 : decode cX12_within 42 = .ok (.if_icmp .ne 7, 3) := by decide +kernel
theorem dX12_within_45 : decode cX12_within 45 = .ok (.iconst 1, 1) := by decide +kernel
theorem dX12_within_46 : decode cX12_within 46 = .ok (.goto 4, 3) := by decide +kernel
theorem dX12_within_49 : decode cX12_within 49 = .ok (.iconst 0, 1) := by decide +kernel
theorem dX12_within_50 : decode cX12_within 50 = .ok (.istore 4, 2) := by decide +kernel
theorem dX12_within_52 : decode cX12_within 52 = .ok (.iload 4, 2) := by decide +kernel
theorem dX12_within_54 : decode cX12_within 54 = .ok (.iload_n 3, 1) := by decide +kernel
theorem dX12_within_55 : decode cX12_within 55 = .ok (.if_icmp .eq 15, 3) := by decide +kernel
theorem dX12_within_58 : decode cX12_within 58 = .ok (.aload_n 0, 1) := by decide +kernel
theorem dX12_within_59 : decode cX12_within 59 = .ok (.getfield 26, 3) := by decide +kernel
theorem dX12_within_62 : decode cX12_within 62 = .ok (.iload_n 1, 1) := by decide +kernel
theorem dX12_within_63 : decode cX12_within 63 = .ok (.dup2, 1) := by decide +kernel
theorem dX12_within_64 : decode cX12_within 64 = .ok (.iaload, 1) := by decide +kernel
theorem dX12_within_65 : decode cX12_within 65 = .ok (.iconst 1, 1) := by decide +kernel
theorem dX12_within_66 : decode cX12_within 66 = .ok (.iload_n 2, 1) := by decide +kernel
theorem dX12_within_67 : decode cX12_within 67 = .ok (.ishl, 1) := by decide +kernel
theorem dX12_within_68 : decode cX12_within 68 = .ok (.ixor, 1) := by decide +kernel
theorem dX12_within_69 : decode cX12_within 69 = .ok (.iastore, 1) := by decide +kernel
theorem dX12_within_70 : decode cX12_within 70 = .ok (.iload 4, 2) := by decide +kernel
theorem dX12_within_72 : decode cX12_within 72 = .ok (.ireturn, 1) := by decide +kernel
def f_X12_within_29 : Mo Int32 := rz .boolean (0 : Int32)
set_option maxRecDepth 100000 in
set_option maxHeartbeats 4000000 in
theorem s_X12_within_29 {X : Cg} (cx : Cx X cX12_within RX12 5) (hfr : 1 ≤ (xR X).frames) (hlo : 22 ≤ (xR X).locals) (hr : (xM X).sig.returnType = (some .boolean)) : Sim X 5 (FiM X vI) 29 [] [] (f_X12_within_29) := by
  unfold f_X12_within_29
  refine sm_iconst (v := 0) cx dX12_within_29 (by decide) ?_
  exact sm_zret cx hr dX12_within_30
def f_X12_within_70 (x4 : Int32) : Mo Int32 := rz .boolean x4
set_option maxRecDepth 100000 in
set_option maxHeartbeats 4000000 in
theorem s_X12_within_70 {X : Cg} (cx : Cx X cX12_within RX12 5) (hfr : 1 ≤ (xR X).frames) (hlo : 22 ≤ (xR X).locals) (hr : (xM X).sig.returnType = (some .boolean)) (x4 : Int32) : Sim X 5 (FiM X vI) 70 [(4, .int x4)] [] (f_X12_within_70 x4) := by
  unfold f_X12_within_70
  refine sm_iload cx 0 dX12_within_70 rfl ?_
  exact sm_zret cx hr dX12_within_72
def f_X12_within_50 (r0 : Option Nat) (x1 : Int32) (x2 : Int32) (x3 : Int32) (sx0 : Int32) : Mo Int32 := (if sx0 = x3 then f_X12_within_70 sx0 else mb (gR 15 8 r0) (fun v59 => mb (aI 1 v59 x1) (fun v64 => mb (sI 1 v59 x1 (v64 ^^^ ((1 : Int32) <<< (x2 &&& 31)))) (fun _ => f_X12_within_70 sx0))))
set_option maxRecDepth 100000 in
set_option maxHeartbeats 4000000 in
theorem s_X12_within_50 {X : Cg} (cx : Cx X cX12_within RX12 5) (hfr : 1 ≤ (xR X).frames) (hlo : 22 ≤ (xR X).locals) (hr : (xM X).sig.returnType = (some .boolean)) (r0 : Option Nat) (x1 : Int32) (x2 : Int32) (x3 : Int32) (sx0 : Int32) : Sim X 5 (FiM X vI) 50 [(0, va_rf r0), (1, .int x1), (2, .int x2), (3, .int x3)] [.int sx0] (f_X12_within_50 r0 x1 x2 x3 sx0) := by
  unfold f_X12_within_50
  refine sm_istore cx [(4, .int sx0), (0, va_rf r0), (1, .int x1), (2, .int x2), (3, .int x3)] dX12_within_50 (by decide) rfl (nc1 rfl) rfl ?_
  refine sm_iload cx 0 dX12_within_52 rfl ?_
  refine sm_iload_n cx 4 dX12_within_54 rfl rfl ?_
  refine sm_icmp_eq (tgt := 70) cx dX12_within_55 (by decide) ?_ ?_
  · exact sm_lv [0] rfl (s_X12_within_70 cx hfr hlo hr sx0)
  · refine sm_aload_n cx 1 dX12_within_58 rfl rfl ?_
    refine sm_getR cx fl_X12_26 dX12_within_59 (fun v59 => ?_)
    refine sm_iload_n cx 2 dX12_within_62 rfl rfl ?_
    refine sm_dup2 cx dX12_within_63 rfl (rf_cat _) ?_
    refine sm_iald cx dX12_within_64 (fun v64 => ?_)
    refine sm_iconst (v := 1) cx dX12_within_65 (by decide) ?_
    refine sm_iload_n cx 3 dX12_within_66 rfl rfl ?_
    refine sm_ishl cx dX12_within_67 ?_
    refine sm_ixor cx dX12_within_68 ?_
    refine sm_iast cx dX12_within_69 ?_
    exact sm_lv [0] rfl (s_X12_within_70 cx hfr hlo hr sx0)
def f_X12_within (r0 : Option Nat) (x1 : Int32) (x2 : Int32) (x3 : Int32) : Mo Int32 := mb (pV 15 0 r0 (.int (0 : Int32))) (fun _ => mb (gI 15 9 r0) (fun v8 => mb (mo 15 r0 (f_X12_none r0 x1 v8)) (fun v11 => (if v11 = 0 then mb (gI 15 9 r0) (fun v20 => mb (mo 15 r0 (f_X12_none r0 x2 v20)) (fun v23 => (if v23 = 0 then mb (gR 15 8 r0) (fun v32 => mb (aI 1 v32 x1) (fun v36 => (if ((v36 >>> (x2 &&& 31)) &&& (1 : Int32)) = (1 : Int32) then f_X12_within_50 r0 x1 x2 x3 (1 : Int32) else f_X12_within_50 r0 x1 x2 x3 (0 : Int32)))) else f_X12_within_29))) else f_X12_within_29))))
set_option maxRecDepth 100000 in
set_option maxHeartbeats 4000000 in
theorem s_X12_within {X : Cg} (cx : Cx X cX12_within RX12 5) (hfr : 1 ≤ (xR X).frames) (hlo : 22 ≤ (xR X).locals) (hr : (xM X).sig.returnType = (some .boolean)) (r0 : Option Nat) (x1 : Int32) (x2 : Int32) (x3 : Int32) : Sim X 5 (FiM X vI) 0 [(0, va_rf r0), (1, .int x1), (2, .int x2), (3, .int x3)] [] (f_X12_within r0 x1 x2 x3) := by
  unfold f_X12_within
  refine sm_aload_n cx 0 dX12_within_0 rfl rfl ?_
  refine sm_iconst (v := 0) cx dX12_within_1 (by decide) ?_
  refine sm_putV cx fl_X12_97 rfl rfl dX12_within_2 ?_
  refine sm_aload_n cx 0 dX12_within_5 rfl rfl ?_
  refine sm_iload_n cx 1 dX12_within_6 rfl rfl ?_
  refine sm_aload_n cx 0 dX12_within_7 rfl rfl ?_
  refine sm_getI cx fl_X12_111 dX12_within_8 (fun v8 => ?_)
  refine sm_callV (T := TX12) (N := 47) (toV := vI) cx [.int x1, .int v8] rfl cv_X12_100 (fun a h => ct_X12_none (xZ X) a h x1 v8) (Nat.le_trans (by decide) hfr) (Nat.le_trans (by decide) hlo) rfl (cat_le _ (Nat.le_of_ble_eq_true rfl)) dX12_within_11 (fun v11 => ?_)
  refine sm_if_ne (tgt := 29) cx dX12_within_14 (by decide) ?_ ?_
  · exact sm_lv [] rfl (s_X12_within_29 cx hfr hlo hr)
  · refine sm_aload_n cx 0 dX12_within_17 rfl rfl ?_
    refine sm_iload_n cx 2 dX12_within_18 rfl rfl ?_
    refine sm_aload_n cx 0 dX12_within_19 rfl rfl ?_
    refine sm_getI cx fl_X12_111 dX12_within_20 (fun v20 => ?_)
    refine sm_callV (T := TX12) (N := 47) (toV := vI) cx [.int x2, .int v20] rfl cv_X12_100 (fun a h => ct_X12_none (xZ X) a h x2 v20) (Nat.le_trans (by decide) hfr) (Nat.le_trans (by decide) hlo) rfl (cat_le _ (Nat.le_of_ble_eq_true rfl)) dX12_within_23 (fun v23 => ?_)
    refine sm_if_eq (tgt := 31) cx dX12_within_26 (by decide) ?_ ?_
    · refine sm_aload_n cx 0 dX12_within_31 rfl rfl ?_
      refine sm_getR cx fl_X12_26 dX12_within_32 (fun v32 => ?_)
      refine sm_iload_n cx 1 dX12_within_35 rfl rfl ?_
      refine sm_iald cx dX12_within_36 (fun v36 => ?_)
      refine sm_iload_n cx 2 dX12_within_37 rfl rfl ?_
      refine sm_ishr cx dX12_within_38 ?_
      refine sm_iconst (v := 1) cx dX12_within_39 (by decide) ?_
      refine sm_iand cx dX12_within_40 ?_
      refine sm_iconst (v := 1) cx dX12_within_41 (by decide) ?_
      refine sm_icmp_ne (tgt := 49) cx dX12_within_42 (by decide) ?_ ?_
      · refine sm_iconst (v := 0) cx dX12_within_49 (by decide) ?_
        exact sm_lv [0, 1, 2, 3] rfl (s_X12_within_50 cx hfr hlo hr r0 x1 x2 x3 (0 : Int32))
      · refine sm_iconst (v := 1) cx dX12_within_45 (by decide) ?_
        refine sm_goto (tgt := 50) cx dX12_within_46 (by decide) ?_
        exact sm_lv [0, 1, 2, 3] rfl (s_X12_within_50 cx hfr hlo hr r0 x1 x2 x3 (1 : Int32))
    · exact sm_lv [] rfl (s_X12_within_29 cx hfr hlo hr)
set_option maxRecDepth 100000 in
set_option maxHeartbeats 4000000 in
theorem ct_X12_within (Z : Nat → Nat) {r0 : Option Nat} (a0 : Nat) (h0 : r0 = some a0) (x1 : Int32) (x2 : Int32) (x3 : Int32) : Ct yX12_within cX12_within 5 (some .boolean) 1 22 Z [.ref a0, .int x1, .int x2, .int x3] vI (f_X12_within r0 x1 x2 x3) := by
  subst h0
  refine ct_of (lv0 := [(0, va_rf (some a0)), (1, .int x1), (2, .int x2), (3, .int x3)]) (by decide +kernel) (by simp [lg_sl, ct_i, ct_l, ct_r, rf_cat]) (by show _ = ([(0, Value.ref a0), (1, .int x1), (2, .int x2), (3, .int x3)] : List (Nat × Value)); simp [lv_args, ct_i, ct_l, ct_r, rf_cat]) (fun X cx hZ hfr hlo hr hin => ?_)
  subst hZ
  exact s_X12_within cx (Nat.le_of_eq hfr.symm) (Nat.le_of_eq hlo.symm) hr (some a0) x1 x2 x3
/-! PolicyTreeModel.allIn(I)I -/
theorem dX12_allIn_0 : decode cX12_allIn 0 = .ok (.iconst 1, 1) := by decide +kernel
theorem dX12_allIn_1 : decode cX12_allIn 1 = .ok (.iload_n 1, 1) := by decide +kernel
theorem dX12_allIn_2 : decode cX12_allIn 2 = .ok (.ishl, 1) := by decide +kernel
theorem dX12_allIn_3 : decode cX12_allIn 3 = .ok (.istore_n 2, 1) := by decide +kernel
theorem dX12_allIn_4 : decode cX12_allIn 4 = .ok (.iconst 0, 1) := by decide +kernel
theorem dX12_allIn_5 : decode cX12_allIn 5 = .ok (.istore_n 3, 1) := by decide +kernel
theorem dX12_allIn_6 : decode cX12_allIn 6 = .ok (.iload_n 2, 1) := by decide +kernel
theorem dX12_allIn_7 : decode cX12_allIn 7 = .ok (.iload_n 3, 1) := by decide +kernel
theorem dX12_allIn_8 : decode cX12_allIn 8 = .ok (.if_icmp .eq 46, 3) := by decide +kernel
theorem dX12_allIn_11 : decode cX12_allIn 11 = .ok (.iload_n 2, 1) := by decide +kernel
theorem dX12_allIn_12 : decode cX12_allIn 12 = .ok (.istore_n 3, 1) := by decide +kernel
theorem dX12_allIn_13 : decode cX12_allIn 13 = .ok (.iconst 0, 1) := by decide +kernel
theorem dX12_allIn_14 : decode cX12_allIn 14 = .ok (.istore 4, 2) := by decide +kernel
theorem dX12_allIn_16 : decode cX12_allIn 16 = .ok (.iload 4, 2) := by decide +kernel
theorem dX12_allIn_18 : decode cX12_allIn 18 = .ok (.aload_n 0, 1) := by decide +kernel
theorem dX12_allIn_19 : decode cX12_allIn 19 = .ok (.getfield 111, 3) := by decide +kernel
theorem dX12_allIn_22 : decode cX12_allIn 22 = .ok (.if_icmp .ge 29, 3) := by decide +kernel
theorem dX12_allIn_25 : decode cX12_allIn 25 = .ok (.iload_n 3, 1) := by decide +kernel
theorem dX12_allIn_26 : decode cX12_allIn 26 = .ok (.iload 4, 2) := by decide +kernel
theorem dX12_allIn_28 : decode cX12_allIn 28 = .ok (.ishr, 1) := by decide +kernel
theorem dX12_allIn_29 : decode cX12_allIn 29 = .ok (.iconst 1, 1) := by decide +kernel
theorem dX12_allIn_30 : decode cX12_allIn 30 = .ok (.iand, 1) := by decide +kernel
theorem dX12_allIn_31 : decode cX12_allIn 31 = .ok (.iconst 1, 1) := by decide +kernel
theorem dX12_allIn_32 : decode cX12_allIn 32 = .ok (.if_icmp .ne 13, 3) := by decide +kernel
theorem dX12_allIn_35 : decode cX12_allIn 35 = .ok (.iload_n 2, 1) := by decide +kernel
theorem dX12_allIn_36 : decode cX12_allIn 36 = .ok (.aload_n 0, 1) := by decide +kernel
theorem dX12_allIn_37 : decode cX12_allIn 37 = .ok (.getfield 26, 3) := by decide +kernel
theorem dX12_allIn_40 : decode cX12_allIn 40 = .ok (.iload 4, 2) := by decide +kernel
theorem dX12_allIn_42 : decode cX12_allIn 42 = .ok (.iaload, 1) := by decide +kernel
theorem dX12_allIn_43 : decode cX12_allIn 43 = .ok (.ior, 1) := by decide +kernel
theorem dX12_allIn_44 : decode cX12_allIn 44 = .ok (.istore_n 2, 1) := by decide +kernel
theorem dX12_allIn_45 : decode cX12_allIn 45 = .ok (.iinc 4 1, 3) := by decide +kernel
theorem dX12_allIn_48 : decode cX12_allIn 48 = .ok (.goto (-32), 3) := by decide +kernel
theorem dX12_allIn_51 : decode cX12_allIn 51 = .ok (.goto (-45), 3) := by decide +kernel
theorem dX12_allIn_54 : decode cX12_allIn 54 = .ok (.iload_n 2, 1) := by decide +kernel
theorem dX12_allIn_55 : decode cX12_allIn 55 = .ok (.ireturn, 1) := by decide +kernel
def f_X12_allIn_45 (k6 : Int32 → Int32 → Mo Int32) (k16 : Int32 → Int32 → Mo Int32) (r0 : Option Nat) (x2 : Int32) (x3 : Int32) (x4 : Int32) : Mo Int32 := k16 x2 (x4 + 1)
set_option maxRecDepth 100000 in
set_option maxHeartbeats 4000000 in
theorem s_X12_allIn_45 {X : Cg} (cx : Cx X cX12_allIn RX12 5) (hfr : 0 ≤ (xR X).frames) (hlo : 0 ≤ (xR X).locals) (hr : (xM X).sig.returnType = (some .int)) (r0 : Option Nat) (x2 : Int32) (x3 : Int32) (x4 : Int32) {k6 : Int32 → Int32 → Mo Int32} (hk6 : ∀ (x2 : Int32) (x3 : Int32), Sim X 5 (FiM X vI) 6 [(0, va_rf r0), (2, .int x2), (3, .int x3)] [] (k6 x2 x3)) {k16 : Int32 → Int32 → Mo Int32} (hk16 : ∀ (x2 : Int32) (x4 : Int32), Sim X 5 (FiM X vI) 16 [(0, va_rf r0), (2, .int x2), (3, .int x3), (4, .int x4)] [] (k16 x2 x4)) : Sim X 5 (FiM X vI) 45 [(0, va_rf r0), (2, .int x2), (3, .int x3), (4, .int x4)] [] (f_X12_allIn_45 k6 k16 r0 x2 x3 x4) := by
  unfold f_X12_allIn_45
  refine sm_iinc cx 3 [(4, .int (x4 + 1)), (0, va_rf r0), (2, .int x2), (3, .int x3)] dX12_allIn_45 rfl rfl (by decide) rfl (nc1 rfl) rfl ?_
  refine sm_goto (tgt := 16) cx dX12_allIn_48 (by decide) ?_
  exact sm_lv [1, 2, 3, 0] rfl (hk16 x2 (x4 + 1))
def f_X12_allIn_16 (k6 : Int32 → Int32 → Mo Int32) (r0 : Option Nat) (x3 : Int32) : Nat → Int32 → Int32 → Mo Int32
  | 0, _, _ => mf
  | n + 1, x2, x4 => mb (gI 15 9 r0) (fun v19 => (if v19 ≤ x4 then k6 x2 x3 else (if ((x3 >>> (x4 &&& 31)) &&& (1 : Int32)) = (1 : Int32) then mb (gR 15 8 r0) (fun v37 => mb (aI 1 v37 x4) (fun v42 => f_X12_allIn_45 k6 (f_X12_allIn_16 k6 r0 x3 n) r0 (x2 ||| v42) x3 x4)) else f_X12_allIn_45 k6 (f_X12_allIn_16 k6 r0 x3 n) r0 x2 x3 x4)))
set_option maxRecDepth 100000 in
set_option maxHeartbeats 4000000 in
theorem s_X12_allIn_16 {X : Cg} (cx : Cx X cX12_allIn RX12 5) (hfr : 0 ≤ (xR X).frames) (hlo : 0 ≤ (xR X).locals) (hr : (xM X).sig.returnType = (some .int)) (r0 : Option Nat) (x3 : Int32) {k6 : Int32 → Int32 → Mo Int32} (hk6 : ∀ (x2 : Int32) (x3 : Int32), Sim X 5 (FiM X vI) 6 [(0, va_rf r0), (2, .int x2), (3, .int x3)] [] (k6 x2 x3)) : ∀ (n : Nat) (x2 : Int32) (x4 : Int32), Sim X 5 (FiM X vI) 16 [(0, va_rf r0), (2, .int x2), (3, .int x3), (4, .int x4)] [] (f_X12_allIn_16 k6 r0 x3 n x2 x4) := by
  intro n
  induction n with
  | zero =>
    intro _ _
    exact sm_mf
  | succ n ih =>
    intro x2 x4
    rw [f_X12_allIn_16]
    refine sm_iload cx 3 dX12_allIn_16 rfl ?_
    refine sm_aload_n cx 0 dX12_allIn_18 rfl rfl ?_
    refine sm_getI cx fl_X12_111 dX12_allIn_19 (fun v19 => ?_)
    refine sm_icmp_ge (tgt := 51) cx dX12_allIn_22 (by decide) ?_ ?_
    · refine sm_goto (tgt := 6) cx dX12_allIn_51 (by decide) ?_
      exact sm_lv [0, 1, 2] rfl (hk6 x2 x3)
    · refine sm_iload_n cx 2 dX12_allIn_25 rfl rfl ?_
      refine sm_iload cx 3 dX12_allIn_26 rfl ?_
      refine sm_ishr cx dX12_allIn_28 ?_
      refine sm_iconst (v := 1) cx dX12_allIn_29 (by decide) ?_
      refine sm_iand cx dX12_allIn_30 ?_
      refine sm_iconst (v := 1) cx dX12_allIn_31 (by decide) ?_
      refine sm_icmp_ne (tgt := 45) cx dX12_allIn_32 (by decide) ?_ ?_
      · exact sm_lv [0, 1, 2, 3] rfl (s_X12_allIn_45 cx hfr hlo hr r0 x2 x3 x4 hk6 ih)
      · refine sm_iload_n cx 1 dX12_allIn_35 rfl rfl ?_
        refine sm_aload_n cx 0 dX12_allIn_36 rfl rfl ?_
        refine sm_getR cx fl_X12_26 dX12_allIn_37 (fun v37 => ?_)
        refine sm_iload cx 3 dX12_allIn_40 rfl ?_
        refine sm_iald cx dX12_allIn_42 (fun v42 => ?_)
        refine sm_ior cx dX12_allIn_43 ?_
        refine sm_istore_n cx [(2, .int (x2 ||| v42)), (0, va_rf r0), (3, .int x3), (4, .int x4)] dX12_allIn_44 rfl (by decide) rfl nc0 rfl ?_
        exact sm_lv [1, 0, 2, 3] rfl (s_X12_allIn_45 cx hfr hlo hr r0 (x2 ||| v42) x3 x4 hk6 ih)
def f_X12_allIn_6 (r0 : Option Nat) : Nat → Int32 → Int32 → Mo Int32
  | 0, _, _ => mf
  | n + 1, x2, x3 => (if x2 = x3 then mp x2 else f_X12_allIn_16 (f_X12_allIn_6 r0 n) r0 x2 fuL x2 (0 : Int32))
set_option maxRecDepth 100000 in
set_option maxHeartbeats 4000000 in
theorem s_X12_allIn_6 {X : Cg} (cx : Cx X cX12_allIn RX12 5) (hfr : 0 ≤ (xR X).frames) (hlo : 0 ≤ (xR X).locals) (hr : (xM X).sig.returnType = (some .int)) (r0 : Option Nat) : ∀ (n : Nat) (x2 : Int32) (x3 : Int32), Sim X 5 (FiM X vI) 6 [(0, va_rf r0), (2, .int x2), (3, .int x3)] [] (f_X12_allIn_6 r0 n x2 x3) := by
  intro n
  induction n with
  | zero =>
    intro _ _
    exact sm_mf
  | succ n ih =>
    intro x2 x3
    rw [f_X12_allIn_6]
    refine sm_iload_n cx 1 dX12_allIn_6 rfl rfl ?_
    refine sm_iload_n cx 2 dX12_allIn_7 rfl rfl ?_
    refine sm_icmp_eq (tgt := 54) cx dX12_allIn_8 (by decide) ?_ ?_
    · refine sm_iload_n cx 1 dX12_allIn_54 rfl rfl ?_
      exact sm_iret cx hr dX12_allIn_55
    · refine sm_iload_n cx 1 dX12_allIn_11 rfl rfl ?_
      refine sm_istore_n cx [(3, .int x2), (0, va_rf r0), (2, .int x2)] dX12_allIn_12 rfl (by decide) rfl (nc1 rfl) rfl ?_
      refine sm_iconst (v := 0) cx dX12_allIn_13 (by decide) ?_
      refine sm_istore cx [(4, .int (0 : Int32)), (3, .int x2), (0, va_rf r0), (2, .int x2)] dX12_allIn_14 (by decide) rfl (nc1 rfl) rfl ?_
      exact sm_lv [2, 3, 1, 0] rfl (s_X12_allIn_16 cx hfr hlo hr r0 x2 ih fuL x2 (0 : Int32))
def f_X12_allIn (r0 : Option Nat) (x1 : Int32) : Mo Int32 := f_X12_allIn_6 r0 fuL ((1 : Int32) <<< (x1 &&& 31)) (0 : Int32)
set_option maxRecDepth 100000 in
set_option maxHeartbeats 4000000 in
theorem s_X12_allIn {X : Cg} (cx : Cx X cX12_allIn RX12 5) (hfr : 0 ≤ (xR X).frames) (hlo : 0 ≤ (xR X).locals) (hr : (xM X).sig.returnType = (some .int)) (r0 : Option Nat) (x1 : Int32) : Sim X 5 (FiM X vI) 0 [(0, va_rf r0), (1, .int x1)] [] (f_X12_allIn r0 x1) := by
  unfold f_X12_allIn
  refine sm_iconst (v := 1) cx dX12_allIn_0 (by decide) ?_
  refine sm_iload_n cx 1 dX12_allIn_1 rfl rfl ?_
  refine sm_ishl cx dX12_allIn_2 ?_
  refine sm_istore_n cx [(2, .int ((1 : Int32) <<< (x1 &&& 31))), (0, va_rf r0), (1, .int x1)] dX12_allIn_3 rfl (by decide) rfl (nc1 rfl) rfl ?_
  refine sm_iconst (v := 0) cx dX12_allIn_4 (by decide) ?_
  refine sm_istore_n cx [(3, .int (0 : Int32)), (2, .int ((1 : Int32) <<< (x1 &&& 31))), (0, va_rf r0), (1, .int x1)] dX12_allIn_5 rfl (by decide) rfl (nc1 rfl) rfl ?_
  exact sm_lv [2, 1, 0] rfl (s_X12_allIn_6 cx hfr hlo hr r0 fuL ((1 : Int32) <<< (x1 &&& 31)) (0 : Int32))
set_option maxRecDepth 100000 in
set_option maxHeartbeats 4000000 in
theorem ct_X12_allIn (Z : Nat → Nat) {r0 : Option Nat} (a0 : Nat) (h0 : r0 = some a0) (x1 : Int32) : Ct yX12_allIn cX12_allIn 5 (some .int) 0 0 Z [.ref a0, .int x1] vI (f_X12_allIn r0 x1) := by
  subst h0
  refine ct_of (lv0 := [(0, va_rf (some a0)), (1, .int x1)]) (by decide +kernel) (by simp [lg_sl, ct_i, ct_l, ct_r, rf_cat]) (by show _ = ([(0, Value.ref a0), (1, .int x1)] : List (Nat × Value)); simp [lv_args, ct_i, ct_l, ct_r, rf_cat]) (fun X cx hZ hfr hlo hr hin => ?_)
  subst hZ
  exact s_X12_allIn cx (Nat.le_of_eq hfr.symm) (Nat.le_of_eq hlo.symm) hr (some a0) x1
/-! PolicyTreeModel.member(II)Z -/
theorem dX12_member_0 : decode cX12_member 0 = .ok (.aload_n 0, 1) := by decide +kernel
theorem dX12_member_1 : decode cX12_member 1 = .ok (.iconst 0, 1) := by decide +kernel
theorem dX12_member_2 : decode cX12_member 2 = .ok (.putfield 97, 3) := by decide +kernel
theorem dX12_member_5 : decode cX12_member 5 = .ok (.aload_n 0, 1) := by decide +kernel
theorem dX12_member_6 : decode cX12_member 6 = .ok (.iload_n 1, 1) := by decide +kernel
theorem dX12_member_7 : decode cX12_member 7 = .ok (.aload_n 0, 1) := by decide +kernel
theorem dX12_member_8 : decode cX12_member 8 = .ok (.getfield 111, 3) := by decide +kernel
theorem dX12_member_11 : decode cX12_member 11 = .ok (.invokevirtual 100, 3) := by decide +kernel
theorem dX12_member_14 : decode cX12_member 14 = .ok (.ifCond .ne 15, 3) := by decide +kernel
theorem dX12_member_17 : decode cX12_member 17 = .ok (.aload_n 0, 1) := by decide +kernel
theorem dX12_member_18 : decode cX12_member 18 = .ok (.iload_n 2, 1) := by decide +kernel
theorem dX12_member_19 : decode cX12_member 19 = .ok (.aload_n 0, 1) := by decide +kernel
theorem dX12_member_20 : decode cX12_member 20 = .ok (.getfield 108, 3) := by decide +kernel
theorem dX12_member_23 : decode cX12_member 23 = .ok (.invokevirtual 100, 3) := by decide +kernel
theorem dX12_member_26 : decode cX12_member 26 = .ok (.ifCond .eq 5, 3) := by decide +kernel
theorem dX12_member_29 : decode cX12_member 29 = .ok (.iconst 0, 1) := by decide +kernel
theorem dX12_member_30 : decode cX12_member 30 = .ok (.ireturn, 1) := by decide +kernel
theorem dX12_member_31 : decode cX12_member 31 = .ok (.aload_n 0, 1) := by decide +kernel
theorem dX12_member_32 : decode cX12_member 32 = .ok (.iload_n 1, 1) := by decide +kernel
theorem dX12_member_33 : decode cX12_member 33 = .ok (.invokevirtual 114, 3) := by decide +kernel
theorem dX12_member_36 : decode cX12_member 36 = .ok (.aload_n 0, 1) := by decide +kernel
theorem dX12_member_37 : decode cX12_member 37 = .ok (.getfield 23, 3) := by decide +kernel
theorem dX12_member_40 : decode cX12_member 40 = .ok (.iload_n 2, 1) := by decide +kernel
theorem dX12_member_41 : decode cX12_member 41 = .ok (.iaload, 1) := by decide +kernel
theorem dX12_member_42 : decode cX12_member 42 = .ok (.iand, 1) := by decide +kernel
theorem dX12_member_43 : decode cX12_member 43 = .ok (.ifCond .eq 7, 3) := by decide +kernel
theorem dX12_member_46 : decode cX12_member 46 = .ok (.iconst 1, 1) := by decide +kernel
theorem dX12_member_47 : decode cX12_member 47 = .ok (.goto 4, 3) := by decide +kernel
theorem dX12_member_50 : decode cX12_member 50 = .ok (.iconst 0, 1) := by decide +kernel
theorem dX12_member_51 : decode cX12_member 51 = .ok (.ireturn, 1) := by decide +kernel
def f_X12_member_29 : Mo Int32 := rz .boolean (0 : Int32)
set_option maxRecDepth 100000 in
set_option maxHeartbeats 4000000 in
theorem s_X12_member_29 {X : Cg} (cx : Cx X cX12_member RX12 3) (hfr : 1 ≤ (xR X).frames) (hlo : 24 ≤ (xR X).locals) (hr : (xM X).sig.returnType = (some .boolean)) : Sim X 3 (FiM X vI) 29 [] [] (f_X12_member_29) := by
  unfold f_X12_member_29
  refine sm_iconst (v := 0) cx dX12_member_29 (by decide) ?_
  exact sm_zret cx hr dX12_member_30
def f_X12_member_51 (sx0 : Int32) : Mo Int32 := rz .boolean sx0
set_option maxRecDepth 100000 in
set_option maxHeartbeats 4000000 in
theorem s_X12_member_51 {X : Cg} (cx : Cx X cX12_member RX12 3) (hfr : 1 ≤ (xR X).frames) (hlo : 24 ≤ (xR X).locals) (hr : (xM X).sig.returnType = (some .boolean)) (sx0 : Int32) : Sim X 3 (FiM X vI) 51 [] [.int sx0] (f_X12_member_51 sx0) := by
  unfold f_X12_member_51
  exact sm_zret cx hr dX12_member_51
def f_X12_member (r0 : Option Nat) (x1 : Int32) (x2 : Int32) : Mo Int32 := mb (pV 15 0 r0 (.int (0 : Int32))) (fun _ => mb (gI 15 9 r0) (fun v8 => mb (mo 15 r0 (f_X12_none r0 x1 v8)) (fun v11 => (if v11 = 0 then mb (gI 15 7 r0) (fun v20 => mb (mo 15 r0 (f_X12_none r0 x2 v20)) (fun v23 => (if v23 = 0 then mb (mo 15 r0 (f_X12_allIn r0 x1)) (fun v33 => mb (gR 15 6 r0) (fun v37 => mb (aI 1 v37 x2) (fun v41 => (if (v33 &&& v41) = 0 then f_X12_member_51 (0 : Int32) else f_X12_member_51 (1 : Int32))))) else f_X12_member_29))) else f_X12_member_29))))
set_option maxRecDepth 100000 in
set_option maxHeartbeats 4000000 in
theorem s_X12_member {X : Cg} (cx : Cx X cX12_member RX12 3) (hfr : 1 ≤ (xR X).frames) (hlo : 24 ≤ (xR X).locals) (hr : (xM X).sig.returnType = (some .boolean)) (r0 : Option Nat) (x1 : Int32) (x2 : Int32) : Sim X 3 (FiM X vI) 0 [(0, va_rf r0), (1, .int x1), (2, .int x2)] [] (f_X12_member r0 x1 x2) := by
  unfold f_X12_member
  refine sm_aload_n cx 0 dX12_member_0 rfl rfl ?_
  refine sm_iconst (v := 0) cx dX12_member_1 (by decide) ?_
  refine sm_putV cx fl_X12_97 rfl rfl dX12_member_2 ?_
  refine sm_aload_n cx 0 dX12_member_5 rfl rfl ?_
  refine sm_iload_n cx 1 dX12_member_6 rfl rfl ?_
  refine sm_aload_n cx 0 dX12_member_7 rfl rfl ?_
  refine sm_getI cx fl_X12_111 dX12_member_8 (fun v8 => ?_)
  refine sm_callV (T := TX12) (N := 47) (toV := vI) cx [.int x1, .int v8] rfl cv_X12_100 (fun a h => ct_X12_none (xZ X) a h x1 v8) (Nat.le_trans (by decide) hfr) (Nat.le_trans (by decide) hlo) rfl (cat_le _ (Nat.le_of_ble_eq_true rfl)) dX12_member_11 (fun v11 => ?_)
  refine sm_if_ne (tgt := 29) cx dX12_member_14 (by decide) ?_ ?_
  · exact sm_lv [] rfl (s_X12_member_29 cx hfr hlo hr)
  · refine sm_aload_n cx 0 dX12_member_17 rfl rfl ?_
    refine sm_iload_n cx 2 dX12_member_18 rfl rfl ?_
    refine sm_aload_n cx 0 dX12_member_19 rfl rfl ?_
    refine sm_getI cx fl_X12_108 dX12_member_20 (fun v20 => ?_)
    refine sm_callV (T := TX12) (N := 47) (toV := vI) cx [.int x2, .int v20] rfl cv_X12_100 (fun a h => ct_X12_none (xZ X) a h x2 v20) (Nat.le_trans (by decide) hfr) (Nat.le_trans (by decide) hlo) rfl (cat_le _ (Nat.le_of_ble_eq_true rfl)) dX12_member_23 (fun v23 => ?_)
    refine sm_if_eq (tgt := 31) cx dX12_member_26 (by decide) ?_ ?_
    · refine sm_aload_n cx 0 dX12_member_31 rfl rfl ?_
      refine sm_iload_n cx 1 dX12_member_32 rfl rfl ?_
      refine sm_callV (T := TX12) (N := 47) (toV := vI) cx [.int x1] rfl cv_X12_114 (fun a h => ct_X12_allIn (xZ X) a h x1) (Nat.le_trans (by decide) hfr) (Nat.le_trans (by decide) hlo) rfl (cat_le _ (Nat.le_of_ble_eq_true rfl)) dX12_member_33 (fun v33 => ?_)
      refine sm_aload_n cx 0 dX12_member_36 rfl rfl ?_
      refine sm_getR cx fl_X12_23 dX12_member_37 (fun v37 => ?_)
      refine sm_iload_n cx 2 dX12_member_40 rfl rfl ?_
      refine sm_iald cx dX12_member_41 (fun v41 => ?_)
      refine sm_iand cx dX12_member_42 ?_
      refine sm_if_eq (tgt := 50) cx dX12_member_43 (by decide) ?_ ?_
      · refine sm_iconst (v := 0) cx dX12_member_50 (by decide) ?_
        exact sm_lv [] rfl (s_X12_member_51 cx hfr hlo hr (0 : Int32))
      · refine sm_iconst (v := 1) cx dX12_member_46 (by decide) ?_
        refine sm_goto (tgt := 51) cx dX12_member_47 (by decide) ?_
        exact sm_lv [] rfl (s_X12_member_51 cx hfr hlo hr (1 : Int32))
    · exact sm_lv [] rfl (s_X12_member_29 cx hfr hlo hr)
set_option maxRecDepth 100000 in
set_option maxHeartbeats 4000000 in
theorem ct_X12_member (Z : Nat → Nat) {r0 : Option Nat} (a0 : Nat) (h0 : r0 = some a0) (x1 : Int32) (x2 : Int32) : Ct yX12_member cX12_member 3 (some .boolean) 1 24 Z [.ref a0, .int x1, .int x2] vI (f_X12_member r0 x1 x2) := by
  subst h0
  refine ct_of (lv0 := [(0, va_rf (some a0)), (1, .int x1), (2, .int x2)]) (by decide +kernel) (by simp [lg_sl, ct_i, ct_l, ct_r, rf_cat]) (by show _ = ([(0, Value.ref a0), (1, .int x1), (2, .int x2)] : List (Nat × Value)); simp [lv_args, ct_i, ct_l, ct_r, rf_cat]) (fun X cx hZ hfr hlo hr hin => ?_)
  subst hZ
  exact s_X12_member cx (Nat.le_of_eq hfr.symm) (Nat.le_of_eq hlo.symm) hr (some a0) x1 x2
/-! PolicyTreeModel.set()I -/
theorem dX12_set_0 : decode cX12_set 0 = .ok (.aload_n 0, 1) := by decide +kernel
theorem dX12_set_1 : decode cX12_set 1 = .ok (.iconst 0, 1) := by decide +kernel
theorem dX12_set_2 : decode cX12_set 2 = .ok (.putfield 97, 3) := by decide +kernel
theorem dX12_set_5 : decode cX12_set 5 = .ok (.aload_n 0, 1) := by decide +kernel
theorem dX12_set_6 : decode cX12_set 6 = .ok (.aload_n 0, 1) := by decide +kernel
theorem dX12_set_7 : decode cX12_set 7 = .ok (.getfield 118, 3) := by decide +kernel
theorem dX12_set_10 : decode cX12_set 10 = .ok (.bipush 40, 2) := by decide +kernel
theorem dX12_set_12 : decode cX12_set 12 = .ok (.if_icmp .ne 7, 3) := by decide +kernel
theorem dX12_set_15 : decode cX12_set 15 = .ok (.iconst 1, 1) := by decide +kernel
theorem dX12_set_16 : decode cX12_set 16 = .ok (.goto 4, 3) := by decide +kernel
theorem dX12_set_19 : decode cX12_set 19 = .ok (.iconst 0, 1) := by decide +kernel
theorem dX12_set_20 : decode cX12_set 20 = .ok (.iconst 1, 1) := by decide +kernel
theorem dX12_set_21 : decode cX12_set 21 = .ok (.invokevirtual 104, 3) := by decide +kernel
theorem dX12_set_24 : decode cX12_set 24 = .ok (.ifCond .eq 5, 3) := by decide +kernel
theorem dX12_set_27 : decode cX12_set 27 = .ok (.iconst 0, 1) := by decide +kernel
theorem dX12_set_28 : decode cX12_set 28 = .ok (.ireturn, 1) := by decide +kernel
theorem dX12_set_29 : decode cX12_set 29 = .ok (.aload_n 0, 1) := by decide +kernel
theorem dX12_set_30 : decode cX12_set 30 = .ok (.dup, 1) := by decide +kernel
theorem dX12_set_31 : decode cX12_set 31 = .ok (.getfield 118, 3) := by decide +kernel
theorem dX12_set_34 : decode cX12_set 34 = .ok (.iconst 1, 1) := by decide +kernel
theorem dX12_set_35 : decode cX12_set 35 = .ok (.iadd, 1) := by decide +kernel
theorem dX12_set_36 : decode cX12_set 36 = .ok (.putfield 118, 3) := by decide +kernel
theorem dX12_set_39 : decode cX12_set 39 = .ok (.aload_n 0, 1) := by decide +kernel
theorem dX12_set_40 : decode cX12_set 40 = .ok (.getfield 118, 3) := by decide +kernel
theorem dX12_set_43 : decode cX12_set 43 = .ok (.iconst 1, 1) := by decide +kernel
theorem dX12_set_44 : decode cX12_set 44 = .ok (.isub, 1) := by decide +kernel
theorem dX12_set_45 : decode cX12_set 45 = .ok (.ireturn, 1) := by decide +kernel
def f_X12_set_20 (r0 : Option Nat) (sr0 : Option Nat) (sx1 : Int32) : Mo Int32 := mb (mo 15 sr0 (f_X12_bad sr0 sx1 (1 : Int32))) (fun v21 => (if v21 = 0 then mb (gI 15 12 r0) (fun v31 => mb (pV 15 12 r0 (.int (v31 + (1 : Int32)))) (fun _ => mb (gI 15 12 r0) (fun v40 => mp (v40 - (1 : Int32))))) else mp (0 : Int32)))
set_option maxRecDepth 100000 in
set_option maxHeartbeats 4000000 in
theorem s_X12_set_20 {X : Cg} (cx : Cx X cX12_set RX12 1) (hfr : 1 ≤ (xR X).frames) (hlo : 22 ≤ (xR X).locals) (hr : (xM X).sig.returnType = (some .int)) (r0 : Option Nat) (sr0 : Option Nat) (sx1 : Int32) : Sim X 1 (FiM X vI) 20 [(0, va_rf r0)] [.int sx1, va_rf sr0] (f_X12_set_20 r0 sr0 sx1) := by
  unfold f_X12_set_20
  refine sm_iconst (v := 1) cx dX12_set_20 (by decide) ?_
  refine sm_callV (T := TX12) (N := 47) (toV := vI) cx [.int sx1, .int (1 : Int32)] rfl cv_X12_104 (fun a h => ct_X12_bad (xZ X) a h sx1 (1 : Int32)) (Nat.le_trans (by decide) hfr) (Nat.le_trans (by decide) hlo) rfl (cat_le _ (Nat.le_of_ble_eq_true rfl)) dX12_set_21 (fun v21 => ?_)
  refine sm_if_eq (tgt := 29) cx dX12_set_24 (by decide) ?_ ?_
  · refine sm_aload_n cx 0 dX12_set_29 rfl rfl ?_
    refine sm_dup cx dX12_set_30 (rf_cat _) ?_
    refine sm_getI cx fl_X12_118 dX12_set_31 (fun v31 => ?_)
    refine sm_iconst (v := 1) cx dX12_set_34 (by decide) ?_
    refine sm_iadd cx dX12_set_35 ?_
    refine sm_putV cx fl_X12_118 rfl rfl dX12_set_36 ?_
    refine sm_aload_n cx 0 dX12_set_39 rfl rfl ?_
    refine sm_getI cx fl_X12_118 dX12_set_40 (fun v40 => ?_)
    refine sm_iconst (v := 1) cx dX12_set_43 (by decide) ?_
    refine sm_isub cx dX12_set_44 ?_
    exact sm_iret cx hr dX12_set_45
  · refine sm_iconst (v := 0) cx dX12_set_27 (by decide) ?_
    exact sm_iret cx hr dX12_set_28
def f_X12_set (r0 : Option Nat) : Mo Int32 := mb (pV 15 0 r0 (.int (0 : Int32))) (fun _ => mb (gI 15 12 r0) (fun v7 => (if v7 = (40 : Int32) then f_X12_set_20 r0 r0 (1 : Int32) else f_X12_set_20 r0 r0 (0 : Int32))))
set_option maxRecDepth 100000 in
set_option maxHeartbeats 4000000 in
theorem s_X12_set {X : Cg} (cx : Cx X cX12_set RX12 1) (hfr : 1 ≤ (xR X).frames) (hlo : 22 ≤ (xR X).locals) (hr : (xM X).sig.returnType = (some .int)) (r0 : Option Nat) : Sim X 1 (FiM X vI) 0 [(0, va_rf r0)] [] (f_X12_set r0) := by
  unfold f_X12_set
  refine sm_aload_n cx 0 dX12_set_0 rfl rfl ?_
  refine sm_iconst (v := 0) cx dX12_set_1 (by decide) ?_
  refine sm_putV cx fl_X12_97 rfl rfl dX12_set_2 ?_
  refine sm_aload_n cx 0 dX12_set_5 rfl rfl ?_
  refine sm_aload_n cx 0 dX12_set_6 rfl rfl ?_
  refine sm_getI cx fl_X12_118 dX12_set_7 (fun v7 => ?_)
  refine sm_bipush (v := 40) cx dX12_set_10 (by decide) ?_
  refine sm_icmp_ne (tgt := 19) cx dX12_set_12 (by decide) ?_ ?_
  · refine sm_iconst (v := 0) cx dX12_set_19 (by decide) ?_
    exact sm_lv [0] rfl (s_X12_set_20 cx hfr hlo hr r0 r0 (0 : Int32))
  · refine sm_iconst (v := 1) cx dX12_set_15 (by decide) ?_
    refine sm_goto (tgt := 20) cx dX12_set_16 (by decide) ?_
    exact sm_lv [0] rfl (s_X12_set_20 cx hfr hlo hr r0 r0 (1 : Int32))
set_option maxRecDepth 100000 in
set_option maxHeartbeats 4000000 in
theorem ct_X12_set (Z : Nat → Nat) {r0 : Option Nat} (a0 : Nat) (h0 : r0 = some a0) : Ct yX12_set cX12_set 1 (some .int) 1 22 Z [.ref a0] vI (f_X12_set r0) := by
  subst h0
  refine ct_of (lv0 := [(0, va_rf (some a0))]) (by decide +kernel) (by simp [lg_sl, ct_i, ct_l, ct_r, rf_cat]) (by show _ = ([(0, Value.ref a0)] : List (Nat × Value)); simp [lv_args, ct_i, ct_l, ct_r, rf_cat]) (fun X cx hZ hfr hlo hr hin => ?_)
  subst hZ
  exact s_X12_set cx (Nat.le_of_eq hfr.symm) (Nat.le_of_eq hlo.symm) hr (some a0)
/-! PolicyTreeModel.isSetting(I)Z -/
theorem dX12_isSetting_0 : decode cX12_isSetting 0 = .ok (.iload_n 0, 1) := by decide +kernel
theorem dX12_isSetting_1 : decode cX12_isSetting 1 = .ok (.ifCond .lt 13, 3) := by decide +kernel
theorem dX12_isSetting_4 : decode cX12_isSetting 4 = .ok (.iload_n 0, 1) := by decide +kernel
theorem dX12_isSetting_5 : decode cX12_isSetting 5 = .ok (.bipush 12, 2) := by decide +kernel
theorem dX12_isSetting_7 : decode cX12_isSetting 7 = .ok (.if_icmp .ge 7, 3) := by decide +kernel
theorem dX12_isSetting_10 : decode cX12_isSetting 10 = .ok (.iconst 1, 1) := by decide +kernel
theorem dX12_isSetting_11 : decode cX12_isSetting 11 = .ok (.goto 4, 3) := by decide +kernel
theorem dX12_isSetting_14 : decode cX12_isSetting 14 = .ok (.iconst 0, 1) := by decide +kernel
theorem dX12_isSetting_15 : decode cX12_isSetting 15 = .ok (.ireturn, 1) := by decide +kernel
def f_X12_isSetting_15 (sx0 : Int32) : Mo Int32 := rz .boolean sx0
set_option maxRecDepth 100000 in
set_option maxHeartbeats 4000000 in
theorem s_X12_isSetting_15 {X : Cg} (cx : Cx X cX12_isSetting RX12 1) (hfr : 0 ≤ (xR X).frames) (hlo : 0 ≤ (xR X).locals) (hr : (xM X).sig.returnType = (some .boolean)) (sx0 : Int32) : Sim X 1 (FiM X vI) 15 [] [.int sx0] (f_X12_isSetting_15 sx0) := by
  unfold f_X12_isSetting_15
  exact sm_zret cx hr dX12_isSetting_15
def f_X12_isSetting_14 : Mo Int32 := f_X12_isSetting_15 (0 : Int32)
set_option maxRecDepth 100000 in
set_option maxHeartbeats 4000000 in
theorem s_X12_isSetting_14 {X : Cg} (cx : Cx X cX12_isSetting RX12 1) (hfr : 0 ≤ (xR X).frames) (hlo : 0 ≤ (xR X).locals) (hr : (xM X).sig.returnType = (some .boolean)) : Sim X 1 (FiM X vI) 14 [] [] (f_X12_isSetting_14) := by
  unfold f_X12_isSetting_14
  refine sm_iconst (v := 0) cx dX12_isSetting_14 (by decide) ?_
  exact sm_lv [] rfl (s_X12_isSetting_15 cx hfr hlo hr (0 : Int32))
def f_X12_isSetting (x0 : Int32) : Mo Int32 := (if x0 < 0 then f_X12_isSetting_14 else (if (12 : Int32) ≤ x0 then f_X12_isSetting_14 else f_X12_isSetting_15 (1 : Int32)))
set_option maxRecDepth 100000 in
set_option maxHeartbeats 4000000 in
theorem s_X12_isSetting {X : Cg} (cx : Cx X cX12_isSetting RX12 1) (hfr : 0 ≤ (xR X).frames) (hlo : 0 ≤ (xR X).locals) (hr : (xM X).sig.returnType = (some .boolean)) (x0 : Int32) : Sim X 1 (FiM X vI) 0 [(0, .int x0)] [] (f_X12_isSetting x0) := by
  unfold f_X12_isSetting
  refine sm_iload_n cx 0 dX12_isSetting_0 rfl rfl ?_
  refine sm_if_lt (tgt := 14) cx dX12_isSetting_1 (by decide) ?_ ?_
  · exact sm_lv [] rfl (s_X12_isSetting_14 cx hfr hlo hr)
  · refine sm_iload_n cx 0 dX12_isSetting_4 rfl rfl ?_
    refine sm_bipush (v := 12) cx dX12_isSetting_5 (by decide) ?_
    refine sm_icmp_ge (tgt := 14) cx dX12_isSetting_7 (by decide) ?_ ?_
    · exact sm_lv [] rfl (s_X12_isSetting_14 cx hfr hlo hr)
    · refine sm_iconst (v := 1) cx dX12_isSetting_10 (by decide) ?_
      refine sm_goto (tgt := 15) cx dX12_isSetting_11 (by decide) ?_
      exact sm_lv [] rfl (s_X12_isSetting_15 cx hfr hlo hr (1 : Int32))
set_option maxRecDepth 100000 in
set_option maxHeartbeats 4000000 in
theorem ct_X12_isSetting (Z : Nat → Nat) (x0 : Int32) : Ct yX12_isSetting cX12_isSetting 1 (some .boolean) 0 0 Z [.int x0] vI (f_X12_isSetting x0) := by
  refine ct_of (lv0 := [(0, .int x0)]) (by decide +kernel) (by simp [lg_sl, ct_i, ct_l, ct_r, rf_cat]) (by show _ = ([(0, .int x0)] : List (Nat × Value)); simp [lv_args, ct_i, ct_l, ct_r, rf_cat]) (fun X cx hZ hfr hlo hr hin => ?_)
  subst hZ
  exact s_X12_isSetting cx (Nat.le_of_eq hfr.symm) (Nat.le_of_eq hlo.symm) hr x0
/-! PolicyTreeModel.tells(II)Z -/
theorem dX12_tells_0 : decode cX12_tells 0 = .ok (.aload_n 0, 1) := by decide +kernel
theorem dX12_tells_1 : decode cX12_tells 1 = .ok (.getfield 29, 3) := by decide +kernel
theorem dX12_tells_4 : decode cX12_tells 4 = .ok (.iload_n 1, 1) := by decide +kernel
theorem dX12_tells_5 : decode cX12_tells 5 = .ok (.iaload, 1) := by decide +kernel
theorem dX12_tells_6 : decode cX12_tells 6 = .ok (.iload_n 2, 1) := by decide +kernel
theorem dX12_tells_7 : decode cX12_tells 7 = .ok (.ishr, 1) := by decide +kernel
theorem dX12_tells_8 : decode cX12_tells 8 = .ok (.iconst 1, 1) := by decide +kernel
theorem dX12_tells_9 : decode cX12_tells 9 = .ok (.iand, 1) := by decide +kernel
theorem dX12_tells_10 : decode cX12_tells 10 = .ok (.iconst 1, 1) := by decide +kernel
theorem dX12_tells_11 : decode cX12_tells 11 = .ok (.if_icmp .ne 7, 3) := by decide +kernel
theorem dX12_tells_14 : decode cX12_tells 14 = .ok (.iconst 1, 1) := by decide +kernel
theorem dX12_tells_15 : decode cX12_tells 15 = .ok (.goto 4, 3) := by decide +kernel
theorem dX12_tells_18 : decode cX12_tells 18 = .ok (.iconst 0, 1) := by decide +kernel
theorem dX12_tells_19 : decode cX12_tells 19 = .ok (.ireturn, 1) := by decide +kernel
def f_X12_tells_19 (sx0 : Int32) : Mo Int32 := rz .boolean sx0
set_option maxRecDepth 100000 in
set_option maxHeartbeats 4000000 in
theorem s_X12_tells_19 {X : Cg} (cx : Cx X cX12_tells RX12 3) (hfr : 0 ≤ (xR X).frames) (hlo : 0 ≤ (xR X).locals) (hr : (xM X).sig.returnType = (some .boolean)) (sx0 : Int32) : Sim X 3 (FiM X vI) 19 [] [.int sx0] (f_X12_tells_19 sx0) := by
  unfold f_X12_tells_19
  exact sm_zret cx hr dX12_tells_19
def f_X12_tells (r0 : Option Nat) (x1 : Int32) (x2 : Int32) : Mo Int32 := mb (gR 15 10 r0) (fun v1 => mb (aI 1 v1 x1) (fun v5 => (if ((v5 >>> (x2 &&& 31)) &&& (1 : Int32)) = (1 : Int32) then f_X12_tells_19 (1 : Int32) else f_X12_tells_19 (0 : Int32))))
set_option maxRecDepth 100000 in
set_option maxHeartbeats 4000000 in
theorem s_X12_tells {X : Cg} (cx : Cx X cX12_tells RX12 3) (hfr : 0 ≤ (xR X).frames) (hlo : 0 ≤ (xR X).locals) (hr : (xM X).sig.returnType = (some .boolean)) (r0 : Option Nat) (x1 : Int32) (x2 : Int32) : Sim X 3 (FiM X vI) 0 [(0, va_rf r0), (1, .int x1), (2, .int x2)] [] (f_X12_tells r0 x1 x2) := by
  unfold f_X12_tells
  refine sm_aload_n cx 0 dX12_tells_0 rfl rfl ?_
  refine sm_getR cx fl_X12_29 dX12_tells_1 (fun v1 => ?_)
  refine sm_iload_n cx 1 dX12_tells_4 rfl rfl ?_
  refine sm_iald cx dX12_tells_5 (fun v5 => ?_)
  refine sm_iload_n cx 2 dX12_tells_6 rfl rfl ?_
  refine sm_ishr cx dX12_tells_7 ?_
  refine sm_iconst (v := 1) cx dX12_tells_8 (by decide) ?_
  refine sm_iand cx dX12_tells_9 ?_
  refine sm_iconst (v := 1) cx dX12_tells_10 (by decide) ?_
  refine sm_icmp_ne (tgt := 18) cx dX12_tells_11 (by decide) ?_ ?_
  · refine sm_iconst (v := 0) cx dX12_tells_18 (by decide) ?_
    exact sm_lv [] rfl (s_X12_tells_19 cx hfr hlo hr (0 : Int32))
  · refine sm_iconst (v := 1) cx dX12_tells_14 (by decide) ?_
    refine sm_goto (tgt := 19) cx dX12_tells_15 (by decide) ?_
    exact sm_lv [] rfl (s_X12_tells_19 cx hfr hlo hr (1 : Int32))
set_option maxRecDepth 100000 in
set_option maxHeartbeats 4000000 in
theorem ct_X12_tells (Z : Nat → Nat) {r0 : Option Nat} (a0 : Nat) (h0 : r0 = some a0) (x1 : Int32) (x2 : Int32) : Ct yX12_tells cX12_tells 3 (some .boolean) 0 0 Z [.ref a0, .int x1, .int x2] vI (f_X12_tells r0 x1 x2) := by
  subst h0
  refine ct_of (lv0 := [(0, va_rf (some a0)), (1, .int x1), (2, .int x2)]) (by decide +kernel) (by simp [lg_sl, ct_i, ct_l, ct_r, rf_cat]) (by show _ = ([(0, Value.ref a0), (1, .int x1), (2, .int x2)] : List (Nat × Value)); simp [lv_args, ct_i, ct_l, ct_r, rf_cat]) (fun X cx hZ hfr hlo hr hin => ?_)
  subst hZ
  exact s_X12_tells cx (Nat.le_of_eq hfr.symm) (Nat.le_of_eq hlo.symm) hr (some a0) x1 x2
/-! PolicyTreeModel.tell(III)Z -/
theorem dX12_tell_0 : decode cX12_tell 0 = .ok (.aload_n 0, 1) := by decide +kernel
theorem dX12_tell_1 : decode cX12_tell 1 = .ok (.iconst 0, 1) := by decide +kernel
theorem dX12_tell_2 : decode cX12_tell 2 = .ok (.putfield 97, 3) := by decide +kernel
theorem dX12_tell_5 : decode cX12_tell 5 = .ok (.aload_n 0, 1) := by decide +kernel
theorem dX12_tell_6 : decode cX12_tell 6 = .ok (.iload_n 1, 1) := by decide +kernel
theorem dX12_tell_7 : decode cX12_tell 7 = .ok (.aload_n 0, 1) := by decide +kernel
theorem dX12_tell_8 : decode cX12_tell 8 = .ok (.getfield 118, 3) := by decide +kernel
theorem dX12_tell_11 : decode cX12_tell 11 = .ok (.invokevirtual 100, 3) := by decide +kernel
theorem dX12_tell_14 : decode cX12_tell 14 = .ok (.ifCond .ne 23, 3) := by decide +kernel
theorem dX12_tell_17 : decode cX12_tell 17 = .ok (.aload_n 0, 1) := by decide +kernel
theorem dX12_tell_18 : decode cX12_tell 18 = .ok (.iload_n 2, 1) := by decide +kernel
theorem dX12_tell_19 : decode cX12_tell 19 = .ok (.invokestatic 121, 3) := by decide +kernel
theorem dX12_tell_22 : decode cX12_tell 22 = .ok (.ifCond .ne 7, 3) := by decide +kernel
theorem dX12_tell_25 : decode cX12_tell 25 = .ok (.iconst 1, 1) := by decide +kernel
theorem dX12_tell_26 : decode cX12_tell 26 = .ok (.goto 4, 3) := by decide +kernel
theorem dX12_tell_29 : decode cX12_tell 29 = .ok (.iconst 0, 1) := by decide +kernel
theorem dX12_tell_30 : decode cX12_tell 30 = .ok (.iconst 2, 1) := by decide +kernel
theorem dX12_tell_31 : decode cX12_tell 31 = .ok (.invokevirtual 104, 3) := by decide +kernel
theorem dX12_tell_34 : decode cX12_tell 34 = .ok (.ifCond .eq 5, 3) := by decide +kernel
theorem dX12_tell_37 : decode cX12_tell 37 = .ok (.iconst 0, 1) := by decide +kernel
theorem dX12_tell_38 : decode cX12_tell 38 = .ok (.ireturn, 1) := by decide +kernel
theorem dX12_tell_39 : decode cX12_tell 39 = .ok (.aload_n 0, 1) := by decide +kernel
theorem dX12_tell_40 : decode cX12_tell 40 = .ok (.iload_n 1, 1) := by decide +kernel
theorem dX12_tell_41 : decode cX12_tell 41 = .ok (.iload_n 2, 1) := by decide +kernel
theorem dX12_tell_42 : decode cX12_tell 42 = .ok (.invokevirtual 125, 3) := by decide +kernel
theorem dX12_tell_45 : decode cX12_tell 45 = .ok (.ifCond .eq 18, 3) := by decide +kernel
theorem dX12_tell_48 : decode cX12_tell 48 = .ok (.aload_n 0, 1) := by decide +kernel
theorem dX12_tell_49 : decode cX12_tell 49 = .ok (.getfield 32, 3) := by decide +kernel
theorem dX12_tell_52 : decode cX12_tell 52 = .ok (.bipush 12, 2) := by decide +kernel
theorem dX12_tell_54 : decode cX12_tell 54 = .ok (.iload_n 1, 1) := by decide +kernel
theorem dX12_tell_55 : decode cX12_tell 55 = .ok (.imul, 1) := by decide +kernel
theorem dX12_tell_56 : decode cX12_tell 56 = .ok (.iload_n 2, 1) := by decide +kernel
theorem dX12_tell_57 : decode cX12_tell 57 = .ok (.iadd, 1) := by decide +kernel
theorem dX12_tell_58 : decode cX12_tell 58 = .ok (.iaload, 1) := by decide +kernel
theorem dX12_tell_59 : decode cX12_tell 59 = .ok (.iload_n 3, 1) := by decide +kernel
theorem dX12_tell_60 : decode cX12_tell 60 = .ok (.if_icmp .eq 7, 3) := by decide +kernel
theorem dX12_tell_63 : decode cX12_tell 63 = .ok (.iconst 1, 1) := by decide +kernel
theorem dX12_tell_64 : decode cX12_tell 64 = .ok (.goto 4, 3) := by decide +kernel
theorem dX12_tell_67 : decode cX12_tell 67 = .ok (.iconst 0, 1) := by decide +kernel
theorem dX12_tell_68 : decode cX12_tell 68 = .ok (.istore 4, 2) := by decide +kernel
theorem dX12_tell_70 : decode cX12_tell 70 = .ok (.aload_n 0, 1) := by decide +kernel
theorem dX12_tell_71 : decode cX12_tell 71 = .ok (.getfield 29, 3) := by decide +kernel
theorem dX12_tell_74 : decode cX12_tell 74 = .ok (.iload_n 1, 1) := by decide +kernel
theorem dX12_tell_75 : decode cX12_tell 75 = .ok (.dup2, 1) := by decide +kernel
theorem dX12_tell_76 : decode cX12_tell 76 = .ok (.iaload, 1) := by decide +kernel
theorem dX12_tell_77 : decode cX12_tell 77 = .ok (.iconst 1, 1) := by decide +kernel
theorem dX12_tell_78 : decode cX12_tell 78 = .ok (.iload_n 2, 1) := by decide +kernel
theorem dX12_tell_79 : decode cX12_tell 79 = .ok (.ishl, 1) := by decide +kernel
theorem dX12_tell_80 : decode cX12_tell 80 = .ok (.ior, 1) := by decide +kernel
theorem dX12_tell_81 : decode cX12_tell 81 = .ok (.iastore, 1) := by decide +kernel
theorem dX12_tell_82 : decode cX12_tell 82 = .ok (.aload_n 0, 1) := by decide +kernel
theorem dX12_tell_83 : decode cX12_tell 83 = .ok (.getfield 32, 3) := by decide +kernel
theorem dX12_tell_86 : decode cX12_tell 86 = .ok (.bipush 12, 2) := by decide +kernel
theorem dX12_tell_88 : decode cX12_tell 88 = .ok (.iload_n 1, 1) := by decide +kernel
theorem dX12_tell_89 : decode cX12_tell 89 = .ok (.imul, 1) := by decide +kernel
theorem dX12_tell_90 : decode cX12_tell 90 = .ok (.iload_n 2, 1) := by decide +kernel
theorem dX12_tell_91 : decode cX12_tell 91 = .ok (.iadd, 1) := by decide +kernel
theorem dX12_tell_92 : decode cX12_tell 92 = .ok (.iload_n 3, 1) := by decide +kernel
theorem dX12_tell_93 : decode cX12_tell 93 = .ok (.iastore, 1) := by decide +kernel
theorem dX12_tell_94 : decode cX12_tell 94 = .ok (.iload 4, 2) := by decide +kernel
theorem dX12_tell_96 : decode cX12_tell 96 = .ok (.ireturn, 1) := by decide +kernel
def f_X12_tell_37 : Mo Int32 := rz .boolean (0 : Int32)
set_option maxRecDepth 100000 in
set_option maxHeartbeats 4000000 in
theorem s_X12_tell_37 {X : Cg} (cx : Cx X cX12_tell RX12 5) (hfr : 1 ≤ (xR X).frames) (hlo : 22 ≤ (xR X).locals) (hr : (xM X).sig.returnType = (some .boolean)) : Sim X 5 (FiM X vI) 37 [] [] (f_X12_tell_37) := by
  unfold f_X12_tell_37
  refine sm_iconst (v := 0) cx dX12_tell_37 (by decide) ?_
  exact sm_zret cx hr dX12_tell_38
def f_X12_tell_68 (r0 : Option Nat) (x1 : Int32) (x2 : Int32) (x3 : Int32) (sx0 : Int32) : Mo Int32 := mb (gR 15 10 r0) (fun v71 => mb (aI 1 v71 x1) (fun v76 => mb (sI 1 v71 x1 (v76 ||| ((1 : Int32) <<< (x2 &&& 31)))) (fun _ => mb (gR 15 11 r0) (fun v83 => mb (sI 1 v83 (((12 : Int32) * x1) + x2) x3) (fun _ => rz .boolean sx0)))))
set_option maxRecDepth 100000 in
set_option maxHeartbeats 4000000 in
theorem s_X12_tell_68 {X : Cg} (cx : Cx X cX12_tell RX12 5) (hfr : 1 ≤ (xR X).frames) (hlo : 22 ≤ (xR X).locals) (hr : (xM X).sig.returnType = (some .boolean)) (r0 : Option Nat) (x1 : Int32) (x2 : Int32) (x3 : Int32) (sx0 : Int32) : Sim X 5 (FiM X vI) 68 [(0, va_rf r0), (1, .int x1), (2, .int x2), (3, .int x3)] [.int sx0] (f_X12_tell_68 r0 x1 x2 x3 sx0) := by
  unfold f_X12_tell_68
  refine sm_istore cx [(4, .int sx0), (0, va_rf r0), (1, .int x1), (2, .int x2), (3, .int x3)] dX12_tell_68 (by decide) rfl (nc1 rfl) rfl ?_
  refine sm_aload_n cx 1 dX12_tell_70 rfl rfl ?_
  refine sm_getR cx fl_X12_29 dX12_tell_71 (fun v71 => ?_)
  refine sm_iload_n cx 2 dX12_tell_74 rfl rfl ?_
  refine sm_dup2 cx dX12_tell_75 rfl (rf_cat _) ?_
  refine sm_iald cx dX12_tell_76 (fun v76 => ?_)
  refine sm_iconst (v := 1) cx dX12_tell_77 (by decide) ?_
  refine sm_iload_n cx 3 dX12_tell_78 rfl rfl ?_
  refine sm_ishl cx dX12_tell_79 ?_
  refine sm_ior cx dX12_tell_80 ?_
  refine sm_iast cx dX12_tell_81 ?_
  refine sm_aload_n cx 1 dX12_tell_82 rfl rfl ?_
  refine sm_getR cx fl_X12_32 dX12_tell_83 (fun v83 => ?_)
  refine sm_bipush (v := 12) cx dX12_tell_86 (by decide) ?_
  refine sm_iload_n cx 2 dX12_tell_88 rfl rfl ?_
  refine sm_imul cx dX12_tell_89 ?_
  refine sm_iload_n cx 3 dX12_tell_90 rfl rfl ?_
  refine sm_iadd cx dX12_tell_91 ?_
  refine sm_iload_n cx 4 dX12_tell_92 rfl rfl ?_
  refine sm_iast cx dX12_tell_93 ?_
  refine sm_iload cx 0 dX12_tell_94 rfl ?_
  exact sm_zret cx hr dX12_tell_96
def f_X12_tell_63 (r0 : Option Nat) (x1 : Int32) (x2 : Int32) (x3 : Int32) : Mo Int32 := f_X12_tell_68 r0 x1 x2 x3 (1 : Int32)
set_option maxRecDepth 100000 in
set_option maxHeartbeats 4000000 in
theorem s_X12_tell_63 {X : Cg} (cx : Cx X cX12_tell RX12 5) (hfr : 1 ≤ (xR X).frames) (hlo : 22 ≤ (xR X).locals) (hr : (xM X).sig.returnType = (some .boolean)) (r0 : Option Nat) (x1 : Int32) (x2 : Int32) (x3 : Int32) : Sim X 5 (FiM X vI) 63 [(0, va_rf r0), (1, .int x1), (2, .int x2), (3, .int x3)] [] (f_X12_tell_63 r0 x1 x2 x3) := by
  unfold f_X12_tell_63
  refine sm_iconst (v := 1) cx dX12_tell_63 (by decide) ?_
  refine sm_goto (tgt := 68) cx dX12_tell_64 (by decide) ?_
  exact sm_lv [0, 1, 2, 3] rfl (s_X12_tell_68 cx hfr hlo hr r0 x1 x2 x3 (1 : Int32))
def f_X12_tell_30 (r0 : Option Nat) (x1 : Int32) (x2 : Int32) (x3 : Int32) (sr0 : Option Nat) (sx1 : Int32) : Mo Int32 := mb (mo 15 sr0 (f_X12_bad sr0 sx1 (2 : Int32))) (fun v31 => (if v31 = 0 then mb (mo 15 r0 (f_X12_tells r0 x1 x2)) (fun v42 => (if v42 = 0 then f_X12_tell_63 r0 x1 x2 x3 else mb (gR 15 11 r0) (fun v49 => mb (aI 1 v49 (((12 : Int32) * x1) + x2)) (fun v58 => (if v58 = x3 then f_X12_tell_68 r0 x1 x2 x3 (0 : Int32) else f_X12_tell_63 r0 x1 x2 x3))))) else f_X12_tell_37))
set_option maxRecDepth 100000 in
set_option maxHeartbeats 4000000 in
theorem s_X12_tell_30 {X : Cg} (cx : Cx X cX12_tell RX12 5) (hfr : 1 ≤ (xR X).frames) (hlo : 22 ≤ (xR X).locals) (hr : (xM X).sig.returnType = (some .boolean)) (r0 : Option Nat) (x1 : Int32) (x2 : Int32) (x3 : Int32) (sr0 : Option Nat) (sx1 : Int32) : Sim X 5 (FiM X vI) 30 [(0, va_rf r0), (1, .int x1), (2, .int x2), (3, .int x3)] [.int sx1, va_rf sr0] (f_X12_tell_30 r0 x1 x2 x3 sr0 sx1) := by
  unfold f_X12_tell_30
  refine sm_iconst (v := 2) cx dX12_tell_30 (by decide) ?_
  refine sm_callV (T := TX12) (N := 47) (toV := vI) cx [.int sx1, .int (2 : Int32)] rfl cv_X12_104 (fun a h => ct_X12_bad (xZ X) a h sx1 (2 : Int32)) (Nat.le_trans (by decide) hfr) (Nat.le_trans (by decide) hlo) rfl (cat_le _ (Nat.le_of_ble_eq_true rfl)) dX12_tell_31 (fun v31 => ?_)
  refine sm_if_eq (tgt := 39) cx dX12_tell_34 (by decide) ?_ ?_
  · refine sm_aload_n cx 0 dX12_tell_39 rfl rfl ?_
    refine sm_iload_n cx 1 dX12_tell_40 rfl rfl ?_
    refine sm_iload_n cx 2 dX12_tell_41 rfl rfl ?_
    refine sm_callV (T := TX12) (N := 47) (toV := vI) cx [.int x1, .int x2] rfl cv_X12_125 (fun a h => ct_X12_tells (xZ X) a h x1 x2) (Nat.le_trans (by decide) hfr) (Nat.le_trans (by decide) hlo) rfl (cat_le _ (Nat.le_of_ble_eq_true rfl)) dX12_tell_42 (fun v42 => ?_)
    refine sm_if_eq (tgt := 63) cx dX12_tell_45 (by decide) ?_ ?_
    · exact sm_lv [0, 1, 2, 3] rfl (s_X12_tell_63 cx hfr hlo hr r0 x1 x2 x3)
    · refine sm_aload_n cx 0 dX12_tell_48 rfl rfl ?_
      refine sm_getR cx fl_X12_32 dX12_tell_49 (fun v49 => ?_)
      refine sm_bipush (v := 12) cx dX12_tell_52 (by decide) ?_
      refine sm_iload_n cx 1 dX12_tell_54 rfl rfl ?_
      refine sm_imul cx dX12_tell_55 ?_
      refine sm_iload_n cx 2 dX12_tell_56 rfl rfl ?_
      refine sm_iadd cx dX12_tell_57 ?_
      refine sm_iald cx dX12_tell_58 (fun v58 => ?_)
      refine sm_iload_n cx 3 dX12_tell_59 rfl rfl ?_
      refine sm_icmp_eq (tgt := 67) cx dX12_tell_60 (by decide) ?_ ?_
      · refine sm_iconst (v := 0) cx dX12_tell_67 (by decide) ?_
        exact sm_lv [0, 1, 2, 3] rfl (s_X12_tell_68 cx hfr hlo hr r0 x1 x2 x3 (0 : Int32))
      · exact sm_lv [0, 1, 2, 3] rfl (s_X12_tell_63 cx hfr hlo hr r0 x1 x2 x3)
  · exact sm_lv [] rfl (s_X12_tell_37 cx hfr hlo hr)
def f_X12_tell (r0 : Option Nat) (x1 : Int32) (x2 : Int32) (x3 : Int32) : Mo Int32 := mb (pV 15 0 r0 (.int (0 : Int32))) (fun _ => mb (gI 15 12 r0) (fun v8 => mb (mo 15 r0 (f_X12_none r0 x1 v8)) (fun v11 => (if v11 = 0 then mb (f_X12_isSetting x2) (fun v19 => (if v19 = 0 then f_X12_tell_30 r0 x1 x2 x3 r0 (1 : Int32) else f_X12_tell_30 r0 x1 x2 x3 r0 (0 : Int32))) else f_X12_tell_37))))
set_option maxRecDepth 100000 in
set_option maxHeartbeats 4000000 in
theorem s_X12_tell {X : Cg} (cx : Cx X cX12_tell RX12 5) (hfr : 1 ≤ (xR X).frames) (hlo : 22 ≤ (xR X).locals) (hr : (xM X).sig.returnType = (some .boolean)) (r0 : Option Nat) (x1 : Int32) (x2 : Int32) (x3 : Int32) : Sim X 5 (FiM X vI) 0 [(0, va_rf r0), (1, .int x1), (2, .int x2), (3, .int x3)] [] (f_X12_tell r0 x1 x2 x3) := by
  unfold f_X12_tell
  refine sm_aload_n cx 0 dX12_tell_0 rfl rfl ?_
  refine sm_iconst (v := 0) cx dX12_tell_1 (by decide) ?_
  refine sm_putV cx fl_X12_97 rfl rfl dX12_tell_2 ?_
  refine sm_aload_n cx 0 dX12_tell_5 rfl rfl ?_
  refine sm_iload_n cx 1 dX12_tell_6 rfl rfl ?_
  refine sm_aload_n cx 0 dX12_tell_7 rfl rfl ?_
  refine sm_getI cx fl_X12_118 dX12_tell_8 (fun v8 => ?_)
  refine sm_callV (T := TX12) (N := 47) (toV := vI) cx [.int x1, .int v8] rfl cv_X12_100 (fun a h => ct_X12_none (xZ X) a h x1 v8) (Nat.le_trans (by decide) hfr) (Nat.le_trans (by decide) hlo) rfl (cat_le _ (Nat.le_of_ble_eq_true rfl)) dX12_tell_11 (fun v11 => ?_)
  refine sm_if_ne (tgt := 37) cx dX12_tell_14 (by decide) ?_ ?_
  · exact sm_lv [] rfl (s_X12_tell_37 cx hfr hlo hr)
  · refine sm_aload_n cx 0 dX12_tell_17 rfl rfl ?_
    refine sm_iload_n cx 2 dX12_tell_18 rfl rfl ?_
    refine sm_callS (toV := vI) cx [.int x2] cs_X12_121 (ct_X12_isSetting (xZ X) x2) (Nat.le_trans (by decide) hfr) (Nat.le_trans (by decide) hlo) rfl (cat_le _ (Nat.le_of_ble_eq_true rfl)) dX12_tell_19 (fun v19 => ?_)
    refine sm_if_ne (tgt := 29) cx dX12_tell_22 (by decide) ?_ ?_
    · refine sm_iconst (v := 0) cx dX12_tell_29 (by decide) ?_
      exact sm_lv [0, 1, 2, 3] rfl (s_X12_tell_30 cx hfr hlo hr r0 x1 x2 x3 r0 (0 : Int32))
    · refine sm_iconst (v := 1) cx dX12_tell_25 (by decide) ?_
      refine sm_goto (tgt := 30) cx dX12_tell_26 (by decide) ?_
      exact sm_lv [0, 1, 2, 3] rfl (s_X12_tell_30 cx hfr hlo hr r0 x1 x2 x3 r0 (1 : Int32))
set_option maxRecDepth 100000 in
set_option maxHeartbeats 4000000 in
theorem ct_X12_tell (Z : Nat → Nat) {r0 : Option Nat} (a0 : Nat) (h0 : r0 = some a0) (x1 : Int32) (x2 : Int32) (x3 : Int32) : Ct yX12_tell cX12_tell 5 (some .boolean) 1 22 Z [.ref a0, .int x1, .int x2, .int x3] vI (f_X12_tell r0 x1 x2 x3) := by
  subst h0
  refine ct_of (lv0 := [(0, va_rf (some a0)), (1, .int x1), (2, .int x2), (3, .int x3)]) (by decide +kernel) (by simp [lg_sl, ct_i, ct_l, ct_r, rf_cat]) (by show _ = ([(0, Value.ref a0), (1, .int x1), (2, .int x2), (3, .int x3)] : List (Nat × Value)); simp [lv_args, ct_i, ct_l, ct_r, rf_cat]) (fun X cx hZ hfr hlo hr hin => ?_)
  subst hZ
  exact s_X12_tell cx (Nat.le_of_eq hfr.symm) (Nat.le_of_eq hlo.symm) hr (some a0) x1 x2 x3
/-! PolicyTreeModel.untell(II)Z -/
theorem dX12_untell_0 : decode cX12_untell 0 = .ok (.aload_n 0, 1) := by decide +kernel
theorem dX12_untell_1 : decode cX12_untell 1 = .ok (.iconst 0, 1) := by decide +kernel
theorem dX12_untell_2 : decode cX12_untell 2 = .ok (.putfield 97, 3) := by decide +kernel
theorem dX12_untell_5 : decode cX12_untell 5 = .ok (.aload_n 0, 1) := by decide +kernel
theorem dX12_untell_6 : decode cX12_untell 6 = .ok (.iload_n 1, 1) := by decide +kernel
theorem dX12_untell_7 : decode cX12_untell 7 = .ok (.aload_n 0, 1) := by decide +kernel
theorem dX12_untell_8 : decode cX12_untell 8 = .ok (.getfield 118, 3) := by decide +kernel
theorem dX12_untell_11 : decode cX12_untell 11 = .ok (.invokevirtual 100, 3) := by decide +kernel
theorem dX12_untell_14 : decode cX12_untell 14 = .ok (.ifCond .ne 23, 3) := by decide +kernel
theorem dX12_untell_17 : decode cX12_untell 17 = .ok (.aload_n 0, 1) := by decide +kernel
theorem dX12_untell_18 : decode cX12_untell 18 = .ok (.iload_n 2, 1) := by decide +kernel
theorem dX12_untell_19 : decode cX12_untell 19 = .ok (.invokestatic 121, 3) := by decide +kernel
theorem dX12_untell_22 : decode cX12_untell 22 = .ok (.ifCond .ne 7, 3) := by decide +kernel
theorem dX12_untell_25 : decode cX12_untell 25 = .ok (.iconst 1, 1) := by decide +kernel
theorem dX12_untell_26 : decode cX12_untell 26 = .ok (.goto 4, 3) := by decide +kernel
theorem dX12_untell_29 : decode cX12_untell 29 = .ok (.iconst 0, 1) := by decide +kernel
theorem dX12_untell_30 : decode cX12_untell 30 = .ok (.iconst 2, 1) := by decide +kernel
theorem dX12_untell_31 : decode cX12_untell 31 = .ok (.invokevirtual 104, 3) := by decide +kernel
theorem dX12_untell_34 : decode cX12_untell 34 = .ok (.ifCond .eq 5, 3) := by decide +kernel
theorem dX12_untell_37 : decode cX12_untell 37 = .ok (.iconst 0, 1) := by decide +kernel
theorem dX12_untell_38 : decode cX12_untell 38 = .ok (.ireturn, 1) := by decide +kernel
theorem dX12_untell_39 : decode cX12_untell 39 = .ok (.aload_n 0, 1) := by decide +kernel
theorem dX12_untell_40 : decode cX12_untell 40 = .ok (.iload_n 1, 1) := by decide +kernel
theorem dX12_untell_41 : decode cX12_untell 41 = .ok (.iload_n 2, 1) := by decide +kernel
theorem dX12_untell_42 : decode cX12_untell 42 = .ok (.invokevirtual 125, 3) := by decide +kernel
theorem dX12_untell_45 : decode cX12_untell 45 = .ok (.istore_n 3, 1) := by decide +kernel
theorem dX12_untell_46 : decode cX12_untell 46 = .ok (.iload_n 3, 1) := by decide +kernel
theorem dX12_untell_47 : decode cX12_untell 47 = .ok (.ifCond .eq 15, 3) := by decide +kernel
theorem dX12_untell_50 : decode cX12_untell 50 = .ok (.aload_n 0, 1) := by decide +kernel
theorem dX12_untell_51 : decode cX12_untell 51 = .ok (.getfield 29, 3) := by decide +kernel
theorem dX12_untell_54 : decode cX12_untell 54 = .ok (.iload_n 1, 1) := by decide +kernel
theorem dX12_untell_55 : decode cX12_untell 55 = .ok (.dup2, 1) := by decide +kernel
theorem dX12_untell_56 : decode cX12_untell 56 = .ok (.iaload, 1) := by decide +kernel
theorem dX12_untell_57 : decode cX12_untell 57 = .ok (.iconst 1, 1) := by decide +kernel
theorem dX12_untell_58 : decode cX12_untell 58 = .ok (.iload_n 2, 1) := by decide +kernel
theorem dX12_untell_59 : decode cX12_untell 59 = .ok (.ishl, 1) := by decide +kernel
theorem dX12_untell_60 : decode cX12_untell 60 = .ok (.ixor, 1) := by decide +kernel
theorem dX12_untell_61 : decode cX12_untell 61 = .ok (.iastore, 1) := by decide +kernel
theorem dX12_untell_62 : decode cX12_untell 62 = .ok (.iload_n 3, 1) := by decide +kernel
theorem dX12_untell_63 : decode cX12_untell 63 = .ok (.ireturn, 1) := by decide +kernel
def f_X12_untell_37 : Mo Int32 := rz .boolean (0 : Int32)
set_option maxRecDepth 100000 in
set_option maxHeartbeats 4000000 in
theorem s_X12_untell_37 {X : Cg} (cx : Cx X cX12_untell RX12 4) (hfr : 1 ≤ (xR X).frames) (hlo : 22 ≤ (xR X).locals) (hr : (xM X).sig.returnType = (some .boolean)) : Sim X 4 (FiM X vI) 37 [] [] (f_X12_untell_37) := by
  unfold f_X12_untell_37
  refine sm_iconst (v := 0) cx dX12_untell_37 (by decide) ?_
  exact sm_zret cx hr dX12_untell_38
def f_X12_untell_62 (x3 : Int32) : Mo Int32 := rz .boolean x3
set_option maxRecDepth 100000 in
set_option maxHeartbeats 4000000 in
theorem s_X12_untell_62 {X : Cg} (cx : Cx X cX12_untell RX12 4) (hfr : 1 ≤ (xR X).frames) (hlo : 22 ≤ (xR X).locals) (hr : (xM X).sig.returnType = (some .boolean)) (x3 : Int32) : Sim X 4 (FiM X vI) 62 [(3, .int x3)] [] (f_X12_untell_62 x3) := by
  unfold f_X12_untell_62
  refine sm_iload_n cx 0 dX12_untell_62 rfl rfl ?_
  exact sm_zret cx hr dX12_untell_63
def f_X12_untell_30 (r0 : Option Nat) (x1 : Int32) (x2 : Int32) (sr0 : Option Nat) (sx1 : Int32) : Mo Int32 := mb (mo 15 sr0 (f_X12_bad sr0 sx1 (2 : Int32))) (fun v31 => (if v31 = 0 then mb (mo 15 r0 (f_X12_tells r0 x1 x2)) (fun v42 => (if v42 = 0 then f_X12_untell_62 v42 else mb (gR 15 10 r0) (fun v51 => mb (aI 1 v51 x1) (fun v56 => mb (sI 1 v51 x1 (v56 ^^^ ((1 : Int32) <<< (x2 &&& 31)))) (fun _ => f_X12_untell_62 v42))))) else f_X12_untell_37))
set_option maxRecDepth 100000 in
set_option maxHeartbeats 4000000 in
theorem s_X12_untell_30 {X : Cg} (cx : Cx X cX12_untell RX12 4) (hfr : 1 ≤ (xR X).frames) (hlo : 22 ≤ (xR X).locals) (hr : (xM X).sig.returnType = (some .boolean)) (r0 : Option Nat) (x1 : Int32) (x2 : Int32) (sr0 : Option Nat) (sx1 : Int32) : Sim X 4 (FiM X vI) 30 [(0, va_rf r0), (1, .int x1), (2, .int x2)] [.int sx1, va_rf sr0] (f_X12_untell_30 r0 x1 x2 sr0 sx1) := by
  unfold f_X12_untell_30
  refine sm_iconst (v := 2) cx dX12_untell_30 (by decide) ?_
  refine sm_callV (T := TX12) (N := 47) (toV := vI) cx [.int sx1, .int (2 : Int32)] rfl cv_X12_104 (fun a h => ct_X12_bad (xZ X) a h sx1 (2 : Int32)) (Nat.le_trans (by decide) hfr) (Nat.le_trans (by decide) hlo) rfl (cat_le _ (Nat.le_of_ble_eq_true rfl)) dX12_untell_31 (fun v31 => ?_)
  refine sm_if_eq (tgt := 39) cx dX12_untell_34 (by decide) ?_ ?_
  · refine sm_aload_n cx 0 dX12_untell_39 rfl rfl ?_
    refine sm_iload_n cx 1 dX12_untell_40 rfl rfl ?_
    refine sm_iload_n cx 2 dX12_untell_41 rfl rfl ?_
    refine sm_callV (T := TX12) (N := 47) (toV := vI) cx [.int x1, .int x2] rfl cv_X12_125 (fun a h => ct_X12_tells (xZ X) a h x1 x2) (Nat.le_trans (by decide) hfr) (Nat.le_trans (by decide) hlo) rfl (cat_le _ (Nat.le_of_ble_eq_true rfl)) dX12_untell_42 (fun v42 => ?_)
    refine sm_istore_n cx [(3, .int v42), (0, va_rf r0), (1, .int x1), (2, .int x2)] dX12_untell_45 rfl (by decide) rfl (nc1 rfl) rfl ?_
    refine sm_iload_n cx 0 dX12_untell_46 rfl rfl ?_
    refine sm_if_eq (tgt := 62) cx dX12_untell_47 (by decide) ?_ ?_
    · exact sm_lv [0] rfl (s_X12_untell_62 cx hfr hlo hr v42)
    · refine sm_aload_n cx 1 dX12_untell_50 rfl rfl ?_
      refine sm_getR cx fl_X12_29 dX12_untell_51 (fun v51 => ?_)
      refine sm_iload_n cx 2 dX12_untell_54 rfl rfl ?_
      refine sm_dup2 cx dX12_untell_55 rfl (rf_cat _) ?_
      refine sm_iald cx dX12_untell_56 (fun v56 => ?_)
      refine sm_iconst (v := 1) cx dX12_untell_57 (by decide) ?_
      refine sm_iload_n cx 3 dX12_untell_58 rfl rfl ?_
      refine sm_ishl cx dX12_untell_59 ?_
      refine sm_ixor cx dX12_untell_60 ?_
      refine sm_iast cx dX12_untell_61 ?_
      exact sm_lv [0] rfl (s_X12_untell_62 cx hfr hlo hr v42)
  · exact sm_lv [] rfl (s_X12_untell_37 cx hfr hlo hr)
def f_X12_untell (r0 : Option Nat) (x1 : Int32) (x2 : Int32) : Mo Int32 := mb (pV 15 0 r0 (.int (0 : Int32))) (fun _ => mb (gI 15 12 r0) (fun v8 => mb (mo 15 r0 (f_X12_none r0 x1 v8)) (fun v11 => (if v11 = 0 then mb (f_X12_isSetting x2) (fun v19 => (if v19 = 0 then f_X12_untell_30 r0 x1 x2 r0 (1 : Int32) else f_X12_untell_30 r0 x1 x2 r0 (0 : Int32))) else f_X12_untell_37))))
set_option maxRecDepth 100000 in
set_option maxHeartbeats 4000000 in
theorem s_X12_untell {X : Cg} (cx : Cx X cX12_untell RX12 4) (hfr : 1 ≤ (xR X).frames) (hlo : 22 ≤ (xR X).locals) (hr : (xM X).sig.returnType = (some .boolean)) (r0 : Option Nat) (x1 : Int32) (x2 : Int32) : Sim X 4 (FiM X vI) 0 [(0, va_rf r0), (1, .int x1), (2, .int x2)] [] (f_X12_untell r0 x1 x2) := by
  unfold f_X12_untell
  refine sm_aload_n cx 0 dX12_untell_0 rfl rfl ?_
  refine sm_iconst (v := 0) cx dX12_untell_1 (by decide) ?_
  refine sm_putV cx fl_X12_97 rfl rfl dX12_untell_2 ?_
  refine sm_aload_n cx 0 dX12_untell_5 rfl rfl ?_
  refine sm_iload_n cx 1 dX12_untell_6 rfl rfl ?_
  refine sm_aload_n cx 0 dX12_untell_7 rfl rfl ?_
  refine sm_getI cx fl_X12_118 dX12_untell_8 (fun v8 => ?_)
  refine sm_callV (T := TX12) (N := 47) (toV := vI) cx [.int x1, .int v8] rfl cv_X12_100 (fun a h => ct_X12_none (xZ X) a h x1 v8) (Nat.le_trans (by decide) hfr) (Nat.le_trans (by decide) hlo) rfl (cat_le _ (Nat.le_of_ble_eq_true rfl)) dX12_untell_11 (fun v11 => ?_)
  refine sm_if_ne (tgt := 37) cx dX12_untell_14 (by decide) ?_ ?_
  · exact sm_lv [] rfl (s_X12_untell_37 cx hfr hlo hr)
  · refine sm_aload_n cx 0 dX12_untell_17 rfl rfl ?_
    refine sm_iload_n cx 2 dX12_untell_18 rfl rfl ?_
    refine sm_callS (toV := vI) cx [.int x2] cs_X12_121 (ct_X12_isSetting (xZ X) x2) (Nat.le_trans (by decide) hfr) (Nat.le_trans (by decide) hlo) rfl (cat_le _ (Nat.le_of_ble_eq_true rfl)) dX12_untell_19 (fun v19 => ?_)
    refine sm_if_ne (tgt := 29) cx dX12_untell_22 (by decide) ?_ ?_
    · refine sm_iconst (v := 0) cx dX12_untell_29 (by decide) ?_
      exact sm_lv [0, 1, 2] rfl (s_X12_untell_30 cx hfr hlo hr r0 x1 x2 r0 (0 : Int32))
    · refine sm_iconst (v := 1) cx dX12_untell_25 (by decide) ?_
      refine sm_goto (tgt := 30) cx dX12_untell_26 (by decide) ?_
      exact sm_lv [0, 1, 2] rfl (s_X12_untell_30 cx hfr hlo hr r0 x1 x2 r0 (1 : Int32))
set_option maxRecDepth 100000 in
set_option maxHeartbeats 4000000 in
theorem ct_X12_untell (Z : Nat → Nat) {r0 : Option Nat} (a0 : Nat) (h0 : r0 = some a0) (x1 : Int32) (x2 : Int32) : Ct yX12_untell cX12_untell 4 (some .boolean) 1 22 Z [.ref a0, .int x1, .int x2] vI (f_X12_untell r0 x1 x2) := by
  subst h0
  refine ct_of (lv0 := [(0, va_rf (some a0)), (1, .int x1), (2, .int x2)]) (by decide +kernel) (by simp [lg_sl, ct_i, ct_l, ct_r, rf_cat]) (by show _ = ([(0, Value.ref a0), (1, .int x1), (2, .int x2)] : List (Nat × Value)); simp [lv_args, ct_i, ct_l, ct_r, rf_cat]) (fun X cx hZ hfr hlo hr hin => ?_)
  subst hZ
  exact s_X12_untell cx (Nat.le_of_eq hfr.symm) (Nat.le_of_eq hlo.symm) hr (some a0) x1 x2
/-! PolicyTreeModel.law(II)I -/
theorem dX12_law_0 : decode cX12_law 0 = .ok (.aload_n 0, 1) := by decide +kernel
theorem dX12_law_1 : decode cX12_law 1 = .ok (.iconst 0, 1) := by decide +kernel
theorem dX12_law_2 : decode cX12_law 2 = .ok (.putfield 97, 3) := by decide +kernel
theorem dX12_law_5 : decode cX12_law 5 = .ok (.aload_n 0, 1) := by decide +kernel
theorem dX12_law_6 : decode cX12_law 6 = .ok (.iload_n 1, 1) := by decide +kernel
theorem dX12_law_7 : decode cX12_law 7 = .ok (.invokestatic 121, 3) := by decide +kernel
theorem dX12_law_10 : decode cX12_law 10 = .ok (.ifCond .eq 12, 3) := by decide +kernel
theorem dX12_law_13 : decode cX12_law 13 = .ok (.iload_n 2, 1) := by decide +kernel
theorem dX12_law_14 : decode cX12_law 14 = .ok (.ifCond .lt 8, 3) := by decide +kernel
theorem dX12_law_17 : decode cX12_law 17 = .ok (.iload_n 2, 1) := by decide +kernel
theorem dX12_law_18 : decode cX12_law 18 = .ok (.iconst 2, 1) := by decide +kernel
theorem dX12_law_19 : decode cX12_law 19 = .ok (.if_icmp .le 7, 3) := by decide +kernel
theorem dX12_law_22 : decode cX12_law 22 = .ok (.iconst 1, 1) := by decide +kernel
theorem dX12_law_23 : decode cX12_law 23 = .ok (.goto 4, 3) := by decide +kernel
theorem dX12_law_26 : decode cX12_law 26 = .ok (.iconst 0, 1) := by decide +kernel
theorem dX12_law_27 : decode cX12_law 27 = .ok (.iconst 1, 1) := by decide +kernel
theorem dX12_law_28 : decode cX12_law 28 = .ok (.invokevirtual 104, 3) := by decide +kernel
theorem dX12_law_31 : decode cX12_law 31 = .ok (.ifCond .eq 5, 3) := by decide +kernel
theorem dX12_law_34 : decode cX12_law 34 = .ok (.iconst 0, 1) := by decide +kernel
theorem dX12_law_35 : decode cX12_law 35 = .ok (.ireturn, 1) := by decide +kernel
theorem dX12_law_36 : decode cX12_law 36 = .ok (.aload_n 0, 1) := by decide +kernel
theorem dX12_law_37 : decode cX12_law 37 = .ok (.getfield 35, 3) := by decide +kernel
theorem dX12_law_40 : decode cX12_law 40 = .ok (.iload_n 1, 1) := by decide +kernel
theorem dX12_law_41 : decode cX12_law 41 = .ok (.iaload, 1) := by decide +kernel
theorem dX12_law_42 : decode cX12_law 42 = .ok (.istore_n 3, 1) := by decide +kernel
theorem dX12_law_43 : decode cX12_law 43 = .ok (.aload_n 0, 1) := by decide +kernel
theorem dX12_law_44 : decode cX12_law 44 = .ok (.getfield 35, 3) := by decide +kernel
theorem dX12_law_47 : decode cX12_law 47 = .ok (.iload_n 1, 1) := by decide +kernel
theorem dX12_law_48 : decode cX12_law 48 = .ok (.iload_n 2, 1) := by decide +kernel
theorem dX12_law_49 : decode cX12_law 49 = .ok (.iastore, 1) := by decide +kernel
theorem dX12_law_50 : decode cX12_law 50 = .ok (.iload_n 3, 1) := by decide +kernel
theorem dX12_law_51 : decode cX12_law 51 = .ok (.ireturn, 1) := by decide +kernel
def f_X12_law_27 (r0 : Option Nat) (x1 : Int32) (x2 : Int32) (sr0 : Option Nat) (sx1 : Int32) : Mo Int32 := mb (mo 15 sr0 (f_X12_bad sr0 sx1 (1 : Int32))) (fun v28 => (if v28 = 0 then mb (gR 15 13 r0) (fun v37 => mb (aI 1 v37 x1) (fun v41 => mb (gR 15 13 r0) (fun v44 => mb (sI 1 v44 x1 x2) (fun _ => mp v41)))) else mp (0 : Int32)))
set_option maxRecDepth 100000 in
set_option maxHeartbeats 4000000 in
theorem s_X12_law_27 {X : Cg} (cx : Cx X cX12_law RX12 4) (hfr : 1 ≤ (xR X).frames) (hlo : 22 ≤ (xR X).locals) (hr : (xM X).sig.returnType = (some .int)) (r0 : Option Nat) (x1 : Int32) (x2 : Int32) (sr0 : Option Nat) (sx1 : Int32) : Sim X 4 (FiM X vI) 27 [(0, va_rf r0), (1, .int x1), (2, .int x2)] [.int sx1, va_rf sr0] (f_X12_law_27 r0 x1 x2 sr0 sx1) := by
  unfold f_X12_law_27
  refine sm_iconst (v := 1) cx dX12_law_27 (by decide) ?_
  refine sm_callV (T := TX12) (N := 47) (toV := vI) cx [.int sx1, .int (1 : Int32)] rfl cv_X12_104 (fun a h => ct_X12_bad (xZ X) a h sx1 (1 : Int32)) (Nat.le_trans (by decide) hfr) (Nat.le_trans (by decide) hlo) rfl (cat_le _ (Nat.le_of_ble_eq_true rfl)) dX12_law_28 (fun v28 => ?_)
  refine sm_if_eq (tgt := 36) cx dX12_law_31 (by decide) ?_ ?_
  · refine sm_aload_n cx 0 dX12_law_36 rfl rfl ?_
    refine sm_getR cx fl_X12_35 dX12_law_37 (fun v37 => ?_)
    refine sm_iload_n cx 1 dX12_law_40 rfl rfl ?_
    refine sm_iald cx dX12_law_41 (fun v41 => ?_)
    refine sm_istore_n cx [(3, .int v41), (0, va_rf r0), (1, .int x1), (2, .int x2)] dX12_law_42 rfl (by decide) rfl (nc1 rfl) rfl ?_
    refine sm_aload_n cx 1 dX12_law_43 rfl rfl ?_
    refine sm_getR cx fl_X12_35 dX12_law_44 (fun v44 => ?_)
    refine sm_iload_n cx 2 dX12_law_47 rfl rfl ?_
    refine sm_iload_n cx 3 dX12_law_48 rfl rfl ?_
    refine sm_iast cx dX12_law_49 ?_
    refine sm_iload_n cx 0 dX12_law_50 rfl rfl ?_
    exact sm_iret cx hr dX12_law_51
  · refine sm_iconst (v := 0) cx dX12_law_34 (by decide) ?_
    exact sm_iret cx hr dX12_law_35
def f_X12_law_22 (r0 : Option Nat) (x1 : Int32) (x2 : Int32) (sr0 : Option Nat) : Mo Int32 := f_X12_law_27 r0 x1 x2 sr0 (1 : Int32)
set_option maxRecDepth 100000 in
set_option maxHeartbeats 4000000 in
theorem s_X12_law_22 {X : Cg} (cx : Cx X cX12_law RX12 4) (hfr : 1 ≤ (xR X).frames) (hlo : 22 ≤ (xR X).locals) (hr : (xM X).sig.returnType = (some .int)) (r0 : Option Nat) (x1 : Int32) (x2 : Int32) (sr0 : Option Nat) : Sim X 4 (FiM X vI) 22 [(0, va_rf r0), (1, .int x1), (2, .int x2)] [va_rf sr0] (f_X12_law_22 r0 x1 x2 sr0) := by
  unfold f_X12_law_22
  refine sm_iconst (v := 1) cx dX12_law_22 (by decide) ?_
  refine sm_goto (tgt := 27) cx dX12_law_23 (by decide) ?_
  exact sm_lv [0, 1, 2] rfl (s_X12_law_27 cx hfr hlo hr r0 x1 x2 sr0 (1 : Int32))
def f_X12_law (r0 : Option Nat) (x1 : Int32) (x2 : Int32) : Mo Int32 := mb (pV 15 0 r0 (.int (0 : Int32))) (fun _ => mb (f_X12_isSetting x1) (fun v7 => (if v7 = 0 then f_X12_law_22 r0 x1 x2 r0 else (if x2 < 0 then f_X12_law_22 r0 x1 x2 r0 else (if x2 ≤ (2 : Int32) then f_X12_law_27 r0 x1 x2 r0 (0 : Int32) else f_X12_law_22 r0 x1 x2 r0)))))
set_option maxRecDepth 100000 in
set_option maxHeartbeats 4000000 in
theorem s_X12_law {X : Cg} (cx : Cx X cX12_law RX12 4) (hfr : 1 ≤ (xR X).frames) (hlo : 22 ≤ (xR X).locals) (hr : (xM X).sig.returnType = (some .int)) (r0 : Option Nat) (x1 : Int32) (x2 : Int32) : Sim X 4 (FiM X vI) 0 [(0, va_rf r0), (1, .int x1), (2, .int x2)] [] (f_X12_law r0 x1 x2) := by
  unfold f_X12_law
  refine sm_aload_n cx 0 dX12_law_0 rfl rfl ?_
  refine sm_iconst (v := 0) cx dX12_law_1 (by decide) ?_
  refine sm_putV cx fl_X12_97 rfl rfl dX12_law_2 ?_
  refine sm_aload_n cx 0 dX12_law_5 rfl rfl ?_
  refine sm_iload_n cx 1 dX12_law_6 rfl rfl ?_
  refine sm_callS (toV := vI) cx [.int x1] cs_X12_121 (ct_X12_isSetting (xZ X) x1) (Nat.le_trans (by decide) hfr) (Nat.le_trans (by decide) hlo) rfl (cat_le _ (Nat.le_of_ble_eq_true rfl)) dX12_law_7 (fun v7 => ?_)
  refine sm_if_eq (tgt := 22) cx dX12_law_10 (by decide) ?_ ?_
  · exact sm_lv [0, 1, 2] rfl (s_X12_law_22 cx hfr hlo hr r0 x1 x2 r0)
  · refine sm_iload_n cx 2 dX12_law_13 rfl rfl ?_
    refine sm_if_lt (tgt := 22) cx dX12_law_14 (by decide) ?_ ?_
    · exact sm_lv [0, 1, 2] rfl (s_X12_law_22 cx hfr hlo hr r0 x1 x2 r0)
    · refine sm_iload_n cx 2 dX12_law_17 rfl rfl ?_
      refine sm_iconst (v := 2) cx dX12_law_18 (by decide) ?_
      refine sm_icmp_le (tgt := 26) cx dX12_law_19 (by decide) ?_ ?_
      · refine sm_iconst (v := 0) cx dX12_law_26 (by decide) ?_
        exact sm_lv [0, 1, 2] rfl (s_X12_law_27 cx hfr hlo hr r0 x1 x2 r0 (0 : Int32))
      · exact sm_lv [0, 1, 2] rfl (s_X12_law_22 cx hfr hlo hr r0 x1 x2 r0)
set_option maxRecDepth 100000 in
set_option maxHeartbeats 4000000 in
theorem ct_X12_law (Z : Nat → Nat) {r0 : Option Nat} (a0 : Nat) (h0 : r0 = some a0) (x1 : Int32) (x2 : Int32) : Ct yX12_law cX12_law 4 (some .int) 1 22 Z [.ref a0, .int x1, .int x2] vI (f_X12_law r0 x1 x2) := by
  subst h0
  refine ct_of (lv0 := [(0, va_rf (some a0)), (1, .int x1), (2, .int x2)]) (by decide +kernel) (by simp [lg_sl, ct_i, ct_l, ct_r, rf_cat]) (by show _ = ([(0, Value.ref a0), (1, .int x1), (2, .int x2)] : List (Nat × Value)); simp [lv_args, ct_i, ct_l, ct_r, rf_cat]) (fun X cx hZ hfr hlo hr hin => ?_)
  subst hZ
  exact s_X12_law cx (Nat.le_of_eq hfr.symm) (Nat.le_of_eq hlo.symm) hr (some a0) x1 x2
/-! PolicyTreeModel.feed(IIIII)I -/
theorem dX12_feed_0 : decode cX12_feed 0 = .ok (.aload_n 0, 1) := by decide +kernel
theorem dX12_feed_1 : decode cX12_feed 1 = .ok (.iconst 0, 1) := by decide +kernel
theorem dX12_feed_2 : decode cX12_feed 2 = .ok (.putfield 97, 3) := by decide +kernel
theorem dX12_feed_5 : decode cX12_feed 5 = .ok (.aload_n 0, 1) := by decide +kernel
theorem dX12_feed_6 : decode cX12_feed 6 = .ok (.getfield 128, 3) := by decide +kernel
theorem dX12_feed_9 : decode cX12_feed 9 = .ok (.bipush 20, 2) := by decide +kernel
theorem dX12_feed_11 : decode cX12_feed 11 = .ok (.iadd, 1) := by decide +kernel
theorem dX12_feed_12 : decode cX12_feed 12 = .ok (.sipush 200, 3) := by decide +kernel
theorem dX12_feed_15 : decode cX12_feed 15 = .ok (.if_icmp .le 5, 3) := by decide +kernel
theorem dX12_feed_18 : decode cX12_feed 18 = .ok (.iconst (-1), 1) := by decide +kernel
theorem dX12_feed_19 : decode cX12_feed 19 = .ok (.ireturn, 1) := by decide +kernel
theorem dX12_feed_20 : decode cX12_feed 20 = .ok (.iconst 0, 1) := by decide +kernel
theorem dX12_feed_21 : decode cX12_feed 21 = .ok (.istore 6, 2) := by decide +kernel
theorem dX12_feed_23 : decode cX12_feed 23 = .ok (.iload 6, 2) := by decide +kernel
theorem dX12_feed_25 : decode cX12_feed 25 = .ok (.iconst 5, 1) := by decide +kernel
theorem dX12_feed_26 : decode cX12_feed 26 = .ok (.if_icmp .ge 93, 3) := by decide +kernel
theorem dX12_feed_29 : decode cX12_feed 29 = .ok (.iload 6, 2) := by decide +kernel
theorem dX12_feed_31 : decode cX12_feed 31 = .ok (.ifCond .ne 7, 3) := by decide +kernel
theorem dX12_feed_34 : decode cX12_feed 34 = .ok (.iload_n 1, 1) := by decide +kernel
theorem dX12_feed_35 : decode cX12_feed 35 = .ok (.goto 36, 3) := by decide +kernel
theorem dX12_feed_38 : decode cX12_feed 38 = .ok (.iload 6, 2) := by decide +kernel
theorem dX12_feed_40 : decode cX12_feed 40 = .ok (.iconst 1, 1) := by decide +kernel
theorem dX12_feed_41 : decode cX12_feed 41 = .ok (.if_icmp .ne 7, 3) := by decide +kernel
theorem dX12_feed_44 : decode cX12_feed 44 = .ok (.iload_n 2, 1) := by decide +kernel
theorem dX12_feed_45 : decode cX12_feed 45 = .ok (.goto 26, 3) := by decide +kernel
theorem dX12_feed_48 : decode cX12_feed 48 = .ok (.iload 6, 2) := by decide +kernel
theorem dX12_feed_50 : decode cX12_feed 50 = .ok (.iconst 2, 1) := by decide +kernel
theorem dX12_feed_51 : decode cX12_feed 51 = .ok (.if_icmp .ne 7, 3) := by decide +kernel
theorem dX12_feed_54 : decode cX12_feed 54 = .ok (.iload_n 3, 1) := by decide +kernel
theorem dX12_feed_55 : decode cX12_feed 55 = .ok (.goto 16, 3) := by decide +kernel
theorem dX12_feed_58 : decode cX12_feed 58 = .ok (.iload 6, 2) := by decide +kernel
theorem dX12_feed_60 : decode cX12_feed 60 = .ok (.iconst 3, 1) := by decide +kernel
theorem dX12_feed_61 : decode cX12_feed 61 = .ok (.if_icmp .ne 8, 3) := by decide +kernel
theorem dX12_feed_64 : decode cX12_feed 64 = .ok (.iload 4, 2) := by decide +kernel
theorem dX12_feed_66 : decode cX12_feed 66 = .ok (.goto 5, 3) := by decide +kernel
theorem dX12_feed_69 : decode cX12_feed 69 = .ok (.iload 5, 2) := by decide +kernel
theorem dX12_feed_71 : decode cX12_feed 71 = .ok (.istore 7, 2) := by decide +kernel
theorem dX12_feed_73 : decode cX12_feed 73 = .ok (.bipush 24, 2) := by decide +kernel
theorem dX12_feed_75 : decode cX12_feed 75 = .ok (.istore 8, 2) := by decide +kernel
theorem dX12_feed_77 : decode cX12_feed 77 = .ok (.iload 8, 2) := by decide +kernel
theorem dX12_feed_79 : decode cX12_feed 79 = .ok (.ifCond .lt 34, 3) := by decide +kernel
theorem dX12_feed_82 : decode cX12_feed 82 = .ok (.aload_n 0, 1) := by decide +kernel
theorem dX12_feed_83 : decode cX12_feed 83 = .ok (.getfield 38, 3) := by decide +kernel
theorem dX12_feed_86 : decode cX12_feed 86 = .ok (.aload_n 0, 1) := by decide +kernel
theorem dX12_feed_87 : decode cX12_feed 87 = .ok (.getfield 128, 3) := by decide +kernel
theorem dX12_feed_90 : decode cX12_feed 90 = .ok (.iload 7, 2) := by decide +kernel
theorem dX12_feed_92 : decode cX12_feed 92 = .ok (.iload 8, 2) := by decide +kernel
theorem dX12_feed_94 : decode cX12_feed 94 = .ok (.ishr, 1) := by decide +kernel
theorem dX12_feed_95 : decode cX12_feed 95 = .ok (.i2b, 1) := by decide +kernel
theorem dX12_feed_96 : decode cX12_feed 96 = .ok (.bastore, 1) := by decide +kernel
theorem dX12_feed_97 : decode cX12_feed 97 = .ok (.aload_n 0, 1) := by decide +kernel
theorem dX12_feed_98 : decode cX12_feed 98 = .ok (.dup, 1) := by decide +kernel
theorem dX12_feed_99 : decode cX12_feed 99 = .ok (.getfield 128, 3) := by decide +kernel
theorem dX12_feed_102 : decode cX12_feed 102 = .ok (.iconst 1, 1) := by decide +kernel
theorem dX12_feed_103 : decode cX12_feed 103 = .ok (.iadd, 1) := by decide +kernel
theorem dX12_feed_104 : decode cX12_feed 104 = .ok (.putfield 128, 3) := by decide +kernel
theorem dX12_feed_107 : decode cX12_feed 107 = .ok (.iinc 8 (-8), 3) := by decide +kernel
theorem dX12_feed_110 : decode cX12_feed 110 = .ok (.goto (-33), 3) := by decide +kernel
theorem dX12_feed_113 : decode cX12_feed 113 = .ok (.iinc 6 1, 3) := by decide +kernel
theorem dX12_feed_116 : decode cX12_feed 116 = .ok (.goto (-93), 3) := by decide +kernel
theorem dX12_feed_119 : decode cX12_feed 119 = .ok (.aload_n 0, 1) := by decide +kernel
theorem dX12_feed_120 : decode cX12_feed 120 = .ok (.getfield 128, 3) := by decide +kernel
theorem dX12_feed_123 : decode cX12_feed 123 = .ok (.ireturn, 1) := by decide +kernel
def f_X12_feed_77 (k23 : Int32 → Mo Int32) (r0 : Option Nat) (x1 : Int32) (x2 : Int32) (x3 : Int32) (x4 : Int32) (x5 : Int32) (x6 : Int32) (x7 : Int32) : Nat → Int32 → Mo Int32
  | 0, _ => mf
  | n + 1, x8 => (if x8 < 0 then k23 (x6 + 1) else mb (gR 15 14 r0) (fun v83 => mb (gI 15 15 r0) (fun v87 => mb (sI 0 v83 v87 (Int8.toInt32 (Int32.toInt8 (x7 >>> (x8 &&& 31))))) (fun _ => mb (gI 15 15 r0) (fun v99 => mb (pV 15 15 r0 (.int (v99 + (1 : Int32)))) (fun _ => (f_X12_feed_77 k23 r0 x1 x2 x3 x4 x5 x6 x7 n) (x8 + (-8))))))))
set_option maxRecDepth 100000 in
set_option maxHeartbeats 4000000 in
theorem s_X12_feed_77 {X : Cg} (cx : Cx X cX12_feed RX12 9) (hfr : 0 ≤ (xR X).frames) (hlo : 0 ≤ (xR X).locals) (hr : (xM X).sig.returnType = (some .int)) (r0 : Option Nat) (x1 : Int32) (x2 : Int32) (x3 : Int32) (x4 : Int32) (x5 : Int32) (x6 : Int32) (x7 : Int32) {k23 : Int32 → Mo Int32} (hk23 : ∀ (x6 : Int32), Sim X 9 (FiM X vI) 23 [(0, va_rf r0), (1, .int x1), (2, .int x2), (3, .int x3), (4, .int x4), (5, .int x5), (6, .int x6)] [] (k23 x6)) : ∀ (n : Nat) (x8 : Int32), Sim X 9 (FiM X vI) 77 [(0, va_rf r0), (1, .int x1), (2, .int x2), (3, .int x3), (4, .int x4), (5, .int x5), (6, .int x6), (7, .int x7), (8, .int x8)] [] (f_X12_feed_77 k23 r0 x1 x2 x3 x4 x5 x6 x7 n x8) := by
  intro n
  induction n with
  | zero =>
    intro _
    exact sm_mf
  | succ n ih =>
    intro x8
    rw [f_X12_feed_77]
    refine sm_iload cx 8 dX12_feed_77 rfl ?_
    refine sm_if_lt (tgt := 113) cx dX12_feed_79 (by decide) ?_ ?_
    · refine sm_iinc cx 6 [(6, .int (x6 + 1)), (0, va_rf r0), (1, .int x1), (2, .int x2), (3, .int x3), (4, .int x4), (5, .int x5), (7, .int x7), (8, .int x8)] dX12_feed_113 rfl rfl (by decide) rfl (nc1 rfl) rfl ?_
      refine sm_goto (tgt := 23) cx dX12_feed_116 (by decide) ?_
      exact sm_lv [1, 2, 3, 4, 5, 6, 0] rfl (hk23 (x6 + 1))
    · refine sm_aload_n cx 0 dX12_feed_82 rfl rfl ?_
      refine sm_getR cx fl_X12_38 dX12_feed_83 (fun v83 => ?_)
      refine sm_aload_n cx 0 dX12_feed_86 rfl rfl ?_
      refine sm_getI cx fl_X12_128 dX12_feed_87 (fun v87 => ?_)
      refine sm_iload cx 7 dX12_feed_90 rfl ?_
      refine sm_iload cx 8 dX12_feed_92 rfl ?_
      refine sm_ishr cx dX12_feed_94 ?_
      refine sm_i2b cx dX12_feed_95 ?_
      refine sm_bast cx dX12_feed_96 ?_
      refine sm_aload_n cx 0 dX12_feed_97 rfl rfl ?_
      refine sm_dup cx dX12_feed_98 (rf_cat _) ?_
      refine sm_getI cx fl_X12_128 dX12_feed_99 (fun v99 => ?_)
      refine sm_iconst (v := 1) cx dX12_feed_102 (by decide) ?_
      refine sm_iadd cx dX12_feed_103 ?_
      refine sm_putV cx fl_X12_128 rfl rfl dX12_feed_104 ?_
      refine sm_iinc cx 8 [(8, .int (x8 + (-8))), (0, va_rf r0), (1, .int x1), (2, .int x2), (3, .int x3), (4, .int x4), (5, .int x5), (6, .int x6), (7, .int x7)] dX12_feed_107 rfl rfl (by decide) rfl (nc1 rfl) rfl ?_
      refine sm_goto (tgt := 77) cx dX12_feed_110 (by decide) ?_
      exact sm_lv [1, 2, 3, 4, 5, 6, 7, 8, 0] rfl (ih (x8 + (-8)))
def f_X12_feed_71 (k23 : Int32 → Mo Int32) (r0 : Option Nat) (x1 : Int32) (x2 : Int32) (x3 : Int32) (x4 : Int32) (x5 : Int32) (x6 : Int32) (sx0 : Int32) : Mo Int32 := f_X12_feed_77 k23 r0 x1 x2 x3 x4 x5 x6 sx0 fuL (24 : Int32)
set_option maxRecDepth 100000 in
set_option maxHeartbeats 4000000 in
theorem s_X12_feed_71 {X : Cg} (cx : Cx X cX12_feed RX12 9) (hfr : 0 ≤ (xR X).frames) (hlo : 0 ≤ (xR X).locals) (hr : (xM X).sig.returnType = (some .int)) (r0 : Option Nat) (x1 : Int32) (x2 : Int32) (x3 : Int32) (x4 : Int32) (x5 : Int32) (x6 : Int32) (sx0 : Int32) {k23 : Int32 → Mo Int32} (hk23 : ∀ (x6 : Int32), Sim X 9 (FiM X vI) 23 [(0, va_rf r0), (1, .int x1), (2, .int x2), (3, .int x3), (4, .int x4), (5, .int x5), (6, .int x6)] [] (k23 x6)) : Sim X 9 (FiM X vI) 71 [(0, va_rf r0), (1, .int x1), (2, .int x2), (3, .int x3), (4, .int x4), (5, .int x5), (6, .int x6)] [.int sx0] (f_X12_feed_71 k23 r0 x1 x2 x3 x4 x5 x6 sx0) := by
  unfold f_X12_feed_71
  refine sm_istore cx [(7, .int sx0), (0, va_rf r0), (1, .int x1), (2, .int x2), (3, .int x3), (4, .int x4), (5, .int x5), (6, .int x6)] dX12_feed_71 (by decide) rfl (nc1 rfl) rfl ?_
  refine sm_bipush (v := 24) cx dX12_feed_73 (by decide) ?_
  refine sm_istore cx [(8, .int (24 : Int32)), (7, .int sx0), (0, va_rf r0), (1, .int x1), (2, .int x2), (3, .int x3), (4, .int x4), (5, .int x5), (6, .int x6)] dX12_feed_75 (by decide) rfl (nc1 rfl) rfl ?_
  exact sm_lv [2, 3, 4, 5, 6, 7, 8, 1, 0] rfl (s_X12_feed_77 cx hfr hlo hr r0 x1 x2 x3 x4 x5 x6 sx0 hk23 fuL (24 : Int32))
def f_X12_feed_23 (r0 : Option Nat) (x1 : Int32) (x2 : Int32) (x3 : Int32) (x4 : Int32) (x5 : Int32) : Nat → Int32 → Mo Int32
  | 0, _ => mf
  | n + 1, x6 => (if (5 : Int32) ≤ x6 then mb (gI 15 15 r0) (fun v120 => mp v120) else (if x6 = 0 then f_X12_feed_71 (f_X12_feed_23 r0 x1 x2 x3 x4 x5 n) r0 x1 x2 x3 x4 x5 x6 x1 else (if x6 = (1 : Int32) then f_X12_feed_71 (f_X12_feed_23 r0 x1 x2 x3 x4 x5 n) r0 x1 x2 x3 x4 x5 x6 x2 else (if x6 = (2 : Int32) then f_X12_feed_71 (f_X12_feed_23 r0 x1 x2 x3 x4 x5 n) r0 x1 x2 x3 x4 x5 x6 x3 else (if x6 = (3 : Int32) then f_X12_feed_71 (f_X12_feed_23 r0 x1 x2 x3 x4 x5 n) r0 x1 x2 x3 x4 x5 x6 x4 else f_X12_feed_71 (f_X12_feed_23 r0 x1 x2 x3 x4 x5 n) r0 x1 x2 x3 x4 x5 x6 x5)))))
set_option maxRecDepth 100000 in
set_option maxHeartbeats 4000000 in
theorem s_X12_feed_23 {X : Cg} (cx : Cx X cX12_feed RX12 9) (hfr : 0 ≤ (xR X).frames) (hlo : 0 ≤ (xR X).locals) (hr : (xM X).sig.returnType = (some .int)) (r0 : Option Nat) (x1 : Int32) (x2 : Int32) (x3 : Int32) (x4 : Int32) (x5 : Int32) : ∀ (n : Nat) (x6 : Int32), Sim X 9 (FiM X vI) 23 [(0, va_rf r0), (1, .int x1), (2, .int x2), (3, .int x3), (4, .int x4), (5, .int x5), (6, .int x6)] [] (f_X12_feed_23 r0 x1 x2 x3 x4 x5 n x6) := by
  intro n
  induction n with
  | zero =>
    intro _
    exact sm_mf
  | succ n ih =>
    intro x6
    rw [f_X12_feed_23]
    refine sm_iload cx 6 dX12_feed_23 rfl ?_
    refine sm_iconst (v := 5) cx dX12_feed_25 (by decide) ?_
    refine sm_icmp_ge (tgt := 119) cx dX12_feed_26 (by decide) ?_ ?_
    · refine sm_aload_n cx 0 dX12_feed_119 rfl rfl ?_
      refine sm_getI cx fl_X12_128 dX12_feed_120 (fun v120 => ?_)
      exact sm_iret cx hr dX12_feed_123
    · refine sm_iload cx 6 dX12_feed_29 rfl ?_
      refine sm_if_ne (tgt := 38) cx dX12_feed_31 (by decide) ?_ ?_
      · refine sm_iload cx 6 dX12_feed_38 rfl ?_
        refine sm_iconst (v := 1) cx dX12_feed_40 (by decide) ?_
        refine sm_icmp_ne (tgt := 48) cx dX12_feed_41 (by decide) ?_ ?_
        · refine sm_iload cx 6 dX12_feed_48 rfl ?_
          refine sm_iconst (v := 2) cx dX12_feed_50 (by decide) ?_
          refine sm_icmp_ne (tgt := 58) cx dX12_feed_51 (by decide) ?_ ?_
          · refine sm_iload cx 6 dX12_feed_58 rfl ?_
            refine sm_iconst (v := 3) cx dX12_feed_60 (by decide) ?_
            refine sm_icmp_ne (tgt := 69) cx dX12_feed_61 (by decide) ?_ ?_
            · refine sm_iload cx 5 dX12_feed_69 rfl ?_
              exact sm_lv [0, 1, 2, 3, 4, 5, 6] rfl (s_X12_feed_71 cx hfr hlo hr r0 x1 x2 x3 x4 x5 x6 x5 ih)
            · refine sm_iload cx 4 dX12_feed_64 rfl ?_
              refine sm_goto (tgt := 71) cx dX12_feed_66 (by decide) ?_
              exact sm_lv [0, 1, 2, 3, 4, 5, 6] rfl (s_X12_feed_71 cx hfr hlo hr r0 x1 x2 x3 x4 x5 x6 x4 ih)
          · refine sm_iload_n cx 3 dX12_feed_54 rfl rfl ?_
            refine sm_goto (tgt := 71) cx dX12_feed_55 (by decide) ?_
            exact sm_lv [0, 1, 2, 3, 4, 5, 6] rfl (s_X12_feed_71 cx hfr hlo hr r0 x1 x2 x3 x4 x5 x6 x3 ih)
        · refine sm_iload_n cx 2 dX12_feed_44 rfl rfl ?_
          refine sm_goto (tgt := 71) cx dX12_feed_45 (by decide) ?_
          exact sm_lv [0, 1, 2, 3, 4, 5, 6] rfl (s_X12_feed_71 cx hfr hlo hr r0 x1 x2 x3 x4 x5 x6 x2 ih)
      · refine sm_iload_n cx 1 dX12_feed_34 rfl rfl ?_
        refine sm_goto (tgt := 71) cx dX12_feed_35 (by decide) ?_
        exact sm_lv [0, 1, 2, 3, 4, 5, 6] rfl (s_X12_feed_71 cx hfr hlo hr r0 x1 x2 x3 x4 x5 x6 x1 ih)
def f_X12_feed (r0 : Option Nat) (x1 : Int32) (x2 : Int32) (x3 : Int32) (x4 : Int32) (x5 : Int32) : Mo Int32 := mb (pV 15 0 r0 (.int (0 : Int32))) (fun _ => mb (gI 15 15 r0) (fun v6 => (if (v6 + (20 : Int32)) ≤ (200 : Int32) then f_X12_feed_23 r0 x1 x2 x3 x4 x5 fuL (0 : Int32) else mp (-1 : Int32))))
set_option maxRecDepth 100000 in
set_option maxHeartbeats 4000000 in
theorem s_X12_feed {X : Cg} (cx : Cx X cX12_feed RX12 9) (hfr : 0 ≤ (xR X).frames) (hlo : 0 ≤ (xR X).locals) (hr : (xM X).sig.returnType = (some .int)) (r0 : Option Nat) (x1 : Int32) (x2 : Int32) (x3 : Int32) (x4 : Int32) (x5 : Int32) : Sim X 9 (FiM X vI) 0 [(0, va_rf r0), (1, .int x1), (2, .int x2), (3, .int x3), (4, .int x4), (5, .int x5)] [] (f_X12_feed r0 x1 x2 x3 x4 x5) := by
  unfold f_X12_feed
  refine sm_aload_n cx 0 dX12_feed_0 rfl rfl ?_
  refine sm_iconst (v := 0) cx dX12_feed_1 (by decide) ?_
  refine sm_putV cx fl_X12_97 rfl rfl dX12_feed_2 ?_
  refine sm_aload_n cx 0 dX12_feed_5 rfl rfl ?_
  refine sm_getI cx fl_X12_128 dX12_feed_6 (fun v6 => ?_)
  refine sm_bipush (v := 20) cx dX12_feed_9 (by decide) ?_
  refine sm_iadd cx dX12_feed_11 ?_
  refine sm_sipush (v := 200) cx dX12_feed_12 (by decide) ?_
  refine sm_icmp_le (tgt := 20) cx dX12_feed_15 (by decide) ?_ ?_
  · refine sm_iconst (v := 0) cx dX12_feed_20 (by decide) ?_
    refine sm_istore cx [(6, .int (0 : Int32)), (0, va_rf r0), (1, .int x1), (2, .int x2), (3, .int x3), (4, .int x4), (5, .int x5)] dX12_feed_21 (by decide) rfl (nc1 rfl) rfl ?_
    exact sm_lv [1, 2, 3, 4, 5, 6, 0] rfl (s_X12_feed_23 cx hfr hlo hr r0 x1 x2 x3 x4 x5 fuL (0 : Int32))
  · refine sm_iconst (v := -1) cx dX12_feed_18 (by decide) ?_
    exact sm_iret cx hr dX12_feed_19
set_option maxRecDepth 100000 in
set_option maxHeartbeats 4000000 in
theorem ct_X12_feed (Z : Nat → Nat) {r0 : Option Nat} (a0 : Nat) (h0 : r0 = some a0) (x1 : Int32) (x2 : Int32) (x3 : Int32) (x4 : Int32) (x5 : Int32) : Ct yX12_feed cX12_feed 9 (some .int) 0 0 Z [.ref a0, .int x1, .int x2, .int x3, .int x4, .int x5] vI (f_X12_feed r0 x1 x2 x3 x4 x5) := by
  subst h0
  refine ct_of (lv0 := [(0, va_rf (some a0)), (1, .int x1), (2, .int x2), (3, .int x3), (4, .int x4), (5, .int x5)]) (by decide +kernel) (by simp [lg_sl, ct_i, ct_l, ct_r, rf_cat]) (by show _ = ([(0, Value.ref a0), (1, .int x1), (2, .int x2), (3, .int x3), (4, .int x4), (5, .int x5)] : List (Nat × Value)); simp [lv_args, ct_i, ct_l, ct_r, rf_cat]) (fun X cx hZ hfr hlo hr hin => ?_)
  subst hZ
  exact s_X12_feed cx (Nat.le_of_eq hfr.symm) (Nat.le_of_eq hlo.symm) hr (some a0) x1 x2 x3 x4 x5
