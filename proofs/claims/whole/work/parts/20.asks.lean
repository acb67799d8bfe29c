theorem fl_X11_198 : FldOk RX11 198 7 0 .int true false := ⟨RX4, TX4, 7, "PolicyTree$Link", tyX4, rfl, by decide, inT_X4, tyX4_ok, nmX4, wd_4_225, Or.inl rfl, tyX4_ok 0 (by decide), rfl, fun h => nomatch h⟩
theorem cv_X11_176 : CalV RX11 176 RX2 yX2_read cX2_read 4 (some .int) 3 := ⟨wd_V wd_4_82 wd_4_83 wd_4_84 wd_1_7 wd_4_85, rfl, by decide +kernel, by decide +kernel, by decide +kernel⟩
theorem cv_X11_180 : CalV RX11 180 RX10 yX10_clear cX10_clear 1 none 0 := ⟨wd_V wd_4_186 wd_4_187 wd_4_188 wd_1_6 wd_4_189, rfl, by decide +kernel, by decide +kernel, by decide +kernel⟩
theorem cv_X11_183 : CalV RX11 183 RX2 yX2_faultPlace cX2_faultPlace 1 (some .int) 0 := ⟨wd_V wd_4_190 wd_4_191 wd_4_192 wd_1_7 wd_4_193, rfl, by decide +kernel, by decide +kernel, by decide +kernel⟩
theorem nw_X11_185 : NewOk RX11 185 7 [.int 0, .null, .null, .int 0, .int 0, .null, .int 0] := ⟨RX4, TX4, tyX4, rfl, inT_X4, tyX4_ok, wd_2_142, wd_4_194, wd_1_30, fun j hj => by
  match j, hj with
  | 0, _ => rfl
  | 1, _ => rfl
  | 2, _ => rfl
  | 3, _ => rfl
  | 4, _ => rfl
  | 5, _ => rfl
  | 6, _ => rfl
  | j + 7, hj => exact absurd hj (by simp only [List.length_cons, List.length_nil]; omega)⟩
theorem cv_X11_187 : CalV RX11 187 RX2 yX2_filter cX2_filter 1 (some (.object "PolicyTree$Filter")) 0 := ⟨wd_V wd_4_195 wd_4_196 wd_4_197 wd_1_7 wd_4_198, rfl, by decide +kernel, by decide +kernel, by decide +kernel⟩
theorem ci_X11_191 : CalI RX11 191 yX4_init cX4_init 7 6 := ⟨⟨wd_1_30, wd_4_221, wd_4_222⟩, Or.inl wd_4_220, rfl, by decide +kernel, by decide +kernel, by decide +kernel⟩
theorem cv_X11_194 : CalV RX11 194 RX6 yX6_insert cX6_insert 4 none 1 := ⟨wd_V wd_5_15 wd_5_16 wd_5_17 wd_1_11 wd_5_18, rfl, by decide +kernel, by decide +kernel, by decide +kernel⟩
theorem cv_X11_205 : CalV RX11 205 RX6 yX6_remove cX6_remove 3 none 1 := ⟨wd_V wd_6_7 wd_6_8 wd_6_9 wd_1_11 wd_6_10, rfl, by decide +kernel, by decide +kernel, by decide +kernel⟩
theorem cv_X11_208 : CalV RX11 208 RX11 yX11_findOutcome cX11_findOutcome 3 none 2 := ⟨wd_V wd_6_26 wd_6_28 wp_2_10 wd_1_1 wd_6_29, rfl, by decide +kernel, by decide +kernel, by decide +kernel⟩
theorem cv_X11_211 : CalV RX11 211 RX7 yX7_size cX7_size 1 (some .int) 0 := ⟨wd_V wd_6_30 wd_6_31 wd_6_32 wd_1_10 wd_6_33, rfl, by decide +kernel, by decide +kernel, by decide +kernel⟩
theorem cv_X11_212 : CalV RX11 212 RX7 yX7_valueAt cX7_valueAt 2 (some .int) 1 := ⟨wd_V wd_6_41 wd_3_157 wd_3_158 wd_1_10 wd_3_159, rfl, by decide +kernel, by decide +kernel, by decide +kernel⟩
theorem cv_X11_215 : CalV RX11 215 RX7 yX7_teller cX7_teller 1 (some (.object "PolicyTree$Link")) 0 := ⟨wd_V wd_6_49 wd_6_50 wd_6_51 wd_1_10 wd_6_52, rfl, by decide +kernel, by decide +kernel, by decide +kernel⟩
theorem cv_X11_219 : CalV RX11 219 RX8 yX8_size cX8_size 1 (some .int) 0 := ⟨wd_V wd_6_60 wd_3_132 wd_3_133 wd_1_8 wd_3_134, rfl, by decide +kernel, by decide +kernel, by decide +kernel⟩
theorem cv_X11_220 : CalV RX11 220 RX8 yX8_linkAt cX8_linkAt 2 (some (.object "PolicyTree$Link")) 1 := ⟨wd_V wd_6_61 wd_3_136 wd_3_137 wd_1_8 wd_3_138, rfl, by decide +kernel, by decide +kernel, by decide +kernel⟩
theorem cv_X11_224 : CalV RX11 224 RX8 yX8_holds cX8_holds 3 (some .boolean) 2 := ⟨wd_V wd_6_62 wd_3_140 wd_3_141 wd_1_8 wd_3_142, rfl, by decide +kernel, by decide +kernel, by decide +kernel⟩
theorem cv_X11_235 : CalV RX11 235 RX11 yX11_isSameInLane cX11_isSameInLane 4 (some .boolean) 2 := ⟨wd_V wd_6_82 wd_6_84 wp_2_11 wd_1_1 wd_6_85, rfl, by decide +kernel, by decide +kernel, by decide +kernel⟩
theorem cv_X11_227 : CalV RX11 227 RX8 yX8_doubtedFacts cX8_doubtedFacts 3 (some .int) 0 := ⟨wd_V wd_6_70 wd_6_71 wd_6_72 wd_1_8 wd_6_73, rfl, by decide +kernel, by decide +kernel, by decide +kernel⟩
theorem cv_X11_238 : CalV RX11 238 RX11 yX11_listReach cX11_listReach 5 (some .int) 1 := ⟨wd_V wd_6_93 wd_6_95 wp_2_12 wd_1_1 wd_6_96, rfl, by decide +kernel, by decide +kernel, by decide +kernel⟩
theorem cv_X11_249 : CalV RX11 249 RX11 yX11_findQuarreller cX11_findQuarreller 7 (some .int) 3 := ⟨wd_V wd_6_117 wd_6_119 wp_2_14 wd_1_1 wd_6_120, rfl, by decide +kernel, by decide +kernel, by decide +kernel⟩
/-! PolicyTree.link(IIIZI)I -/
theorem dX11_link_0 : decode cX11_link 0 = .ok (.iload_n 1, 1) := by decide +kernel
theorem dX11_link_1 : decode cX11_link 1 = .ok (.aload_n 0, 1) := by decide +kernel
theorem dX11_link_2 : decode cX11_link 2 = .ok (.getfield 10, 3) := by decide +kernel
theorem dX11_link_5 : decode cX11_link 5 = .ok (.invokevirtual 88, 3) := by decide +kernel
theorem dX11_link_8 : decode cX11_link 8 = .ok (.invokestatic 92, 3) := by decide +kernel
theorem dX11_link_11 : decode cX11_link 11 = .ok (.iload_n 2, 1) := by decide +kernel
theorem dX11_link_12 : decode cX11_link 12 = .ok (.aload_n 0, 1) := by decide +kernel
theorem dX11_link_13 : decode cX11_link 13 = .ok (.getfield 26, 3) := by decide +kernel
theorem dX11_link_16 : decode cX11_link 16 = .ok (.invokevirtual 88, 3) := by decide +kernel
theorem dX11_link_19 : decode cX11_link 19 = .ok (.invokestatic 92, 3) := by decide +kernel
theorem dX11_link_22 : decode cX11_link 22 = .ok (.iload_n 3, 1) := by decide +kernel
theorem dX11_link_23 : decode cX11_link 23 = .ok (.bipush 100, 2) := by decide +kernel
theorem dX11_link_25 : decode cX11_link 25 = .ok (.invokestatic 127, 3) := by decide +kernel
theorem dX11_link_28 : decode cX11_link 28 = .ok (.iload 5, 2) := by decide +kernel
theorem dX11_link_30 : decode cX11_link 30 = .ok (.aload_n 0, 1) := by decide +kernel
theorem dX11_link_31 : decode cX11_link 31 = .ok (.getfield 39, 3) := by decide +kernel
theorem dX11_link_34 : decode cX11_link 34 = .ok (.invokevirtual 175, 3) := by decide +kernel
theorem dX11_link_37 : decode cX11_link 37 = .ok (.iconst 1, 1) := by decide +kernel
theorem dX11_link_38 : decode cX11_link 38 = .ok (.iadd, 1) := by decide +kernel
theorem dX11_link_39 : decode cX11_link 39 = .ok (.invokestatic 127, 3) := by decide +kernel
theorem dX11_link_42 : decode cX11_link 42 = .ok (.aload_n 0, 1) := by decide +kernel
theorem dX11_link_43 : decode cX11_link 43 = .ok (.getfield 29, 3) := by decide +kernel
theorem dX11_link_46 : decode cX11_link 46 = .ok (.invokevirtual 88, 3) := by decide +kernel
theorem dX11_link_49 : decode cX11_link 49 = .ok (.bipush 100, 2) := by decide +kernel
theorem dX11_link_51 : decode cX11_link 51 = .ok (.invokestatic 96, 3) := by decide +kernel
theorem dX11_link_54 : decode cX11_link 54 = .ok (.aload_n 0, 1) := by decide +kernel
theorem dX11_link_55 : decode cX11_link 55 = .ok (.getfield 48, 3) := by decide +kernel
theorem dX11_link_58 : decode cX11_link 58 = .ok (.iload 5, 2) := by decide +kernel
theorem dX11_link_60 : decode cX11_link 60 = .ok (.aload_n 0, 1) := by decide +kernel
theorem dX11_link_61 : decode cX11_link 61 = .ok (.getfield 22, 3) := by decide +kernel
theorem dX11_link_64 : decode cX11_link 64 = .ok (.invokevirtual 144, 3) := by decide +kernel
theorem dX11_link_67 : decode cX11_link 67 = .ok (.aload_n 0, 1) := by decide +kernel
theorem dX11_link_68 : decode cX11_link 68 = .ok (.getfield 10, 3) := by decide +kernel
theorem dX11_link_71 : decode cX11_link 71 = .ok (.invokevirtual 88, 3) := by decide +kernel
theorem dX11_link_74 : decode cX11_link 74 = .ok (.invokevirtual 176, 3) := by decide +kernel
theorem dX11_link_77 : decode cX11_link 77 = .ok (.istore 6, 2) := by decide +kernel
theorem dX11_link_79 : decode cX11_link 79 = .ok (.aload_n 0, 1) := by decide +kernel
theorem dX11_link_80 : decode cX11_link 80 = .ok (.getfield 39, 3) := by decide +kernel
theorem dX11_link_83 : decode cX11_link 83 = .ok (.invokevirtual 180, 3) := by decide +kernel
theorem dX11_link_86 : decode cX11_link 86 = .ok (.aload_n 0, 1) := by decide +kernel
theorem dX11_link_87 : decode cX11_link 87 = .ok (.aload_n 0, 1) := by decide +kernel
theorem dX11_link_88 : decode cX11_link 88 = .ok (.getfield 48, 3) := by decide +kernel
theorem dX11_link_91 : decode cX11_link 91 = .ok (.invokevirtual 183, 3) := by decide +kernel
theorem dX11_link_94 : decode cX11_link 94 = .ok (.putfield 52, 3) := by decide +kernel
theorem dX11_link_97 : decode cX11_link 97 = .ok (.iload 6, 2) := by decide +kernel
theorem dX11_link_99 : decode cX11_link 99 = .ok (.ifCond .eq 9, 3) := by decide +kernel
theorem dX11_link_102 : decode cX11_link 102 = .ok (.iload 6, 2) := by decide +kernel
theorem dX11_link_104 : decode cX11_link 104 = .ok (.bipush 10, 2) := by decide +kernel
theorem dX11_link_106 : decode cX11_link 106 = .ok (.isub, 1) := by decide +kernel
theorem dX11_link_107 : decode cX11_link 107 = .ok (.ireturn, 1) := by decide +kernel
theorem dX11_link_108 : decode cX11_link 108 = .ok (.aload_n 0, 1) := by decide +kernel
theorem dX11_link_109 : decode cX11_link 109 = .ok (.getfield 10, 3) := by decide +kernel
theorem dX11_link_112 : decode cX11_link 112 = .ok (.iload_n 1, 1) := by decide +kernel
theorem dX11_link_113 : decode cX11_link 113 = .ok (.invokevirtual 99, 3) := by decide +kernel
theorem dX11_link_116 : decode cX11_link 116 = .ok (.checkcast 79, 3) := by decide +kernel
theorem dX11_link_119 : decode cX11_link 119 = .ok (.astore 7, 2) := by decide +kernel
theorem dX11_link_121 : decode cX11_link 121 = .ok (.new 185, 3) := by decide +kernel
theorem dX11_link_124 : decode cX11_link 124 = .ok (.dup, 1) := by decide +kernel
theorem dX11_link_125 : decode cX11_link 125 = .ok (.aload_n 0, 1) := by decide +kernel
theorem dX11_link_126 : decode cX11_link 126 = .ok (.getfield 29, 3) := by decide +kernel
theorem dX11_link_129 : decode cX11_link 129 = .ok (.invokevirtual 88, 3) := by decide +kernel
theorem dX11_link_132 : decode cX11_link 132 = .ok (.aload 7, 2) := by decide +kernel
theorem dX11_link_134 : decode cX11_link 134 = .ok (.aload_n 0, 1) := by decide +kernel
theorem dX11_link_135 : decode cX11_link 135 = .ok (.getfield 26, 3) := by decide +kernel
theorem dX11_link_138 : decode cX11_link 138 = .ok (.iload_n 2, 1) := by decide +kernel
theorem dX11_link_139 : decode cX11_link 139 = .ok (.invokevirtual 99, 3) := by decide +kernel
theorem dX11_link_142 : decode cX11_link 142 = .ok (.checkcast 157, 3) := by decide +kernel
theorem dX11_link_145 : decode cX11_link 145 = .ok (.iload_n 3, 1) := by decide +kernel
theorem dX11_link_146 : decode cX11_link 146 = .ok (.iload 4, 2) := by decide +kernel
theorem dX11_link_148 : decode cX11_link 148 = .ok (.aload_n 0, 1) := by decide +kernel
theorem dX11_link_149 : decode cX11_link 149 = .ok (.getfield 48, 3) := by decide +kernel
theorem dX11_link_152 : decode cX11_link 152 = .ok (.invokevirtual 187, 3) := by decide +kernel
theorem dX11_link_155 : decode cX11_link 155 = .ok (.invokespecial 191, 3) := by decide +kernel
theorem dX11_link_158 : decode cX11_link 158 = .ok (.astore 8, 2) := by decide +kernel
theorem dX11_link_160 : decode cX11_link 160 = .ok (.aload_n 0, 1) := by decide +kernel
theorem dX11_link_161 : decode cX11_link 161 = .ok (.getfield 29, 3) := by decide +kernel
theorem dX11_link_164 : decode cX11_link 164 = .ok (.aload 8, 2) := by decide +kernel
theorem dX11_link_166 : decode cX11_link 166 = .ok (.invokevirtual 84, 3) := by decide +kernel
theorem dX11_link_169 : decode cX11_link 169 = .ok (.pop, 1) := by decide +kernel
theorem dX11_link_170 : decode cX11_link 170 = .ok (.aload 7, 2) := by decide +kernel
theorem dX11_link_172 : decode cX11_link 172 = .ok (.aload 8, 2) := by decide +kernel
theorem dX11_link_174 : decode cX11_link 174 = .ok (.invokevirtual 194, 3) := by decide +kernel
theorem dX11_link_177 : decode cX11_link 177 = .ok (.aload 8, 2) := by decide +kernel
theorem dX11_link_179 : decode cX11_link 179 = .ok (.getfield 198, 3) := by decide +kernel
theorem dX11_link_182 : decode cX11_link 182 = .ok (.ireturn, 1) := by decide +kernel
def f_X11_link (Z : Nat → Nat) (r0 : Option Nat) (x1 : Int32) (x2 : Int32) (x3 : Int32) (x4 : Int32) (x5 : Int32) : Mo (Int32 ⊕ String) := mb (gR 14 0 r0) (fun v2 => mb (mo 2 v2 (f_Jx4a65c_size_8abf5 v2)) (fun v5 => mx (f_X11_needNumber x1 v5) (fun _ => mb (gR 14 3 r0) (fun v13 => mb (mo 2 v13 (f_Jx4a65c_size_8abf5 v13)) (fun v16 => mx (f_X11_needNumber x2 v16) (fun _ => mx (f_X11_needChoice x3 (100 : Int32)) (fun _ => mb (gR 14 6 r0) (fun v31 => mb (mo 13 v31 (f_X10_size v31)) (fun v34 => mx (f_X11_needChoice x5 (v34 + (1 : Int32))) (fun _ => mb (gR 14 4 r0) (fun v43 => mb (mo 2 v43 (f_Jx4a65c_size_8abf5 v43)) (fun v46 => mx (f_X11_needRoom v46 (100 : Int32)) (fun _ => mb (gR 14 7 r0) (fun v55 => mb (gR 14 2 r0) (fun v61 => mb (mo 6 v61 (f_X3_size v61)) (fun v64 => mb (gR 14 0 r0) (fun v68 => mb (mo 2 v68 (f_Jx4a65c_size_8abf5 v68)) (fun v71 => mb (mo 5 v55 (f_X2_read Z v55 x5 v64 v71)) (fun v74 => mb (gR 14 6 r0) (fun v80 => mb (mo 13 v80 (f_X10_clear v80)) (fun _ => mb (gR 14 7 r0) (fun v88 => mb (mo 5 v88 (f_X2_faultPlace v88)) (fun v91 => mb (pV 14 8 r0 (.int v91)) (fun _ => (if v74 = 0 then mb (gR 14 0 r0) (fun v109 => mb (mo 2 v109 (f_Jx4a65c_get_915e3 v109 x1)) (fun v113 => mb (ck 9 v113) (fun _ => mb (nO 7 [.int 0, .null, .null, .int 0, .int 0, .null, .int 0]) (fun v121 => mb (gR 14 4 r0) (fun v126 => mb (mo 2 v126 (f_Jx4a65c_size_8abf5 v126)) (fun v129 => mb (gR 14 3 r0) (fun v135 => mb (mo 2 v135 (f_Jx4a65c_get_915e3 v135 x2)) (fun v139 => mb (ck 3 v139) (fun _ => mb (gR 14 7 r0) (fun v149 => mb (mo 5 v149 (f_X2_filter v149)) (fun v152 => mb (mo 7 v121 (f_X4_init v121 v129 v113 v139 x3 x4 v152)) (fun _ => mb (gR 14 4 r0) (fun v161 => mb (mo 2 v161 (f_Jx4a65c_add_9ea2d Z v161 v121)) (fun v166 => mb (mo 9 v113 (f_X6_insert Z v113 v121)) (fun _ => mb (gI 7 0 v121) (fun v179 => mp (.inl v179))))))))))))))))) else mp (.inl (v74 - (10 : Int32))))))))))))))))))))))))))))
set_option maxRecDepth 100000 in
set_option maxHeartbeats 4000000 in
theorem s_X11_link {X : Cg} (cx : Cx X cX11_link RX11 9) (hfr : 72 ≤ (xR X).frames) (hlo : 1445 ≤ (xR X).locals) (hr : (xM X).sig.returnType = (some .int)) (hth : (xL X).stackTraces = false ∧ (∀ x ∈ (xC X).exceptionTable.toList, False)) (r0 : Option Nat) (x1 : Int32) (x2 : Int32) (x3 : Int32) (x4 : Int32) (x5 : Int32) : Sim X 9 (FiX X vI) 0 [(0, va_rf r0), (1, .int x1), (2, .int x2), (3, .int x3), (4, .int x4), (5, .int x5)] [] (f_X11_link (xZ X) r0 x1 x2 x3 x4 x5) := by
  unfold f_X11_link
  refine sm_iload_n cx 1 dX11_link_0 rfl rfl ?_
  refine sm_aload_n cx 0 dX11_link_1 rfl rfl ?_
  refine sm_getR cx fl_X11_10 dX11_link_2 (fun v2 => ?_)
  refine sm_callV (T := TJx4a65c) (N := 3) (toV := vI) cx [] rfl cv_X11_88 (fun a h => ct_Jx4a65c_size_8abf5 (xZ X) a h) (Nat.le_trans (by decide) hfr) (Nat.le_trans (by decide) hlo) rfl (cat_le _ (Nat.le_of_ble_eq_true rfl)) dX11_link_5 (fun v5 => ?_)
  refine sm_callSX (toV := vV) cx hth [.int x1, .int v5] cs_X11_92 (ct_X11_needNumber (xZ X) x1 v5) (Nat.le_trans (by decide) hfr) (Nat.le_trans (by decide) hlo) rfl (cat_le _ (Nat.le_of_ble_eq_true rfl)) dX11_link_8 (fun _ => ?_)
  refine sm_iload_n cx 2 dX11_link_11 rfl rfl ?_
  refine sm_aload_n cx 0 dX11_link_12 rfl rfl ?_
  refine sm_getR cx fl_X11_26 dX11_link_13 (fun v13 => ?_)
  refine sm_callV (T := TJx4a65c) (N := 3) (toV := vI) cx [] rfl cv_X11_88 (fun a h => ct_Jx4a65c_size_8abf5 (xZ X) a h) (Nat.le_trans (by decide) hfr) (Nat.le_trans (by decide) hlo) rfl (cat_le _ (Nat.le_of_ble_eq_true rfl)) dX11_link_16 (fun v16 => ?_)
  refine sm_callSX (toV := vV) cx hth [.int x2, .int v16] cs_X11_92 (ct_X11_needNumber (xZ X) x2 v16) (Nat.le_trans (by decide) hfr) (Nat.le_trans (by decide) hlo) rfl (cat_le _ (Nat.le_of_ble_eq_true rfl)) dX11_link_19 (fun _ => ?_)
  refine sm_iload_n cx 3 dX11_link_22 rfl rfl ?_
  refine sm_bipush (v := 100) cx dX11_link_23 (by decide) ?_
  refine sm_callSX (toV := vV) cx hth [.int x3, .int (100 : Int32)] cs_X11_127 (ct_X11_needChoice (xZ X) x3 (100 : Int32)) (Nat.le_trans (by decide) hfr) (Nat.le_trans (by decide) hlo) rfl (cat_le _ (Nat.le_of_ble_eq_true rfl)) dX11_link_25 (fun _ => ?_)
  refine sm_iload cx 5 dX11_link_28 rfl ?_
  refine sm_aload_n cx 0 dX11_link_30 rfl rfl ?_
  refine sm_getR cx fl_X11_39 dX11_link_31 (fun v31 => ?_)
  refine sm_callV (T := TX10) (N := 2) (toV := vI) cx [] rfl cv_X11_175 (fun a h => ct_X10_size (xZ X) a h) (Nat.le_trans (by decide) hfr) (Nat.le_trans (by decide) hlo) rfl (cat_le _ (Nat.le_of_ble_eq_true rfl)) dX11_link_34 (fun v34 => ?_)
  refine sm_iconst (v := 1) cx dX11_link_37 (by decide) ?_
  refine sm_iadd cx dX11_link_38 ?_
  refine sm_callSX (toV := vV) cx hth [.int x5, .int (v34 + (1 : Int32))] cs_X11_127 (ct_X11_needChoice (xZ X) x5 (v34 + (1 : Int32))) (Nat.le_trans (by decide) hfr) (Nat.le_trans (by decide) hlo) rfl (cat_le _ (Nat.le_of_ble_eq_true rfl)) dX11_link_39 (fun _ => ?_)
  refine sm_aload_n cx 0 dX11_link_42 rfl rfl ?_
  refine sm_getR cx fl_X11_29 dX11_link_43 (fun v43 => ?_)
  refine sm_callV (T := TJx4a65c) (N := 3) (toV := vI) cx [] rfl cv_X11_88 (fun a h => ct_Jx4a65c_size_8abf5 (xZ X) a h) (Nat.le_trans (by decide) hfr) (Nat.le_trans (by decide) hlo) rfl (cat_le _ (Nat.le_of_ble_eq_true rfl)) dX11_link_46 (fun v46 => ?_)
  refine sm_bipush (v := 100) cx dX11_link_49 (by decide) ?_
  refine sm_callSX (toV := vV) cx hth [.int v46, .int (100 : Int32)] cs_X11_96 (ct_X11_needRoom (xZ X) v46 (100 : Int32)) (Nat.le_trans (by decide) hfr) (Nat.le_trans (by decide) hlo) rfl (cat_le _ (Nat.le_of_ble_eq_true rfl)) dX11_link_51 (fun _ => ?_)
  refine sm_aload_n cx 0 dX11_link_54 rfl rfl ?_
  refine sm_getR cx fl_X11_48 dX11_link_55 (fun v55 => ?_)
  refine sm_iload cx 5 dX11_link_58 rfl ?_
  refine sm_aload_n cx 0 dX11_link_60 rfl rfl ?_
  refine sm_getR cx fl_X11_22 dX11_link_61 (fun v61 => ?_)
  refine sm_callV (T := TX3) (N := 3) (toV := vI) cx [] rfl cv_X11_144 (fun a h => ct_X3_size (xZ X) a h) (Nat.le_trans (by decide) hfr) (Nat.le_trans (by decide) hlo) rfl (cat_le _ (Nat.le_of_ble_eq_true rfl)) dX11_link_64 (fun v64 => ?_)
  refine sm_aload_n cx 0 dX11_link_67 rfl rfl ?_
  refine sm_getR cx fl_X11_10 dX11_link_68 (fun v68 => ?_)
  refine sm_callV (T := TJx4a65c) (N := 3) (toV := vI) cx [] rfl cv_X11_88 (fun a h => ct_Jx4a65c_size_8abf5 (xZ X) a h) (Nat.le_trans (by decide) hfr) (Nat.le_trans (by decide) hlo) rfl (cat_le _ (Nat.le_of_ble_eq_true rfl)) dX11_link_71 (fun v71 => ?_)
  refine sm_callV (T := TX2) (N := 9) (toV := vI) cx [.int x5, .int v64, .int v71] rfl cv_X11_176 (fun a h => ct_X2_read (xZ X) a h x5 v64 v71) (Nat.le_trans (by decide) hfr) (Nat.le_trans (by decide) hlo) rfl (cat_le _ (Nat.le_of_ble_eq_true rfl)) dX11_link_74 (fun v74 => ?_)
  refine sm_istore cx [(6, .int v74), (0, va_rf r0), (1, .int x1), (2, .int x2), (3, .int x3), (4, .int x4), (5, .int x5)] dX11_link_77 (by decide) rfl (nc1 rfl) rfl ?_
  refine sm_aload_n cx 1 dX11_link_79 rfl rfl ?_
  refine sm_getR cx fl_X11_39 dX11_link_80 (fun v80 => ?_)
  refine sm_callV (T := TX10) (N := 2) (toV := vV) cx [] rfl cv_X11_180 (fun a h => ct_X10_clear (xZ X) a h) (Nat.le_trans (by decide) hfr) (Nat.le_trans (by decide) hlo) rfl (cat_le _ (Nat.le_of_ble_eq_true rfl)) dX11_link_83 (fun _ => ?_)
  refine sm_aload_n cx 1 dX11_link_86 rfl rfl ?_
  refine sm_aload_n cx 1 dX11_link_87 rfl rfl ?_
  refine sm_getR cx fl_X11_48 dX11_link_88 (fun v88 => ?_)
  refine sm_callV (T := TX2) (N := 9) (toV := vI) cx [] rfl cv_X11_183 (fun a h => ct_X2_faultPlace (xZ X) a h) (Nat.le_trans (by decide) hfr) (Nat.le_trans (by decide) hlo) rfl (cat_le _ (Nat.le_of_ble_eq_true rfl)) dX11_link_91 (fun v91 => ?_)
  refine sm_putV cx fl_X11_52 rfl rfl dX11_link_94 ?_
  refine sm_iload cx 0 dX11_link_97 rfl ?_
  refine sm_if_eq (tgt := 108) cx dX11_link_99 (by decide) ?_ ?_
  · refine sm_aload_n cx 1 dX11_link_108 rfl rfl ?_
    refine sm_getR cx fl_X11_10 dX11_link_109 (fun v109 => ?_)
    refine sm_iload_n cx 2 dX11_link_112 rfl rfl ?_
    refine sm_callV (T := TJx4a65c) (N := 3) (toV := vR) cx [.int x1] rfl cv_X11_99 (fun a h => ct_Jx4a65c_get_915e3 (xZ X) a h x1) (Nat.le_trans (by decide) hfr) (Nat.le_trans (by decide) hlo) rfl (cat_le _ (Nat.le_of_ble_eq_true rfl)) dX11_link_113 (fun v113 => ?_)
    refine sm_ck (T := TX6) (N := 4) cx rfl wd_1_198 dX11_link_116 ?_
    refine sm_astore cx [(7, va_rf v113), (6, .int v74), (0, va_rf r0), (1, .int x1), (2, .int x2), (3, .int x3), (4, .int x4), (5, .int x5)] dX11_link_119 (by decide) rfl (nc1 rfl) rfl ?_
    refine sm_new cx nw_X11_185 dX11_link_121 (fun v121 => ?_)
    refine sm_dup cx dX11_link_124 (rf_cat _) ?_
    refine sm_aload_n cx 2 dX11_link_125 rfl rfl ?_
    refine sm_getR cx fl_X11_29 dX11_link_126 (fun v126 => ?_)
    refine sm_callV (T := TJx4a65c) (N := 3) (toV := vI) cx [] rfl cv_X11_88 (fun a h => ct_Jx4a65c_size_8abf5 (xZ X) a h) (Nat.le_trans (by decide) hfr) (Nat.le_trans (by decide) hlo) rfl (cat_le _ (Nat.le_of_ble_eq_true rfl)) dX11_link_129 (fun v129 => ?_)
    refine sm_aload cx 0 dX11_link_132 rfl ?_
    refine sm_aload_n cx 2 dX11_link_134 rfl rfl ?_
    refine sm_getR cx fl_X11_26 dX11_link_135 (fun v135 => ?_)
    refine sm_iload_n cx 4 dX11_link_138 rfl rfl ?_
    refine sm_callV (T := TJx4a65c) (N := 3) (toV := vR) cx [.int x2] rfl cv_X11_99 (fun a h => ct_Jx4a65c_get_915e3 (xZ X) a h x2) (Nat.le_trans (by decide) hfr) (Nat.le_trans (by decide) hlo) rfl (cat_le _ (Nat.le_of_ble_eq_true rfl)) dX11_link_139 (fun v139 => ?_)
    refine sm_ck (T := TX0) (N := 2) cx rfl wd_4_32 dX11_link_142 ?_
    refine sm_iload_n cx 5 dX11_link_145 rfl rfl ?_
    refine sm_iload cx 6 dX11_link_146 rfl ?_
    refine sm_aload_n cx 2 dX11_link_148 rfl rfl ?_
    refine sm_getR cx fl_X11_48 dX11_link_149 (fun v149 => ?_)
    refine sm_callV (T := TX2) (N := 9) (toV := vR) cx [] rfl cv_X11_187 (fun a h => ct_X2_filter (xZ X) a h) (Nat.le_trans (by decide) hfr) (Nat.le_trans (by decide) hlo) rfl (by simp [ct_i, ct_l, ct_r, rf_cat, vI, vV, vR, vL]) dX11_link_152 (fun v152 => ?_)
    refine sm_callI (ci := 7) (toV := vV) cx [.int v129, va_rf v113, va_rf v139, .int x3, .int x4, va_rf v152] ci_X11_191 (fun a h => ct_X4_init (xZ X) a h v129 v113 v139 x3 x4 v152) (Nat.le_trans (by decide) hfr) (Nat.le_trans (by decide) hlo) rfl (cat_le _ (Nat.le_of_ble_eq_true rfl)) dX11_link_155 (fun _ => ?_)
    refine sm_astore cx [(8, va_rf v121), (7, va_rf v113), (6, .int v74), (0, va_rf r0), (1, .int x1), (2, .int x2), (3, .int x3), (4, .int x4), (5, .int x5)] dX11_link_158 (by decide) rfl (nc1 (rf_cat _)) rfl ?_
    refine sm_aload_n cx 3 dX11_link_160 rfl rfl ?_
    refine sm_getR cx fl_X11_29 dX11_link_161 (fun v161 => ?_)
    refine sm_aload cx 0 dX11_link_164 rfl ?_
    refine sm_callV (T := TJx4a65c) (N := 3) (toV := vI) cx [va_rf v121] rfl cv_X11_84 (fun a h => ct_Jx4a65c_add_9ea2d (xZ X) a h v121) (Nat.le_trans (by decide) hfr) (Nat.le_trans (by decide) hlo) rfl (cat_le _ (Nat.le_of_ble_eq_true rfl)) dX11_link_166 (fun v166 => ?_)
    refine sm_pop cx dX11_link_169 rfl ?_
    refine sm_aload cx 1 dX11_link_170 rfl ?_
    refine sm_aload cx 0 dX11_link_172 rfl ?_
    refine sm_callV (T := TX6) (N := 4) (toV := vV) cx [va_rf v121] rfl cv_X11_194 (fun a h => ct_X6_insert (xZ X) a h v121) (Nat.le_trans (by decide) hfr) (Nat.le_trans (by decide) hlo) rfl (cat_le _ (Nat.le_of_ble_eq_true rfl)) dX11_link_174 (fun _ => ?_)
    refine sm_aload cx 0 dX11_link_177 rfl ?_
    refine sm_getI cx fl_X11_198 dX11_link_179 (fun v179 => ?_)
    exact sx_iret cx hr dX11_link_182
  · refine sm_iload cx 0 dX11_link_102 rfl ?_
    refine sm_bipush (v := 10) cx dX11_link_104 (by decide) ?_
    refine sm_isub cx dX11_link_106 ?_
    exact sx_iret cx hr dX11_link_107
set_option maxRecDepth 100000 in
set_option maxHeartbeats 4000000 in
theorem ct_X11_link (Z : Nat → Nat) {r0 : Option Nat} (a0 : Nat) (h0 : r0 = some a0) (x1 : Int32) (x2 : Int32) (x3 : Int32) (x4 : Int32) (x5 : Int32) : CtX yX11_link cX11_link 9 (some .int) 72 1445 Z [.ref a0, .int x1, .int x2, .int x3, .int x4, .int x5] vI (f_X11_link Z r0 x1 x2 x3 x4 x5) := by
  subst h0
  refine ctx_of (lv0 := [(0, va_rf (some a0)), (1, .int x1), (2, .int x2), (3, .int x3), (4, .int x4), (5, .int x5)]) (by decide +kernel) (by simp [lg_sl, ct_i, ct_l, ct_r, rf_cat]) (by show _ = ([(0, Value.ref a0), (1, .int x1), (2, .int x2), (3, .int x3), (4, .int x4), (5, .int x5)] : List (Nat × Value)); simp [lv_args, ct_i, ct_l, ct_r, rf_cat]) (fun X cx hZ hfr hlo hr hth => ?_)
  subst hZ
  exact s_X11_link cx (Nat.le_of_eq hfr.symm) (Nat.le_of_eq hlo.symm) hr hth (some a0) x1 x2 x3 x4 x5
/-! PolicyTree.end(I)Z -/
theorem dX11_end_0 : decode cX11_end 0 = .ok (.iload_n 1, 1) := by decide +kernel
theorem dX11_end_1 : decode cX11_end 1 = .ok (.aload_n 0, 1) := by decide +kernel
theorem dX11_end_2 : decode cX11_end 2 = .ok (.getfield 29, 3) := by decide +kernel
theorem dX11_end_5 : decode cX11_end 5 = .ok (.invokevirtual 88, 3) := by decide +kernel
theorem dX11_end_8 : decode cX11_end 8 = .ok (.invokestatic 92, 3) := by decide +kernel
theorem dX11_end_11 : decode cX11_end 11 = .ok (.aload_n 0, 1) := by decide +kernel
theorem dX11_end_12 : decode cX11_end 12 = .ok (.getfield 29, 3) := by decide +kernel
theorem dX11_end_15 : decode cX11_end 15 = .ok (.iload_n 1, 1) := by decide +kernel
theorem dX11_end_16 : decode cX11_end 16 = .ok (.invokevirtual 99, 3) := by decide +kernel
theorem dX11_end_19 : decode cX11_end 19 = .ok (.checkcast 185, 3) := by decide +kernel
theorem dX11_end_22 : decode cX11_end 22 = .ok (.astore_n 2, 1) := by decide +kernel
theorem dX11_end_23 : decode cX11_end 23 = .ok (.aload_n 2, 1) := by decide +kernel
theorem dX11_end_24 : decode cX11_end 24 = .ok (.getfield 201, 3) := by decide +kernel
theorem dX11_end_27 : decode cX11_end 27 = .ok (.ifCond .eq 5, 3) := by decide +kernel
theorem dX11_end_30 : decode cX11_end 30 = .ok (.iconst 0, 1) := by decide +kernel
theorem dX11_end_31 : decode cX11_end 31 = .ok (.ireturn, 1) := by decide +kernel
theorem dX11_end_32 : decode cX11_end 32 = .ok (.aload_n 2, 1) := by decide +kernel
theorem dX11_end_33 : decode cX11_end 33 = .ok (.iconst 1, 1) := by decide +kernel
theorem dX11_end_34 : decode cX11_end 34 = .ok (.putfield 201, 3) := by decide +kernel
theorem dX11_end_37 : decode cX11_end 37 = .ok (.aload_n 2, 1) := by decide +kernel
theorem dX11_end_38 : decode cX11_end 38 = .ok (.getfield 204, 3) := by decide +kernel
theorem dX11_end_41 : decode cX11_end 41 = .ok (.aload_n 2, 1) := by decide +kernel
theorem dX11_end_42 : decode cX11_end 42 = .ok (.invokevirtual 205, 3) := by decide +kernel
theorem dX11_end_45 : decode cX11_end 45 = .ok (.iconst 1, 1) := by decide +kernel
theorem dX11_end_46 : decode cX11_end 46 = .ok (.ireturn, 1) := by decide +kernel
def f_X11_end (r0 : Option Nat) (x1 : Int32) : Mo (Int32 ⊕ String) := mb (gR 14 4 r0) (fun v2 => mb (mo 2 v2 (f_Jx4a65c_size_8abf5 v2)) (fun v5 => mx (f_X11_needNumber x1 v5) (fun _ => mb (gR 14 4 r0) (fun v12 => mb (mo 2 v12 (f_Jx4a65c_get_915e3 v12 x1)) (fun v16 => mb (ck 7 v16) (fun _ => mb (gI 7 6 v16) (fun v24 => (if v24 = 0 then mb (pZ 7 6 v16 (1 : Int32)) (fun _ => mb (gR 7 1 v16) (fun v38 => mb (mo 9 v38 (f_X6_remove v38 v16)) (fun _ => rzX .boolean (1 : Int32)))) else rzX .boolean (0 : Int32)))))))))
set_option maxRecDepth 100000 in
set_option maxHeartbeats 4000000 in
theorem s_X11_end {X : Cg} (cx : Cx X cX11_end RX11 3) (hfr : 7 ≤ (xR X).frames) (hlo : 111 ≤ (xR X).locals) (hr : (xM X).sig.returnType = (some .boolean)) (hth : (xL X).stackTraces = false ∧ (∀ x ∈ (xC X).exceptionTable.toList, False)) (r0 : Option Nat) (x1 : Int32) : Sim X 3 (FiX X vI) 0 [(0, va_rf r0), (1, .int x1)] [] (f_X11_end r0 x1) := by
  unfold f_X11_end
  refine sm_iload_n cx 1 dX11_end_0 rfl rfl ?_
  refine sm_aload_n cx 0 dX11_end_1 rfl rfl ?_
  refine sm_getR cx fl_X11_29 dX11_end_2 (fun v2 => ?_)
  refine sm_callV (T := TJx4a65c) (N := 3) (toV := vI) cx [] rfl cv_X11_88 (fun a h => ct_Jx4a65c_size_8abf5 (xZ X) a h) (Nat.le_trans (by decide) hfr) (Nat.le_trans (by decide) hlo) rfl (cat_le _ (Nat.le_of_ble_eq_true rfl)) dX11_end_5 (fun v5 => ?_)
  refine sm_callSX (toV := vV) cx hth [.int x1, .int v5] cs_X11_92 (ct_X11_needNumber (xZ X) x1 v5) (Nat.le_trans (by decide) hfr) (Nat.le_trans (by decide) hlo) rfl (cat_le _ (Nat.le_of_ble_eq_true rfl)) dX11_end_8 (fun _ => ?_)
  refine sm_aload_n cx 0 dX11_end_11 rfl rfl ?_
  refine sm_getR cx fl_X11_29 dX11_end_12 (fun v12 => ?_)
  refine sm_iload_n cx 1 dX11_end_15 rfl rfl ?_
  refine sm_callV (T := TJx4a65c) (N := 3) (toV := vR) cx [.int x1] rfl cv_X11_99 (fun a h => ct_Jx4a65c_get_915e3 (xZ X) a h x1) (Nat.le_trans (by decide) hfr) (Nat.le_trans (by decide) hlo) rfl (cat_le _ (Nat.le_of_ble_eq_true rfl)) dX11_end_16 (fun v16 => ?_)
  refine sm_ck (T := TX4) (N := 7) cx rfl wd_2_142 dX11_end_19 ?_
  refine sm_astore_n cx [(2, va_rf v16), (0, va_rf r0), (1, .int x1)] dX11_end_22 rfl (by decide) rfl (nc1 rfl) rfl ?_
  refine sm_aload_n cx 0 dX11_end_23 rfl rfl ?_
  refine sm_getI cx fl_X11_201 dX11_end_24 (fun v24 => ?_)
  refine sm_if_eq (tgt := 32) cx dX11_end_27 (by decide) ?_ ?_
  · refine sm_aload_n cx 0 dX11_end_32 rfl rfl ?_
    refine sm_iconst (v := 1) cx dX11_end_33 (by decide) ?_
    refine sm_putZ cx fl_X11_201 dX11_end_34 ?_
    refine sm_aload_n cx 0 dX11_end_37 rfl rfl ?_
    refine sm_getR cx fl_X11_204 dX11_end_38 (fun v38 => ?_)
    refine sm_aload_n cx 0 dX11_end_41 rfl rfl ?_
    refine sm_callV (T := TX6) (N := 4) (toV := vV) cx [va_rf v16] rfl cv_X11_205 (fun a h => ct_X6_remove (xZ X) a h v16) (Nat.le_trans (by decide) hfr) (Nat.le_trans (by decide) hlo) rfl (cat_le _ (Nat.le_of_ble_eq_true rfl)) dX11_end_42 (fun _ => ?_)
    refine sm_iconst (v := 1) cx dX11_end_45 (by decide) ?_
    exact sx_zret cx hr dX11_end_46
  · refine sm_iconst (v := 0) cx dX11_end_30 (by decide) ?_
    exact sx_zret cx hr dX11_end_31
set_option maxRecDepth 100000 in
set_option maxHeartbeats 4000000 in
theorem ct_X11_end (Z : Nat → Nat) {r0 : Option Nat} (a0 : Nat) (h0 : r0 = some a0) (x1 : Int32) : CtX yX11_end cX11_end 3 (some .boolean) 7 111 Z [.ref a0, .int x1] vI (f_X11_end r0 x1) := by
  subst h0
  refine ctx_of (lv0 := [(0, va_rf (some a0)), (1, .int x1)]) (by decide +kernel) (by simp [lg_sl, ct_i, ct_l, ct_r, rf_cat]) (by show _ = ([(0, Value.ref a0), (1, .int x1)] : List (Nat × Value)); simp [lv_args, ct_i, ct_l, ct_r, rf_cat]) (fun X cx hZ hfr hlo hr hth => ?_)
  subst hZ
  exact s_X11_end cx (Nat.le_of_eq hfr.symm) (Nat.le_of_eq hlo.symm) hr hth (some a0) x1
/-! PolicyTree.findOutcome(II)V -/
theorem dX11_findOutcome_0 : decode cX11_findOutcome 0 = .ok (.iload_n 1, 1) := by decide +kernel
theorem dX11_findOutcome_1 : decode cX11_findOutcome 1 = .ok (.aload_n 0, 1) := by decide +kernel
theorem dX11_findOutcome_2 : decode cX11_findOutcome 2 = .ok (.getfield 16, 3) := by decide +kernel
theorem dX11_findOutcome_5 : decode cX11_findOutcome 5 = .ok (.invokevirtual 88, 3) := by decide +kernel
theorem dX11_findOutcome_8 : decode cX11_findOutcome 8 = .ok (.invokestatic 92, 3) := by decide +kernel
theorem dX11_findOutcome_11 : decode cX11_findOutcome 11 = .ok (.iload_n 2, 1) := by decide +kernel
theorem dX11_findOutcome_12 : decode cX11_findOutcome 12 = .ok (.bipush 12, 2) := by decide +kernel
theorem dX11_findOutcome_14 : decode cX11_findOutcome 14 = .ok (.invokestatic 127, 3) := by decide +kernel
theorem dX11_findOutcome_17 : decode cX11_findOutcome 17 = .ok (.aload_n 0, 1) := by decide +kernel
theorem dX11_findOutcome_18 : decode cX11_findOutcome 18 = .ok (.getfield 59, 3) := by decide +kernel
theorem dX11_findOutcome_21 : decode cX11_findOutcome 21 = .ok (.aload_n 0, 1) := by decide +kernel
theorem dX11_findOutcome_22 : decode cX11_findOutcome 22 = .ok (.getfield 16, 3) := by decide +kernel
theorem dX11_findOutcome_25 : decode cX11_findOutcome 25 = .ok (.iload_n 1, 1) := by decide +kernel
theorem dX11_findOutcome_26 : decode cX11_findOutcome 26 = .ok (.invokevirtual 99, 3) := by decide +kernel
theorem dX11_findOutcome_29 : decode cX11_findOutcome 29 = .ok (.checkcast 111, 3) := by decide +kernel
theorem dX11_findOutcome_32 : decode cX11_findOutcome 32 = .ok (.aload_n 0, 1) := by decide +kernel
theorem dX11_findOutcome_33 : decode cX11_findOutcome 33 = .ok (.getfield 22, 3) := by decide +kernel
theorem dX11_findOutcome_36 : decode cX11_findOutcome 36 = .ok (.iload_n 1, 1) := by decide +kernel
theorem dX11_findOutcome_37 : decode cX11_findOutcome 37 = .ok (.invokevirtual 154, 3) := by decide +kernel
theorem dX11_findOutcome_40 : decode cX11_findOutcome 40 = .ok (.iconst 1, 1) := by decide +kernel
theorem dX11_findOutcome_41 : decode cX11_findOutcome 41 = .ok (.iload_n 2, 1) := by decide +kernel
theorem dX11_findOutcome_42 : decode cX11_findOutcome 42 = .ok (.ishl, 1) := by decide +kernel
theorem dX11_findOutcome_43 : decode cX11_findOutcome 43 = .ok (.invokevirtual 267, 3) := by decide +kernel
theorem dX11_findOutcome_46 : decode cX11_findOutcome 46 = .ok (.aload_n 0, 1) := by decide +kernel
theorem dX11_findOutcome_47 : decode cX11_findOutcome 47 = .ok (.getfield 59, 3) := by decide +kernel
theorem dX11_findOutcome_50 : decode cX11_findOutcome 50 = .ok (.iconst 0, 1) := by decide +kernel
theorem dX11_findOutcome_51 : decode cX11_findOutcome 51 = .ok (.invokevirtual 232, 3) := by decide +kernel
theorem dX11_findOutcome_54 : decode cX11_findOutcome 54 = .ok (.aload_n 0, 1) := by decide +kernel
theorem dX11_findOutcome_55 : decode cX11_findOutcome 55 = .ok (.getfield 69, 3) := by decide +kernel
theorem dX11_findOutcome_58 : decode cX11_findOutcome 58 = .ok (.aload_n 0, 1) := by decide +kernel
theorem dX11_findOutcome_59 : decode cX11_findOutcome 59 = .ok (.getfield 59, 3) := by decide +kernel
theorem dX11_findOutcome_62 : decode cX11_findOutcome 62 = .ok (.iload_n 2, 1) := by decide +kernel
theorem dX11_findOutcome_63 : decode cX11_findOutcome 63 = .ok (.aload_n 0, 1) := by decide +kernel
theorem dX11_findOutcome_64 : decode cX11_findOutcome 64 = .ok (.getfield 32, 3) := by decide +kernel
theorem dX11_findOutcome_67 : decode cX11_findOutcome 67 = .ok (.iload_n 2, 1) := by decide +kernel
theorem dX11_findOutcome_68 : decode cX11_findOutcome 68 = .ok (.iaload, 1) := by decide +kernel
theorem dX11_findOutcome_69 : decode cX11_findOutcome 69 = .ok (.iconst 0, 1) := by decide +kernel
theorem dX11_findOutcome_70 : decode cX11_findOutcome 70 = .ok (.aconst_null, 1) := by decide +kernel
theorem dX11_findOutcome_71 : decode cX11_findOutcome 71 = .ok (.invokevirtual 271, 3) := by decide +kernel
theorem dX11_findOutcome_74 : decode cX11_findOutcome 74 = .ok (.return_, 1) := by decide +kernel
def f_X11_findOutcome (Z : Nat → Nat) (r0 : Option Nat) (x1 : Int32) (x2 : Int32) : Mo (Unit ⊕ String) := mb (gR 14 1 r0) (fun v2 => mb (mo 2 v2 (f_Jx4a65c_size_8abf5 v2)) (fun v5 => mx (f_X11_needNumber x1 v5) (fun _ => mx (f_X11_needChoice x2 (12 : Int32)) (fun _ => mb (gR 14 9 r0) (fun v18 => mb (gR 14 1 r0) (fun v22 => mb (mo 2 v22 (f_Jx4a65c_get_915e3 v22 x1)) (fun v26 => mb (ck 8 v26) (fun _ => mb (gR 14 2 r0) (fun v33 => mb (mo 6 v33 (f_X3_groupsOf v33 x1)) (fun v37 => mb (mo 11 v18 (f_X8_collect Z v18 v26 v37 ((1 : Int32) <<< (x2 &&& 31)))) (fun _ => mb (gR 14 9 r0) (fun v47 => mb (mo 11 v47 (f_X8_weigh Z v47 (0 : Int32))) (fun _ => mb (gR 14 11 r0) (fun v55 => mb (gR 14 9 r0) (fun v59 => mb (gR 14 5 r0) (fun v64 => mb (aI 1 v64 x2) (fun v68 => mb (mo 10 v55 (f_X7_read v55 v59 x2 v68 (0 : Int32) none)) (fun _ => mp (.inl ())))))))))))))))))))
set_option maxRecDepth 100000 in
set_option maxHeartbeats 4000000 in
theorem s_X11_findOutcome {X : Cg} (cx : Cx X cX11_findOutcome RX11 3) (hfr : 9 ≤ (xR X).frames) (hlo : 222 ≤ (xR X).locals) (hr : (xM X).sig.returnType = none) (hth : (xL X).stackTraces = false ∧ (∀ x ∈ (xC X).exceptionTable.toList, False)) (r0 : Option Nat) (x1 : Int32) (x2 : Int32) : Sim X 3 (FiX X vV) 0 [(0, va_rf r0), (1, .int x1), (2, .int x2)] [] (f_X11_findOutcome (xZ X) r0 x1 x2) := by
  unfold f_X11_findOutcome
  refine sm_iload_n cx 1 dX11_findOutcome_0 rfl rfl ?_
  refine sm_aload_n cx 0 dX11_findOutcome_1 rfl rfl ?_
  refine sm_getR cx fl_X11_16 dX11_findOutcome_2 (fun v2 => ?_)
  refine sm_callV (T := TJx4a65c) (N := 3) (toV := vI) cx [] rfl cv_X11_88 (fun a h => ct_Jx4a65c_size_8abf5 (xZ X) a h) (Nat.le_trans (by decide) hfr) (Nat.le_trans (by decide) hlo) rfl (cat_le _ (Nat.le_of_ble_eq_true rfl)) dX11_findOutcome_5 (fun v5 => ?_)
  refine sm_callSX (toV := vV) cx hth [.int x1, .int v5] cs_X11_92 (ct_X11_needNumber (xZ X) x1 v5) (Nat.le_trans (by decide) hfr) (Nat.le_trans (by decide) hlo) rfl (cat_le _ (Nat.le_of_ble_eq_true rfl)) dX11_findOutcome_8 (fun _ => ?_)
  refine sm_iload_n cx 2 dX11_findOutcome_11 rfl rfl ?_
  refine sm_bipush (v := 12) cx dX11_findOutcome_12 (by decide) ?_
  refine sm_callSX (toV := vV) cx hth [.int x2, .int (12 : Int32)] cs_X11_127 (ct_X11_needChoice (xZ X) x2 (12 : Int32)) (Nat.le_trans (by decide) hfr) (Nat.le_trans (by decide) hlo) rfl (cat_le _ (Nat.le_of_ble_eq_true rfl)) dX11_findOutcome_14 (fun _ => ?_)
  refine sm_aload_n cx 0 dX11_findOutcome_17 rfl rfl ?_
  refine sm_getR cx fl_X11_59 dX11_findOutcome_18 (fun v18 => ?_)
  refine sm_aload_n cx 0 dX11_findOutcome_21 rfl rfl ?_
  refine sm_getR cx fl_X11_16 dX11_findOutcome_22 (fun v22 => ?_)
  refine sm_iload_n cx 1 dX11_findOutcome_25 rfl rfl ?_
  refine sm_callV (T := TJx4a65c) (N := 3) (toV := vR) cx [.int x1] rfl cv_X11_99 (fun a h => ct_Jx4a65c_get_915e3 (xZ X) a h x1) (Nat.le_trans (by decide) hfr) (Nat.le_trans (by decide) hlo) rfl (cat_le _ (Nat.le_of_ble_eq_true rfl)) dX11_findOutcome_26 (fun v26 => ?_)
  refine sm_ck (T := TX5) (N := 3) cx rfl wd_3_43 dX11_findOutcome_29 ?_
  refine sm_aload_n cx 0 dX11_findOutcome_32 rfl rfl ?_
  refine sm_getR cx fl_X11_22 dX11_findOutcome_33 (fun v33 => ?_)
  refine sm_iload_n cx 1 dX11_findOutcome_36 rfl rfl ?_
  refine sm_callV (T := TX3) (N := 3) (toV := vI) cx [.int x1] rfl cv_X11_154 (fun a h => ct_X3_groupsOf (xZ X) a h x1) (Nat.le_trans (by decide) hfr) (Nat.le_trans (by decide) hlo) rfl (cat_le _ (Nat.le_of_ble_eq_true rfl)) dX11_findOutcome_37 (fun v37 => ?_)
  refine sm_iconst (v := 1) cx dX11_findOutcome_40 (by decide) ?_
  refine sm_iload_n cx 2 dX11_findOutcome_41 rfl rfl ?_
  refine sm_ishl cx dX11_findOutcome_42 ?_
  refine sm_callV (T := TX8) (N := 4) (toV := vV) cx [va_rf v26, .int v37, .int ((1 : Int32) <<< (x2 &&& 31))] rfl cv_X11_267 (fun a h => ct_X8_collect (xZ X) a h v26 v37 ((1 : Int32) <<< (x2 &&& 31))) (Nat.le_trans (by decide) hfr) (Nat.le_trans (by decide) hlo) rfl (cat_le _ (Nat.le_of_ble_eq_true rfl)) dX11_findOutcome_43 (fun _ => ?_)
  refine sm_aload_n cx 0 dX11_findOutcome_46 rfl rfl ?_
  refine sm_getR cx fl_X11_59 dX11_findOutcome_47 (fun v47 => ?_)
  refine sm_iconst (v := 0) cx dX11_findOutcome_50 (by decide) ?_
  refine sm_callV (T := TX8) (N := 4) (toV := vV) cx [.int (0 : Int32)] rfl cv_X11_232 (fun a h => ct_X8_weigh (xZ X) a h (0 : Int32)) (Nat.le_trans (by decide) hfr) (Nat.le_trans (by decide) hlo) rfl (cat_le _ (Nat.le_of_ble_eq_true rfl)) dX11_findOutcome_51 (fun _ => ?_)
  refine sm_aload_n cx 0 dX11_findOutcome_54 rfl rfl ?_
  refine sm_getR cx fl_X11_69 dX11_findOutcome_55 (fun v55 => ?_)
  refine sm_aload_n cx 0 dX11_findOutcome_58 rfl rfl ?_
  refine sm_getR cx fl_X11_59 dX11_findOutcome_59 (fun v59 => ?_)
  refine sm_iload_n cx 2 dX11_findOutcome_62 rfl rfl ?_
  refine sm_aload_n cx 0 dX11_findOutcome_63 rfl rfl ?_
  refine sm_getR cx fl_X11_32 dX11_findOutcome_64 (fun v64 => ?_)
  refine sm_iload_n cx 2 dX11_findOutcome_67 rfl rfl ?_
  refine sm_iald cx dX11_findOutcome_68 (fun v68 => ?_)
  refine sm_iconst (v := 0) cx dX11_findOutcome_69 (by decide) ?_
  refine sm_null cx dX11_findOutcome_70 ?_
  refine sm_callV (T := TX7) (N := 3) (toV := vV) cx [va_rf v59, .int x2, .int v68, .int (0 : Int32), va_rf none] rfl cv_X11_271 (fun a h => ct_X7_read (xZ X) a h v59 x2 v68 (0 : Int32) none) (Nat.le_trans (by decide) hfr) (Nat.le_trans (by decide) hlo) rfl (cat_le _ (Nat.le_of_ble_eq_true rfl)) dX11_findOutcome_71 (fun _ => ?_)
  exact sx_vret cx hr dX11_findOutcome_74
set_option maxRecDepth 100000 in
set_option maxHeartbeats 4000000 in
theorem ct_X11_findOutcome (Z : Nat → Nat) {r0 : Option Nat} (a0 : Nat) (h0 : r0 = some a0) (x1 : Int32) (x2 : Int32) : CtX yX11_findOutcome cX11_findOutcome 3 none 9 222 Z [.ref a0, .int x1, .int x2] vV (f_X11_findOutcome Z r0 x1 x2) := by
  subst h0
  refine ctx_of (lv0 := [(0, va_rf (some a0)), (1, .int x1), (2, .int x2)]) (by decide +kernel) (by simp [lg_sl, ct_i, ct_l, ct_r, rf_cat]) (by show _ = ([(0, Value.ref a0), (1, .int x1), (2, .int x2)] : List (Nat × Value)); simp [lv_args, ct_i, ct_l, ct_r, rf_cat]) (fun X cx hZ hfr hlo hr hth => ?_)
  subst hZ
  exact s_X11_findOutcome cx (Nat.le_of_eq hfr.symm) (Nat.le_of_eq hlo.symm) hr hth (some a0) x1 x2
/-! PolicyTree.outcome(II)I -/
theorem dX11_outcome_0 : decode cX11_outcome 0 = .ok (.aload_n 0, 1) := by decide +kernel
theorem dX11_outcome_1 : decode cX11_outcome 1 = .ok (.iload_n 1, 1) := by decide +kernel
theorem dX11_outcome_2 : decode cX11_outcome 2 = .ok (.iload_n 2, 1) := by decide +kernel
theorem dX11_outcome_3 : decode cX11_outcome 3 = .ok (.invokevirtual 208, 3) := by decide +kernel
theorem dX11_outcome_6 : decode cX11_outcome 6 = .ok (.aload_n 0, 1) := by decide +kernel
theorem dX11_outcome_7 : decode cX11_outcome 7 = .ok (.getfield 69, 3) := by decide +kernel
theorem dX11_outcome_10 : decode cX11_outcome 10 = .ok (.invokevirtual 211, 3) := by decide +kernel
theorem dX11_outcome_13 : decode cX11_outcome 13 = .ok (.ireturn, 1) := by decide +kernel
def f_X11_outcome (Z : Nat → Nat) (r0 : Option Nat) (x1 : Int32) (x2 : Int32) : Mo (Int32 ⊕ String) := mx (mo 14 r0 (f_X11_findOutcome Z r0 x1 x2)) (fun _ => mb (gR 14 11 r0) (fun v7 => mb (mo 10 v7 (f_X7_size v7)) (fun v10 => mp (.inl v10))))
set_option maxRecDepth 100000 in
set_option maxHeartbeats 4000000 in
theorem s_X11_outcome {X : Cg} (cx : Cx X cX11_outcome RX11 3) (hfr : 10 ≤ (xR X).frames) (hlo : 244 ≤ (xR X).locals) (hr : (xM X).sig.returnType = (some .int)) (hth : (xL X).stackTraces = false ∧ (∀ x ∈ (xC X).exceptionTable.toList, False)) (r0 : Option Nat) (x1 : Int32) (x2 : Int32) : Sim X 3 (FiX X vI) 0 [(0, va_rf r0), (1, .int x1), (2, .int x2)] [] (f_X11_outcome (xZ X) r0 x1 x2) := by
  unfold f_X11_outcome
  refine sm_aload_n cx 0 dX11_outcome_0 rfl rfl ?_
  refine sm_iload_n cx 1 dX11_outcome_1 rfl rfl ?_
  refine sm_iload_n cx 2 dX11_outcome_2 rfl rfl ?_
  refine sm_callVX (T := TX11) (N := 14) (toV := vV) cx hth [.int x1, .int x2] rfl cv_X11_208 (fun a h => ct_X11_findOutcome (xZ X) a h x1 x2) (Nat.le_trans (by decide) hfr) (Nat.le_trans (by decide) hlo) rfl (cat_le _ (Nat.le_of_ble_eq_true rfl)) dX11_outcome_3 (fun _ => ?_)
  refine sm_aload_n cx 0 dX11_outcome_6 rfl rfl ?_
  refine sm_getR cx fl_X11_69 dX11_outcome_7 (fun v7 => ?_)
  refine sm_callV (T := TX7) (N := 3) (toV := vI) cx [] rfl cv_X11_211 (fun a h => ct_X7_size (xZ X) a h) (Nat.le_trans (by decide) hfr) (Nat.le_trans (by decide) hlo) rfl (cat_le _ (Nat.le_of_ble_eq_true rfl)) dX11_outcome_10 (fun v10 => ?_)
  exact sx_iret cx hr dX11_outcome_13
set_option maxRecDepth 100000 in
set_option maxHeartbeats 4000000 in
theorem ct_X11_outcome (Z : Nat → Nat) {r0 : Option Nat} (a0 : Nat) (h0 : r0 = some a0) (x1 : Int32) (x2 : Int32) : CtX yX11_outcome cX11_outcome 3 (some .int) 10 244 Z [.ref a0, .int x1, .int x2] vI (f_X11_outcome Z r0 x1 x2) := by
  subst h0
  refine ctx_of (lv0 := [(0, va_rf (some a0)), (1, .int x1), (2, .int x2)]) (by decide +kernel) (by simp [lg_sl, ct_i, ct_l, ct_r, rf_cat]) (by show _ = ([(0, Value.ref a0), (1, .int x1), (2, .int x2)] : List (Nat × Value)); simp [lv_args, ct_i, ct_l, ct_r, rf_cat]) (fun X cx hZ hfr hlo hr hth => ?_)
  subst hZ
  exact s_X11_outcome cx (Nat.le_of_eq hfr.symm) (Nat.le_of_eq hlo.symm) hr hth (some a0) x1 x2
/-! PolicyTree.value(III)I -/
theorem dX11_value_0 : decode cX11_value 0 = .ok (.aload_n 0, 1) := by decide +kernel
theorem dX11_value_1 : decode cX11_value 1 = .ok (.iload_n 1, 1) := by decide +kernel
theorem dX11_value_2 : decode cX11_value 2 = .ok (.iload_n 2, 1) := by decide +kernel
theorem dX11_value_3 : decode cX11_value 3 = .ok (.invokevirtual 208, 3) := by decide +kernel
theorem dX11_value_6 : decode cX11_value 6 = .ok (.aload_n 0, 1) := by decide +kernel
theorem dX11_value_7 : decode cX11_value 7 = .ok (.getfield 69, 3) := by decide +kernel
theorem dX11_value_10 : decode cX11_value 10 = .ok (.iload_n 3, 1) := by decide +kernel
theorem dX11_value_11 : decode cX11_value 11 = .ok (.invokevirtual 212, 3) := by decide +kernel
theorem dX11_value_14 : decode cX11_value 14 = .ok (.ireturn, 1) := by decide +kernel
def f_X11_value (Z : Nat → Nat) (r0 : Option Nat) (x1 : Int32) (x2 : Int32) (x3 : Int32) : Mo (Int32 ⊕ String) := mx (mo 14 r0 (f_X11_findOutcome Z r0 x1 x2)) (fun _ => mb (gR 14 11 r0) (fun v7 => mb (mo 10 v7 (f_X7_valueAt v7 x3)) (fun v11 => mp (.inl v11))))
set_option maxRecDepth 100000 in
set_option maxHeartbeats 4000000 in
theorem s_X11_value {X : Cg} (cx : Cx X cX11_value RX11 4) (hfr : 10 ≤ (xR X).frames) (hlo : 244 ≤ (xR X).locals) (hr : (xM X).sig.returnType = (some .int)) (hth : (xL X).stackTraces = false ∧ (∀ x ∈ (xC X).exceptionTable.toList, False)) (r0 : Option Nat) (x1 : Int32) (x2 : Int32) (x3 : Int32) : Sim X 4 (FiX X vI) 0 [(0, va_rf r0), (1, .int x1), (2, .int x2), (3, .int x3)] [] (f_X11_value (xZ X) r0 x1 x2 x3) := by
  unfold f_X11_value
  refine sm_aload_n cx 0 dX11_value_0 rfl rfl ?_
  refine sm_iload_n cx 1 dX11_value_1 rfl rfl ?_
  refine sm_iload_n cx 2 dX11_value_2 rfl rfl ?_
  refine sm_callVX (T := TX11) (N := 14) (toV := vV) cx hth [.int x1, .int x2] rfl cv_X11_208 (fun a h => ct_X11_findOutcome (xZ X) a h x1 x2) (Nat.le_trans (by decide) hfr) (Nat.le_trans (by decide) hlo) rfl (cat_le _ (Nat.le_of_ble_eq_true rfl)) dX11_value_3 (fun _ => ?_)
  refine sm_aload_n cx 0 dX11_value_6 rfl rfl ?_
  refine sm_getR cx fl_X11_69 dX11_value_7 (fun v7 => ?_)
  refine sm_iload_n cx 3 dX11_value_10 rfl rfl ?_
  refine sm_callV (T := TX7) (N := 3) (toV := vI) cx [.int x3] rfl cv_X11_212 (fun a h => ct_X7_valueAt (xZ X) a h x3) (Nat.le_trans (by decide) hfr) (Nat.le_trans (by decide) hlo) rfl (cat_le _ (Nat.le_of_ble_eq_true rfl)) dX11_value_11 (fun v11 => ?_)
  exact sx_iret cx hr dX11_value_14
set_option maxRecDepth 100000 in
set_option maxHeartbeats 4000000 in
theorem ct_X11_value (Z : Nat → Nat) {r0 : Option Nat} (a0 : Nat) (h0 : r0 = some a0) (x1 : Int32) (x2 : Int32) (x3 : Int32) : CtX yX11_value cX11_value 4 (some .int) 10 244 Z [.ref a0, .int x1, .int x2, .int x3] vI (f_X11_value Z r0 x1 x2 x3) := by
  subst h0
  refine ctx_of (lv0 := [(0, va_rf (some a0)), (1, .int x1), (2, .int x2), (3, .int x3)]) (by decide +kernel) (by simp [lg_sl, ct_i, ct_l, ct_r, rf_cat]) (by show _ = ([(0, Value.ref a0), (1, .int x1), (2, .int x2), (3, .int x3)] : List (Nat × Value)); simp [lv_args, ct_i, ct_l, ct_r, rf_cat]) (fun X cx hZ hfr hlo hr hth => ?_)
  subst hZ
  exact s_X11_value cx (Nat.le_of_eq hfr.symm) (Nat.le_of_eq hlo.symm) hr hth (some a0) x1 x2 x3
/-! PolicyTree.reason(II)I -/
theorem dX11_reason_0 : decode cX11_reason 0 = .ok (.aload_n 0, 1) := by decide +kernel
theorem dX11_reason_1 : decode cX11_reason 1 = .ok (.iload_n 1, 1) := by decide +kernel
theorem dX11_reason_2 : decode cX11_reason 2 = .ok (.iload_n 2, 1) := by decide +kernel
theorem dX11_reason_3 : decode cX11_reason 3 = .ok (.invokevirtual 208, 3) := by decide +kernel
theorem dX11_reason_6 : decode cX11_reason 6 = .ok (.aload_n 0, 1) := by decide +kernel
theorem dX11_reason_7 : decode cX11_reason 7 = .ok (.getfield 69, 3) := by decide +kernel
theorem dX11_reason_10 : decode cX11_reason 10 = .ok (.invokevirtual 215, 3) := by decide +kernel
theorem dX11_reason_13 : decode cX11_reason 13 = .ok (.astore_n 3, 1) := by decide +kernel
theorem dX11_reason_14 : decode cX11_reason 14 = .ok (.aload_n 3, 1) := by decide +kernel
theorem dX11_reason_15 : decode cX11_reason 15 = .ok (.ifnonnull 7, 3) := by decide +kernel
theorem dX11_reason_18 : decode cX11_reason 18 = .ok (.iconst (-1), 1) := by decide +kernel
theorem dX11_reason_19 : decode cX11_reason 19 = .ok (.goto 7, 3) := by decide +kernel
theorem dX11_reason_22 : decode cX11_reason 22 = .ok (.aload_n 3, 1) := by decide +kernel
theorem dX11_reason_23 : decode cX11_reason 23 = .ok (.getfield 198, 3) := by decide +kernel
theorem dX11_reason_26 : decode cX11_reason 26 = .ok (.ireturn, 1) := by decide +kernel
def f_X11_reason_26 (Z : Nat → Nat) (sx0 : Int32) : Mo (Int32 ⊕ String) := mp (.inl sx0)
set_option maxRecDepth 100000 in
set_option maxHeartbeats 4000000 in
theorem s_X11_reason_26 {X : Cg} (cx : Cx X cX11_reason RX11 4) (hfr : 10 ≤ (xR X).frames) (hlo : 244 ≤ (xR X).locals) (hr : (xM X).sig.returnType = (some .int)) (hth : (xL X).stackTraces = false ∧ (∀ x ∈ (xC X).exceptionTable.toList, False)) (sx0 : Int32) : Sim X 4 (FiX X vI) 26 [] [.int sx0] (f_X11_reason_26 (xZ X) sx0) := by
  unfold f_X11_reason_26
  exact sx_iret cx hr dX11_reason_26
def f_X11_reason (Z : Nat → Nat) (r0 : Option Nat) (x1 : Int32) (x2 : Int32) : Mo (Int32 ⊕ String) := mx (mo 14 r0 (f_X11_findOutcome Z r0 x1 x2)) (fun _ => mb (gR 14 11 r0) (fun v7 => mb (mo 10 v7 (f_X7_teller v7)) (fun v10 => (if v10 = none then f_X11_reason_26 Z (-1 : Int32) else mb (gI 7 0 v10) (fun v23 => f_X11_reason_26 Z v23)))))
set_option maxRecDepth 100000 in
set_option maxHeartbeats 4000000 in
theorem s_X11_reason {X : Cg} (cx : Cx X cX11_reason RX11 4) (hfr : 10 ≤ (xR X).frames) (hlo : 244 ≤ (xR X).locals) (hr : (xM X).sig.returnType = (some .int)) (hth : (xL X).stackTraces = false ∧ (∀ x ∈ (xC X).exceptionTable.toList, False)) (r0 : Option Nat) (x1 : Int32) (x2 : Int32) : Sim X 4 (FiX X vI) 0 [(0, va_rf r0), (1, .int x1), (2, .int x2)] [] (f_X11_reason (xZ X) r0 x1 x2) := by
  unfold f_X11_reason
  refine sm_aload_n cx 0 dX11_reason_0 rfl rfl ?_
  refine sm_iload_n cx 1 dX11_reason_1 rfl rfl ?_
  refine sm_iload_n cx 2 dX11_reason_2 rfl rfl ?_
  refine sm_callVX (T := TX11) (N := 14) (toV := vV) cx hth [.int x1, .int x2] rfl cv_X11_208 (fun a h => ct_X11_findOutcome (xZ X) a h x1 x2) (Nat.le_trans (by decide) hfr) (Nat.le_trans (by decide) hlo) rfl (cat_le _ (Nat.le_of_ble_eq_true rfl)) dX11_reason_3 (fun _ => ?_)
  refine sm_aload_n cx 0 dX11_reason_6 rfl rfl ?_
  refine sm_getR cx fl_X11_69 dX11_reason_7 (fun v7 => ?_)
  refine sm_callV (T := TX7) (N := 3) (toV := vR) cx [] rfl cv_X11_215 (fun a h => ct_X7_teller (xZ X) a h) (Nat.le_trans (by decide) hfr) (Nat.le_trans (by decide) hlo) rfl (cat_le _ (Nat.le_of_ble_eq_true rfl)) dX11_reason_10 (fun v10 => ?_)
  refine sm_astore_n cx [(3, va_rf v10), (0, va_rf r0), (1, .int x1), (2, .int x2)] dX11_reason_13 rfl (by decide) rfl (nc1 rfl) rfl ?_
  refine sm_aload_n cx 0 dX11_reason_14 rfl rfl ?_
  refine sm_ifnonnull (tgt := 22) cx dX11_reason_15 (by decide) ?_ ?_
  · refine sm_aload_n cx 0 dX11_reason_22 rfl rfl ?_
    refine sm_getI cx fl_X11_198 dX11_reason_23 (fun v23 => ?_)
    exact sm_lv [] rfl (s_X11_reason_26 cx hfr hlo hr hth v23)
  · refine sm_iconst (v := -1) cx dX11_reason_18 (by decide) ?_
    refine sm_goto (tgt := 26) cx dX11_reason_19 (by decide) ?_
    exact sm_lv [] rfl (s_X11_reason_26 cx hfr hlo hr hth (-1 : Int32))
set_option maxRecDepth 100000 in
set_option maxHeartbeats 4000000 in
theorem ct_X11_reason (Z : Nat → Nat) {r0 : Option Nat} (a0 : Nat) (h0 : r0 = some a0) (x1 : Int32) (x2 : Int32) : CtX yX11_reason cX11_reason 4 (some .int) 10 244 Z [.ref a0, .int x1, .int x2] vI (f_X11_reason Z r0 x1 x2) := by
  subst h0
  refine ctx_of (lv0 := [(0, va_rf (some a0)), (1, .int x1), (2, .int x2)]) (by decide +kernel) (by simp [lg_sl, ct_i, ct_l, ct_r, rf_cat]) (by show _ = ([(0, Value.ref a0), (1, .int x1), (2, .int x2)] : List (Nat × Value)); simp [lv_args, ct_i, ct_l, ct_r, rf_cat]) (fun X cx hZ hfr hlo hr hth => ?_)
  subst hZ
  exact s_X11_reason cx (Nat.le_of_eq hfr.symm) (Nat.le_of_eq hlo.symm) hr hth (some a0) x1 x2
/-! PolicyTree.beaten(III)I -/
theorem dX11_beaten_0 : decode cX11_beaten 0 = .ok (.aload_n 0, 1) := by decide +kernel
theorem dX11_beaten_1 : decode cX11_beaten 1 = .ok (.iload_n 1, 1) := by decide +kernel
theorem dX11_beaten_2 : decode cX11_beaten 2 = .ok (.iload_n 2, 1) := by decide +kernel
theorem dX11_beaten_3 : decode cX11_beaten 3 = .ok (.invokevirtual 208, 3) := by decide +kernel
theorem dX11_beaten_6 : decode cX11_beaten 6 = .ok (.iconst 0, 1) := by decide +kernel
theorem dX11_beaten_7 : decode cX11_beaten 7 = .ok (.istore 4, 2) := by decide +kernel
theorem dX11_beaten_9 : decode cX11_beaten 9 = .ok (.iconst 0, 1) := by decide +kernel
theorem dX11_beaten_10 : decode cX11_beaten 10 = .ok (.istore 5, 2) := by decide +kernel
theorem dX11_beaten_12 : decode cX11_beaten 12 = .ok (.iload 5, 2) := by decide +kernel
theorem dX11_beaten_14 : decode cX11_beaten 14 = .ok (.aload_n 0, 1) := by decide +kernel
theorem dX11_beaten_15 : decode cX11_beaten 15 = .ok (.getfield 59, 3) := by decide +kernel
theorem dX11_beaten_18 : decode cX11_beaten 18 = .ok (.invokevirtual 219, 3) := by decide +kernel
theorem dX11_beaten_21 : decode cX11_beaten 21 = .ok (.if_icmp .ge 68, 3) := by decide +kernel
theorem dX11_beaten_24 : decode cX11_beaten 24 = .ok (.aload_n 0, 1) := by decide +kernel
theorem dX11_beaten_25 : decode cX11_beaten 25 = .ok (.getfield 59, 3) := by decide +kernel
theorem dX11_beaten_28 : decode cX11_beaten 28 = .ok (.iload 5, 2) := by decide +kernel
theorem dX11_beaten_30 : decode cX11_beaten 30 = .ok (.invokevirtual 220, 3) := by decide +kernel
theorem dX11_beaten_33 : decode cX11_beaten 33 = .ok (.astore 6, 2) := by decide +kernel
theorem dX11_beaten_35 : decode cX11_beaten 35 = .ok (.aload 6, 2) := by decide +kernel
theorem dX11_beaten_37 : decode cX11_beaten 37 = .ok (.ifnull 46, 3) := by decide +kernel
theorem dX11_beaten_40 : decode cX11_beaten 40 = .ok (.aload 6, 2) := by decide +kernel
theorem dX11_beaten_42 : decode cX11_beaten 42 = .ok (.aload_n 0, 1) := by decide +kernel
theorem dX11_beaten_43 : decode cX11_beaten 43 = .ok (.getfield 69, 3) := by decide +kernel
theorem dX11_beaten_46 : decode cX11_beaten 46 = .ok (.invokevirtual 215, 3) := by decide +kernel
theorem dX11_beaten_49 : decode cX11_beaten 49 = .ok (.if_acmp .eq 34, 3) := by decide +kernel
theorem dX11_beaten_52 : decode cX11_beaten 52 = .ok (.aload_n 0, 1) := by decide +kernel
theorem dX11_beaten_53 : decode cX11_beaten 53 = .ok (.getfield 59, 3) := by decide +kernel
theorem dX11_beaten_56 : decode cX11_beaten 56 = .ok (.iload 5, 2) := by decide +kernel
theorem dX11_beaten_58 : decode cX11_beaten 58 = .ok (.iconst 0, 1) := by decide +kernel
theorem dX11_beaten_59 : decode cX11_beaten 59 = .ok (.invokevirtual 224, 3) := by decide +kernel
theorem dX11_beaten_62 : decode cX11_beaten 62 = .ok (.ifCond .ne 6, 3) := by decide +kernel
theorem dX11_beaten_65 : decode cX11_beaten 65 = .ok (.goto 18, 3) := by decide +kernel
theorem dX11_beaten_68 : decode cX11_beaten 68 = .ok (.iload 4, 2) := by decide +kernel
theorem dX11_beaten_70 : decode cX11_beaten 70 = .ok (.iload_n 3, 1) := by decide +kernel
theorem dX11_beaten_71 : decode cX11_beaten 71 = .ok (.if_icmp .ne 9, 3) := by decide +kernel
theorem dX11_beaten_74 : decode cX11_beaten 74 = .ok (.aload 6, 2) := by decide +kernel
theorem dX11_beaten_76 : decode cX11_beaten 76 = .ok (.getfield 198, 3) := by decide +kernel
theorem dX11_beaten_79 : decode cX11_beaten 79 = .ok (.ireturn, 1) := by decide +kernel
theorem dX11_beaten_80 : decode cX11_beaten 80 = .ok (.iinc 4 1, 3) := by decide +kernel
theorem dX11_beaten_83 : decode cX11_beaten 83 = .ok (.iinc 5 1, 3) := by decide +kernel
theorem dX11_beaten_86 : decode cX11_beaten 86 = .ok (.goto (-74), 3) := by decide +kernel
theorem dX11_beaten_89 : decode cX11_beaten 89 = .ok (.iconst (-1), 1) := by decide +kernel
theorem dX11_beaten_90 : decode cX11_beaten 90 = .ok (.ireturn, 1) := by decide +kernel
def f_X11_beaten_83 (Z : Nat → Nat) (k12 : Int32 → Int32 → Mo (Int32 ⊕ String)) (r0 : Option Nat) (x3 : Int32) (x4 : Int32) (x5 : Int32) : Mo (Int32 ⊕ String) := k12 x4 (x5 + 1)
set_option maxRecDepth 100000 in
set_option maxHeartbeats 4000000 in
theorem s_X11_beaten_83 {X : Cg} (cx : Cx X cX11_beaten RX11 7) (hfr : 10 ≤ (xR X).frames) (hlo : 244 ≤ (xR X).locals) (hr : (xM X).sig.returnType = (some .int)) (hth : (xL X).stackTraces = false ∧ (∀ x ∈ (xC X).exceptionTable.toList, False)) (r0 : Option Nat) (x3 : Int32) (x4 : Int32) (x5 : Int32) {k12 : Int32 → Int32 → Mo (Int32 ⊕ String)} (hk12 : ∀ (x4 : Int32) (x5 : Int32), Sim X 7 (FiX X vI) 12 [(0, va_rf r0), (3, .int x3), (4, .int x4), (5, .int x5)] [] (k12 x4 x5)) : Sim X 7 (FiX X vI) 83 [(0, va_rf r0), (3, .int x3), (4, .int x4), (5, .int x5)] [] (f_X11_beaten_83 (xZ X) k12 r0 x3 x4 x5) := by
  unfold f_X11_beaten_83
  refine sm_iinc cx 3 [(5, .int (x5 + 1)), (0, va_rf r0), (3, .int x3), (4, .int x4)] dX11_beaten_83 rfl rfl (by decide) rfl (nc1 rfl) rfl ?_
  refine sm_goto (tgt := 12) cx dX11_beaten_86 (by decide) ?_
  exact sm_lv [1, 2, 3, 0] rfl (hk12 x4 (x5 + 1))
def f_X11_beaten_12 (Z : Nat → Nat) (r0 : Option Nat) (x3 : Int32) : Nat → Int32 → Int32 → Mo (Int32 ⊕ String)
  | 0, _, _ => mf
  | n + 1, x4, x5 => mb (gR 14 9 r0) (fun v15 => mb (mo 11 v15 (f_X8_size v15)) (fun v18 => (if v18 ≤ x5 then mp (.inl (-1 : Int32)) else mb (gR 14 9 r0) (fun v25 => mb (mo 11 v25 (f_X8_linkAt v25 x5)) (fun v30 => (if v30 = none then f_X11_beaten_83 Z (f_X11_beaten_12 Z r0 x3 n) r0 x3 x4 x5 else mb (gR 14 11 r0) (fun v43 => mb (mo 10 v43 (f_X7_teller v43)) (fun v46 => (if v30 = v46 then f_X11_beaten_83 Z (f_X11_beaten_12 Z r0 x3 n) r0 x3 x4 x5 else mb (gR 14 9 r0) (fun v53 => mb (mo 11 v53 (f_X8_holds v53 x5 (0 : Int32))) (fun v59 => (if v59 = 0 then f_X11_beaten_83 Z (f_X11_beaten_12 Z r0 x3 n) r0 x3 x4 x5 else (if x4 = x3 then mb (gI 7 0 v30) (fun v76 => mp (.inl v76)) else f_X11_beaten_83 Z (f_X11_beaten_12 Z r0 x3 n) r0 x3 (x4 + 1) x5)))))))))))))
set_option maxRecDepth 100000 in
set_option maxHeartbeats 4000000 in
theorem s_X11_beaten_12 {X : Cg} (cx : Cx X cX11_beaten RX11 7) (hfr : 10 ≤ (xR X).frames) (hlo : 244 ≤ (xR X).locals) (hr : (xM X).sig.returnType = (some .int)) (hth : (xL X).stackTraces = false ∧ (∀ x ∈ (xC X).exceptionTable.toList, False)) (r0 : Option Nat) (x3 : Int32) : ∀ (n : Nat) (x4 : Int32) (x5 : Int32), Sim X 7 (FiX X vI) 12 [(0, va_rf r0), (3, .int x3), (4, .int x4), (5, .int x5)] [] (f_X11_beaten_12 (xZ X) r0 x3 n x4 x5) := by
  intro n
  induction n with
  | zero =>
    intro _ _
    exact sm_mf
  | succ n ih =>
    intro x4 x5
    rw [f_X11_beaten_12]
    refine sm_iload cx 3 dX11_beaten_12 rfl ?_
    refine sm_aload_n cx 0 dX11_beaten_14 rfl rfl ?_
    refine sm_getR cx fl_X11_59 dX11_beaten_15 (fun v15 => ?_)
    refine sm_callV (T := TX8) (N := 4) (toV := vI) cx [] rfl cv_X11_219 (fun a h => ct_X8_size (xZ X) a h) (Nat.le_trans (by decide) hfr) (Nat.le_trans (by decide) hlo) rfl (cat_le _ (Nat.le_of_ble_eq_true rfl)) dX11_beaten_18 (fun v18 => ?_)
    refine sm_icmp_ge (tgt := 89) cx dX11_beaten_21 (by decide) ?_ ?_
    · refine sm_iconst (v := -1) cx dX11_beaten_89 (by decide) ?_
      exact sx_iret cx hr dX11_beaten_90
    · refine sm_aload_n cx 0 dX11_beaten_24 rfl rfl ?_
      refine sm_getR cx fl_X11_59 dX11_beaten_25 (fun v25 => ?_)
      refine sm_iload cx 3 dX11_beaten_28 rfl ?_
      refine sm_callV (T := TX8) (N := 4) (toV := vR) cx [.int x5] rfl cv_X11_220 (fun a h => ct_X8_linkAt (xZ X) a h x5) (Nat.le_trans (by decide) hfr) (Nat.le_trans (by decide) hlo) rfl (cat_le _ (Nat.le_of_ble_eq_true rfl)) dX11_beaten_30 (fun v30 => ?_)
      refine sm_astore cx [(6, va_rf v30), (0, va_rf r0), (3, .int x3), (4, .int x4), (5, .int x5)] dX11_beaten_33 (by decide) rfl (nc1 rfl) rfl ?_
      refine sm_aload cx 0 dX11_beaten_35 rfl ?_
      refine sm_ifnull (tgt := 83) cx dX11_beaten_37 (by decide) ?_ ?_
      · exact sm_lv [1, 2, 3, 4] rfl (s_X11_beaten_83 cx hfr hlo hr hth r0 x3 x4 x5 ih)
      · refine sm_aload cx 0 dX11_beaten_40 rfl ?_
        refine sm_aload_n cx 1 dX11_beaten_42 rfl rfl ?_
        refine sm_getR cx fl_X11_69 dX11_beaten_43 (fun v43 => ?_)
        refine sm_callV (T := TX7) (N := 3) (toV := vR) cx [] rfl cv_X11_215 (fun a h => ct_X7_teller (xZ X) a h) (Nat.le_trans (by decide) hfr) (Nat.le_trans (by decide) hlo) rfl (cat_le _ (Nat.le_of_ble_eq_true rfl)) dX11_beaten_46 (fun v46 => ?_)
        refine sm_acmp_eq (tgt := 83) cx dX11_beaten_49 (by decide) ?_ ?_
        · exact sm_lv [1, 2, 3, 4] rfl (s_X11_beaten_83 cx hfr hlo hr hth r0 x3 x4 x5 ih)
        · refine sm_aload_n cx 1 dX11_beaten_52 rfl rfl ?_
          refine sm_getR cx fl_X11_59 dX11_beaten_53 (fun v53 => ?_)
          refine sm_iload cx 4 dX11_beaten_56 rfl ?_
          refine sm_iconst (v := 0) cx dX11_beaten_58 (by decide) ?_
          refine sm_callV (T := TX8) (N := 4) (toV := vI) cx [.int x5, .int (0 : Int32)] rfl cv_X11_224 (fun a h => ct_X8_holds (xZ X) a h x5 (0 : Int32)) (Nat.le_trans (by decide) hfr) (Nat.le_trans (by decide) hlo) rfl (cat_le _ (Nat.le_of_ble_eq_true rfl)) dX11_beaten_59 (fun v59 => ?_)
          refine sm_if_ne (tgt := 68) cx dX11_beaten_62 (by decide) ?_ ?_
          · refine sm_iload cx 3 dX11_beaten_68 rfl ?_
            refine sm_iload_n cx 2 dX11_beaten_70 rfl rfl ?_
            refine sm_icmp_ne (tgt := 80) cx dX11_beaten_71 (by decide) ?_ ?_
            · refine sm_iinc cx 3 [(4, .int (x4 + 1)), (6, va_rf v30), (0, va_rf r0), (3, .int x3), (5, .int x5)] dX11_beaten_80 rfl rfl (by decide) rfl (nc1 rfl) rfl ?_
              exact sm_lv [2, 3, 0, 4] rfl (s_X11_beaten_83 cx hfr hlo hr hth r0 x3 (x4 + 1) x5 ih)
            · refine sm_aload cx 0 dX11_beaten_74 rfl ?_
              refine sm_getI cx fl_X11_198 dX11_beaten_76 (fun v76 => ?_)
              exact sx_iret cx hr dX11_beaten_79
          · refine sm_goto (tgt := 83) cx dX11_beaten_65 (by decide) ?_
            exact sm_lv [1, 2, 3, 4] rfl (s_X11_beaten_83 cx hfr hlo hr hth r0 x3 x4 x5 ih)
def f_X11_beaten (Z : Nat → Nat) (r0 : Option Nat) (x1 : Int32) (x2 : Int32) (x3 : Int32) : Mo (Int32 ⊕ String) := mx (mo 14 r0 (f_X11_findOutcome Z r0 x1 x2)) (fun _ => f_X11_beaten_12 Z r0 x3 fuL (0 : Int32) (0 : Int32))
set_option maxRecDepth 100000 in
set_option maxHeartbeats 4000000 in
theorem s_X11_beaten {X : Cg} (cx : Cx X cX11_beaten RX11 7) (hfr : 10 ≤ (xR X).frames) (hlo : 244 ≤ (xR X).locals) (hr : (xM X).sig.returnType = (some .int)) (hth : (xL X).stackTraces = false ∧ (∀ x ∈ (xC X).exceptionTable.toList, False)) (r0 : Option Nat) (x1 : Int32) (x2 : Int32) (x3 : Int32) : Sim X 7 (FiX X vI) 0 [(0, va_rf r0), (1, .int x1), (2, .int x2), (3, .int x3)] [] (f_X11_beaten (xZ X) r0 x1 x2 x3) := by
  unfold f_X11_beaten
  refine sm_aload_n cx 0 dX11_beaten_0 rfl rfl ?_
  refine sm_iload_n cx 1 dX11_beaten_1 rfl rfl ?_
  refine sm_iload_n cx 2 dX11_beaten_2 rfl rfl ?_
  refine sm_callVX (T := TX11) (N := 14) (toV := vV) cx hth [.int x1, .int x2] rfl cv_X11_208 (fun a h => ct_X11_findOutcome (xZ X) a h x1 x2) (Nat.le_trans (by decide) hfr) (Nat.le_trans (by decide) hlo) rfl (cat_le _ (Nat.le_of_ble_eq_true rfl)) dX11_beaten_3 (fun _ => ?_)
  refine sm_iconst (v := 0) cx dX11_beaten_6 (by decide) ?_
  refine sm_istore cx [(4, .int (0 : Int32)), (0, va_rf r0), (1, .int x1), (2, .int x2), (3, .int x3)] dX11_beaten_7 (by decide) rfl (nc1 rfl) rfl ?_
  refine sm_iconst (v := 0) cx dX11_beaten_9 (by decide) ?_
  refine sm_istore cx [(5, .int (0 : Int32)), (4, .int (0 : Int32)), (0, va_rf r0), (1, .int x1), (2, .int x2), (3, .int x3)] dX11_beaten_10 (by decide) rfl (nc1 rfl) rfl ?_
  exact sm_lv [2, 5, 1, 0] rfl (s_X11_beaten_12 cx hfr hlo hr hth r0 x3 fuL (0 : Int32) (0 : Int32))
set_option maxRecDepth 100000 in
set_option maxHeartbeats 4000000 in
theorem ct_X11_beaten (Z : Nat → Nat) {r0 : Option Nat} (a0 : Nat) (h0 : r0 = some a0) (x1 : Int32) (x2 : Int32) (x3 : Int32) : CtX yX11_beaten cX11_beaten 7 (some .int) 10 244 Z [.ref a0, .int x1, .int x2, .int x3] vI (f_X11_beaten Z r0 x1 x2 x3) := by
  subst h0
  refine ctx_of (lv0 := [(0, va_rf (some a0)), (1, .int x1), (2, .int x2), (3, .int x3)]) (by decide +kernel) (by simp [lg_sl, ct_i, ct_l, ct_r, rf_cat]) (by show _ = ([(0, Value.ref a0), (1, .int x1), (2, .int x2), (3, .int x3)] : List (Nat × Value)); simp [lv_args, ct_i, ct_l, ct_r, rf_cat]) (fun X cx hZ hfr hlo hr hth => ?_)
  subst hZ
  exact s_X11_beaten cx (Nat.le_of_eq hfr.symm) (Nat.le_of_eq hlo.symm) hr hth (some a0) x1 x2 x3
/-! PolicyTree.sure(II)Z -/
theorem dX11_sure_0 : decode cX11_sure 0 = .ok (.aload_n 0, 1) := by decide +kernel
theorem dX11_sure_1 : decode cX11_sure 1 = .ok (.iload_n 1, 1) := by decide +kernel
theorem dX11_sure_2 : decode cX11_sure 2 = .ok (.iload_n 2, 1) := by decide +kernel
theorem dX11_sure_3 : decode cX11_sure 3 = .ok (.invokevirtual 208, 3) := by decide +kernel
theorem dX11_sure_6 : decode cX11_sure 6 = .ok (.aload_n 0, 1) := by decide +kernel
theorem dX11_sure_7 : decode cX11_sure 7 = .ok (.getfield 59, 3) := by decide +kernel
theorem dX11_sure_10 : decode cX11_sure 10 = .ok (.invokevirtual 227, 3) := by decide +kernel
theorem dX11_sure_13 : decode cX11_sure 13 = .ok (.istore_n 3, 1) := by decide +kernel
theorem dX11_sure_14 : decode cX11_sure 14 = .ok (.iconst 0, 1) := by decide +kernel
theorem dX11_sure_15 : decode cX11_sure 15 = .ok (.istore 4, 2) := by decide +kernel
theorem dX11_sure_17 : decode cX11_sure 17 = .ok (.iload 4, 2) := by decide +kernel
theorem dX11_sure_19 : decode cX11_sure 19 = .ok (.iconst 4, 1) := by decide +kernel
theorem dX11_sure_20 : decode cX11_sure 20 = .ok (.if_icmp .ge 41, 3) := by decide +kernel
theorem dX11_sure_23 : decode cX11_sure 23 = .ok (.iload 4, 2) := by decide +kernel
theorem dX11_sure_25 : decode cX11_sure 25 = .ok (.bipush 64, 2) := by decide +kernel
theorem dX11_sure_27 : decode cX11_sure 27 = .ok (.imul, 1) := by decide +kernel
theorem dX11_sure_28 : decode cX11_sure 28 = .ok (.iload_n 3, 1) := by decide +kernel
theorem dX11_sure_29 : decode cX11_sure 29 = .ok (.iconst (-1), 1) := by decide +kernel
theorem dX11_sure_30 : decode cX11_sure 30 = .ok (.ixor, 1) := by decide +kernel
theorem dX11_sure_31 : decode cX11_sure 31 = .ok (.iand, 1) := by decide +kernel
theorem dX11_sure_32 : decode cX11_sure 32 = .ok (.ifCond .ne 23, 3) := by decide +kernel
theorem dX11_sure_35 : decode cX11_sure 35 = .ok (.aload_n 0, 1) := by decide +kernel
theorem dX11_sure_36 : decode cX11_sure 36 = .ok (.getfield 59, 3) := by decide +kernel
theorem dX11_sure_39 : decode cX11_sure 39 = .ok (.iload 4, 2) := by decide +kernel
theorem dX11_sure_41 : decode cX11_sure 41 = .ok (.invokevirtual 232, 3) := by decide +kernel
theorem dX11_sure_44 : decode cX11_sure 44 = .ok (.aload_n 0, 1) := by decide +kernel
theorem dX11_sure_45 : decode cX11_sure 45 = .ok (.iload_n 2, 1) := by decide +kernel
theorem dX11_sure_46 : decode cX11_sure 46 = .ok (.iload_n 3, 1) := by decide +kernel
theorem dX11_sure_47 : decode cX11_sure 47 = .ok (.invokevirtual 235, 3) := by decide +kernel
theorem dX11_sure_50 : decode cX11_sure 50 = .ok (.ifCond .ne 5, 3) := by decide +kernel
theorem dX11_sure_53 : decode cX11_sure 53 = .ok (.iconst 0, 1) := by decide +kernel
theorem dX11_sure_54 : decode cX11_sure 54 = .ok (.ireturn, 1) := by decide +kernel
theorem dX11_sure_55 : decode cX11_sure 55 = .ok (.iinc 4 1, 3) := by decide +kernel
theorem dX11_sure_58 : decode cX11_sure 58 = .ok (.goto (-41), 3) := by decide +kernel
theorem dX11_sure_61 : decode cX11_sure 61 = .ok (.iconst 1, 1) := by decide +kernel
theorem dX11_sure_62 : decode cX11_sure 62 = .ok (.ireturn, 1) := by decide +kernel
def f_X11_sure_55 (Z : Nat → Nat) (k17 : Int32 → Mo (Int32 ⊕ String)) (r0 : Option Nat) (x2 : Int32) (x3 : Int32) (x4 : Int32) : Mo (Int32 ⊕ String) := k17 (x4 + 1)
set_option maxRecDepth 100000 in
set_option maxHeartbeats 4000000 in
theorem s_X11_sure_55 {X : Cg} (cx : Cx X cX11_sure RX11 5) (hfr : 10 ≤ (xR X).frames) (hlo : 244 ≤ (xR X).locals) (hr : (xM X).sig.returnType = (some .boolean)) (hth : (xL X).stackTraces = false ∧ (∀ x ∈ (xC X).exceptionTable.toList, False)) (r0 : Option Nat) (x2 : Int32) (x3 : Int32) (x4 : Int32) {k17 : Int32 → Mo (Int32 ⊕ String)} (hk17 : ∀ (x4 : Int32), Sim X 5 (FiX X vI) 17 [(0, va_rf r0), (2, .int x2), (3, .int x3), (4, .int x4)] [] (k17 x4)) : Sim X 5 (FiX X vI) 55 [(0, va_rf r0), (2, .int x2), (3, .int x3), (4, .int x4)] [] (f_X11_sure_55 (xZ X) k17 r0 x2 x3 x4) := by
  unfold f_X11_sure_55
  refine sm_iinc cx 3 [(4, .int (x4 + 1)), (0, va_rf r0), (2, .int x2), (3, .int x3)] dX11_sure_55 rfl rfl (by decide) rfl (nc1 rfl) rfl ?_
  refine sm_goto (tgt := 17) cx dX11_sure_58 (by decide) ?_
  exact sm_lv [1, 2, 3, 0] rfl (hk17 (x4 + 1))
def f_X11_sure_17 (Z : Nat → Nat) (r0 : Option Nat) (x2 : Int32) (x3 : Int32) : Nat → Int32 → Mo (Int32 ⊕ String)
  | 0, _ => mf
  | n + 1, x4 => (if (4 : Int32) ≤ x4 then rzX .boolean (1 : Int32) else (if ((x4 * (64 : Int32)) &&& (x3 ^^^ (-1 : Int32))) = 0 then mb (gR 14 9 r0) (fun v36 => mb (mo 11 v36 (f_X8_weigh Z v36 x4)) (fun _ => mb (mo 14 r0 (f_X11_isSameInLane r0 x2 x3)) (fun v47 => (if v47 = 0 then rzX .boolean (0 : Int32) else f_X11_sure_55 Z (f_X11_sure_17 Z r0 x2 x3 n) r0 x2 x3 x4)))) else f_X11_sure_55 Z (f_X11_sure_17 Z r0 x2 x3 n) r0 x2 x3 x4))
set_option maxRecDepth 100000 in
set_option maxHeartbeats 4000000 in
theorem s_X11_sure_17 {X : Cg} (cx : Cx X cX11_sure RX11 5) (hfr : 10 ≤ (xR X).frames) (hlo : 244 ≤ (xR X).locals) (hr : (xM X).sig.returnType = (some .boolean)) (hth : (xL X).stackTraces = false ∧ (∀ x ∈ (xC X).exceptionTable.toList, False)) (r0 : Option Nat) (x2 : Int32) (x3 : Int32) : ∀ (n : Nat) (x4 : Int32), Sim X 5 (FiX X vI) 17 [(0, va_rf r0), (2, .int x2), (3, .int x3), (4, .int x4)] [] (f_X11_sure_17 (xZ X) r0 x2 x3 n x4) := by
  intro n
  induction n with
  | zero =>
    intro _
    exact sm_mf
  | succ n ih =>
    intro x4
    rw [f_X11_sure_17]
    refine sm_iload cx 3 dX11_sure_17 rfl ?_
    refine sm_iconst (v := 4) cx dX11_sure_19 (by decide) ?_
    refine sm_icmp_ge (tgt := 61) cx dX11_sure_20 (by decide) ?_ ?_
    · refine sm_iconst (v := 1) cx dX11_sure_61 (by decide) ?_
      exact sx_zret cx hr dX11_sure_62
    · refine sm_iload cx 3 dX11_sure_23 rfl ?_
      refine sm_bipush (v := 64) cx dX11_sure_25 (by decide) ?_
      refine sm_imul cx dX11_sure_27 ?_
      refine sm_iload_n cx 2 dX11_sure_28 rfl rfl ?_
      refine sm_iconst (v := -1) cx dX11_sure_29 (by decide) ?_
      refine sm_ixor cx dX11_sure_30 ?_
      refine sm_iand cx dX11_sure_31 ?_
      refine sm_if_ne (tgt := 55) cx dX11_sure_32 (by decide) ?_ ?_
      · exact sm_lv [0, 1, 2, 3] rfl (s_X11_sure_55 cx hfr hlo hr hth r0 x2 x3 x4 ih)
      · refine sm_aload_n cx 0 dX11_sure_35 rfl rfl ?_
        refine sm_getR cx fl_X11_59 dX11_sure_36 (fun v36 => ?_)
        refine sm_iload cx 3 dX11_sure_39 rfl ?_
        refine sm_callV (T := TX8) (N := 4) (toV := vV) cx [.int x4] rfl cv_X11_232 (fun a h => ct_X8_weigh (xZ X) a h x4) (Nat.le_trans (by decide) hfr) (Nat.le_trans (by decide) hlo) rfl (cat_le _ (Nat.le_of_ble_eq_true rfl)) dX11_sure_41 (fun _ => ?_)
        refine sm_aload_n cx 0 dX11_sure_44 rfl rfl ?_
        refine sm_iload_n cx 1 dX11_sure_45 rfl rfl ?_
        refine sm_iload_n cx 2 dX11_sure_46 rfl rfl ?_
        refine sm_callV (T := TX11) (N := 14) (toV := vI) cx [.int x2, .int x3] rfl cv_X11_235 (fun a h => ct_X11_isSameInLane (xZ X) a h x2 x3) (Nat.le_trans (by decide) hfr) (Nat.le_trans (by decide) hlo) rfl (cat_le _ (Nat.le_of_ble_eq_true rfl)) dX11_sure_47 (fun v47 => ?_)
        refine sm_if_ne (tgt := 55) cx dX11_sure_50 (by decide) ?_ ?_
        · exact sm_lv [0, 1, 2, 3] rfl (s_X11_sure_55 cx hfr hlo hr hth r0 x2 x3 x4 ih)
        · refine sm_iconst (v := 0) cx dX11_sure_53 (by decide) ?_
          exact sx_zret cx hr dX11_sure_54
def f_X11_sure (Z : Nat → Nat) (r0 : Option Nat) (x1 : Int32) (x2 : Int32) : Mo (Int32 ⊕ String) := mx (mo 14 r0 (f_X11_findOutcome Z r0 x1 x2)) (fun _ => mb (gR 14 9 r0) (fun v7 => mb (mo 11 v7 (f_X8_doubtedFacts v7)) (fun v10 => f_X11_sure_17 Z r0 x2 v10 fuL (0 : Int32))))
set_option maxRecDepth 100000 in
set_option maxHeartbeats 4000000 in
theorem s_X11_sure {X : Cg} (cx : Cx X cX11_sure RX11 5) (hfr : 10 ≤ (xR X).frames) (hlo : 244 ≤ (xR X).locals) (hr : (xM X).sig.returnType = (some .boolean)) (hth : (xL X).stackTraces = false ∧ (∀ x ∈ (xC X).exceptionTable.toList, False)) (r0 : Option Nat) (x1 : Int32) (x2 : Int32) : Sim X 5 (FiX X vI) 0 [(0, va_rf r0), (1, .int x1), (2, .int x2)] [] (f_X11_sure (xZ X) r0 x1 x2) := by
  unfold f_X11_sure
  refine sm_aload_n cx 0 dX11_sure_0 rfl rfl ?_
  refine sm_iload_n cx 1 dX11_sure_1 rfl rfl ?_
  refine sm_iload_n cx 2 dX11_sure_2 rfl rfl ?_
  refine sm_callVX (T := TX11) (N := 14) (toV := vV) cx hth [.int x1, .int x2] rfl cv_X11_208 (fun a h => ct_X11_findOutcome (xZ X) a h x1 x2) (Nat.le_trans (by decide) hfr) (Nat.le_trans (by decide) hlo) rfl (cat_le _ (Nat.le_of_ble_eq_true rfl)) dX11_sure_3 (fun _ => ?_)
  refine sm_aload_n cx 0 dX11_sure_6 rfl rfl ?_
  refine sm_getR cx fl_X11_59 dX11_sure_7 (fun v7 => ?_)
  refine sm_callV (T := TX8) (N := 4) (toV := vI) cx [] rfl cv_X11_227 (fun a h => ct_X8_doubtedFacts (xZ X) a h) (Nat.le_trans (by decide) hfr) (Nat.le_trans (by decide) hlo) rfl (cat_le _ (Nat.le_of_ble_eq_true rfl)) dX11_sure_10 (fun v10 => ?_)
  refine sm_istore_n cx [(3, .int v10), (0, va_rf r0), (1, .int x1), (2, .int x2)] dX11_sure_13 rfl (by decide) rfl (nc1 rfl) rfl ?_
  refine sm_iconst (v := 0) cx dX11_sure_14 (by decide) ?_
  refine sm_istore cx [(4, .int (0 : Int32)), (3, .int v10), (0, va_rf r0), (1, .int x1), (2, .int x2)] dX11_sure_15 (by decide) rfl (nc1 rfl) rfl ?_
  exact sm_lv [2, 4, 1, 0] rfl (s_X11_sure_17 cx hfr hlo hr hth r0 x2 v10 fuL (0 : Int32))
set_option maxRecDepth 100000 in
set_option maxHeartbeats 4000000 in
theorem ct_X11_sure (Z : Nat → Nat) {r0 : Option Nat} (a0 : Nat) (h0 : r0 = some a0) (x1 : Int32) (x2 : Int32) : CtX yX11_sure cX11_sure 5 (some .boolean) 10 244 Z [.ref a0, .int x1, .int x2] vI (f_X11_sure Z r0 x1 x2) := by
  subst h0
  refine ctx_of (lv0 := [(0, va_rf (some a0)), (1, .int x1), (2, .int x2)]) (by decide +kernel) (by simp [lg_sl, ct_i, ct_l, ct_r, rf_cat]) (by show _ = ([(0, Value.ref a0), (1, .int x1), (2, .int x2)] : List (Nat × Value)); simp [lv_args, ct_i, ct_l, ct_r, rf_cat]) (fun X cx hZ hfr hlo hr hth => ?_)
  subst hZ
  exact s_X11_sure cx (Nat.le_of_eq hfr.symm) (Nat.le_of_eq hlo.symm) hr hth (some a0) x1 x2
/-! PolicyTree.reach(I)I -/
theorem dX11_reach_0 : decode cX11_reach 0 = .ok (.iload_n 1, 1) := by decide +kernel
theorem dX11_reach_1 : decode cX11_reach 1 = .ok (.aload_n 0, 1) := by decide +kernel
theorem dX11_reach_2 : decode cX11_reach 2 = .ok (.getfield 29, 3) := by decide +kernel
theorem dX11_reach_5 : decode cX11_reach 5 = .ok (.invokevirtual 88, 3) := by decide +kernel
theorem dX11_reach_8 : decode cX11_reach 8 = .ok (.invokestatic 92, 3) := by decide +kernel
theorem dX11_reach_11 : decode cX11_reach 11 = .ok (.aload_n 0, 1) := by decide +kernel
theorem dX11_reach_12 : decode cX11_reach 12 = .ok (.aload_n 0, 1) := by decide +kernel
theorem dX11_reach_13 : decode cX11_reach 13 = .ok (.getfield 29, 3) := by decide +kernel
theorem dX11_reach_16 : decode cX11_reach 16 = .ok (.iload_n 1, 1) := by decide +kernel
theorem dX11_reach_17 : decode cX11_reach 17 = .ok (.invokevirtual 99, 3) := by decide +kernel
theorem dX11_reach_20 : decode cX11_reach 20 = .ok (.checkcast 185, 3) := by decide +kernel
theorem dX11_reach_23 : decode cX11_reach 23 = .ok (.invokevirtual 238, 3) := by decide +kernel
theorem dX11_reach_26 : decode cX11_reach 26 = .ok (.ireturn, 1) := by decide +kernel
def f_X11_reach (Z : Nat → Nat) (r0 : Option Nat) (x1 : Int32) : Mo (Int32 ⊕ String) := mb (gR 14 4 r0) (fun v2 => mb (mo 2 v2 (f_Jx4a65c_size_8abf5 v2)) (fun v5 => mx (f_X11_needNumber x1 v5) (fun _ => mb (gR 14 4 r0) (fun v13 => mb (mo 2 v13 (f_Jx4a65c_get_915e3 v13 x1)) (fun v17 => mb (ck 7 v17) (fun _ => mb (mo 14 r0 (f_X11_listReach Z r0 v17)) (fun v23 => mp (.inl v23))))))))
set_option maxRecDepth 100000 in
set_option maxHeartbeats 4000000 in
theorem s_X11_reach {X : Cg} (cx : Cx X cX11_reach RX11 2) (hfr : 10 ≤ (xR X).frames) (hlo : 246 ≤ (xR X).locals) (hr : (xM X).sig.returnType = (some .int)) (hth : (xL X).stackTraces = false ∧ (∀ x ∈ (xC X).exceptionTable.toList, False)) (r0 : Option Nat) (x1 : Int32) : Sim X 2 (FiX X vI) 0 [(0, va_rf r0), (1, .int x1)] [] (f_X11_reach (xZ X) r0 x1) := by
  unfold f_X11_reach
  refine sm_iload_n cx 1 dX11_reach_0 rfl rfl ?_
  refine sm_aload_n cx 0 dX11_reach_1 rfl rfl ?_
  refine sm_getR cx fl_X11_29 dX11_reach_2 (fun v2 => ?_)
  refine sm_callV (T := TJx4a65c) (N := 3) (toV := vI) cx [] rfl cv_X11_88 (fun a h => ct_Jx4a65c_size_8abf5 (xZ X) a h) (Nat.le_trans (by decide) hfr) (Nat.le_trans (by decide) hlo) rfl (cat_le _ (Nat.le_of_ble_eq_true rfl)) dX11_reach_5 (fun v5 => ?_)
  refine sm_callSX (toV := vV) cx hth [.int x1, .int v5] cs_X11_92 (ct_X11_needNumber (xZ X) x1 v5) (Nat.le_trans (by decide) hfr) (Nat.le_trans (by decide) hlo) rfl (cat_le _ (Nat.le_of_ble_eq_true rfl)) dX11_reach_8 (fun _ => ?_)
  refine sm_aload_n cx 0 dX11_reach_11 rfl rfl ?_
  refine sm_aload_n cx 0 dX11_reach_12 rfl rfl ?_
  refine sm_getR cx fl_X11_29 dX11_reach_13 (fun v13 => ?_)
  refine sm_iload_n cx 1 dX11_reach_16 rfl rfl ?_
  refine sm_callV (T := TJx4a65c) (N := 3) (toV := vR) cx [.int x1] rfl cv_X11_99 (fun a h => ct_Jx4a65c_get_915e3 (xZ X) a h x1) (Nat.le_trans (by decide) hfr) (Nat.le_trans (by decide) hlo) rfl (cat_le _ (Nat.le_of_ble_eq_true rfl)) dX11_reach_17 (fun v17 => ?_)
  refine sm_ck (T := TX4) (N := 7) cx rfl wd_2_142 dX11_reach_20 ?_
  refine sm_callV (T := TX11) (N := 14) (toV := vI) cx [va_rf v17] rfl cv_X11_238 (fun a h => ct_X11_listReach (xZ X) a h v17) (Nat.le_trans (by decide) hfr) (Nat.le_trans (by decide) hlo) rfl (cat_le _ (Nat.le_of_ble_eq_true rfl)) dX11_reach_23 (fun v23 => ?_)
  exact sx_iret cx hr dX11_reach_26
set_option maxRecDepth 100000 in
set_option maxHeartbeats 4000000 in
theorem ct_X11_reach (Z : Nat → Nat) {r0 : Option Nat} (a0 : Nat) (h0 : r0 = some a0) (x1 : Int32) : CtX yX11_reach cX11_reach 2 (some .int) 10 246 Z [.ref a0, .int x1] vI (f_X11_reach Z r0 x1) := by
  subst h0
  refine ctx_of (lv0 := [(0, va_rf (some a0)), (1, .int x1)]) (by decide +kernel) (by simp [lg_sl, ct_i, ct_l, ct_r, rf_cat]) (by show _ = ([(0, Value.ref a0), (1, .int x1)] : List (Nat × Value)); simp [lv_args, ct_i, ct_l, ct_r, rf_cat]) (fun X cx hZ hfr hlo hr hth => ?_)
  subst hZ
  exact s_X11_reach cx (Nat.le_of_eq hfr.symm) (Nat.le_of_eq hlo.symm) hr hth (some a0) x1
/-! PolicyTree.reached(III)I -/
theorem dX11_reached_0 : decode cX11_reached 0 = .ok (.iload_n 1, 1) := by decide +kernel
theorem dX11_reached_1 : decode cX11_reached 1 = .ok (.aload_n 0, 1) := by decide +kernel
theorem dX11_reached_2 : decode cX11_reached 2 = .ok (.getfield 29, 3) := by decide +kernel
theorem dX11_reached_5 : decode cX11_reached 5 = .ok (.invokevirtual 88, 3) := by decide +kernel
theorem dX11_reached_8 : decode cX11_reached 8 = .ok (.invokestatic 92, 3) := by decide +kernel
theorem dX11_reached_11 : decode cX11_reached 11 = .ok (.iload_n 3, 1) := by decide +kernel
theorem dX11_reached_12 : decode cX11_reached 12 = .ok (.iconst 2, 1) := by decide +kernel
theorem dX11_reached_13 : decode cX11_reached 13 = .ok (.invokestatic 127, 3) := by decide +kernel
theorem dX11_reached_16 : decode cX11_reached 16 = .ok (.aload_n 0, 1) := by decide +kernel
theorem dX11_reached_17 : decode cX11_reached 17 = .ok (.aload_n 0, 1) := by decide +kernel
theorem dX11_reached_18 : decode cX11_reached 18 = .ok (.getfield 29, 3) := by decide +kernel
theorem dX11_reached_21 : decode cX11_reached 21 = .ok (.iload_n 1, 1) := by decide +kernel
theorem dX11_reached_22 : decode cX11_reached 22 = .ok (.invokevirtual 99, 3) := by decide +kernel
theorem dX11_reached_25 : decode cX11_reached 25 = .ok (.checkcast 185, 3) := by decide +kernel
theorem dX11_reached_28 : decode cX11_reached 28 = .ok (.invokevirtual 238, 3) := by decide +kernel
theorem dX11_reached_31 : decode cX11_reached 31 = .ok (.istore 4, 2) := by decide +kernel
theorem dX11_reached_33 : decode cX11_reached 33 = .ok (.iload_n 2, 1) := by decide +kernel
theorem dX11_reached_34 : decode cX11_reached 34 = .ok (.ifCond .lt 18, 3) := by decide +kernel
theorem dX11_reached_37 : decode cX11_reached 37 = .ok (.iload_n 2, 1) := by decide +kernel
theorem dX11_reached_38 : decode cX11_reached 38 = .ok (.iload 4, 2) := by decide +kernel
theorem dX11_reached_40 : decode cX11_reached 40 = .ok (.if_icmp .ge 12, 3) := by decide +kernel
theorem dX11_reached_43 : decode cX11_reached 43 = .ok (.iload_n 2, 1) := by decide +kernel
theorem dX11_reached_44 : decode cX11_reached 44 = .ok (.aload_n 0, 1) := by decide +kernel
theorem dX11_reached_45 : decode cX11_reached 45 = .ok (.getfield 76, 3) := by decide +kernel
theorem dX11_reached_48 : decode cX11_reached 48 = .ok (.arraylength, 1) := by decide +kernel
theorem dX11_reached_49 : decode cX11_reached 49 = .ok (.if_icmp .lt 5, 3) := by decide +kernel
theorem dX11_reached_52 : decode cX11_reached 52 = .ok (.iconst (-1), 1) := by decide +kernel
theorem dX11_reached_53 : decode cX11_reached 53 = .ok (.ireturn, 1) := by decide +kernel
theorem dX11_reached_54 : decode cX11_reached 54 = .ok (.iload_n 3, 1) := by decide +kernel
theorem dX11_reached_55 : decode cX11_reached 55 = .ok (.ifCond .ne 15, 3) := by decide +kernel
theorem dX11_reached_58 : decode cX11_reached 58 = .ok (.aload_n 0, 1) := by decide +kernel
theorem dX11_reached_59 : decode cX11_reached 59 = .ok (.getfield 76, 3) := by decide +kernel
theorem dX11_reached_62 : decode cX11_reached 62 = .ok (.iload_n 2, 1) := by decide +kernel
theorem dX11_reached_63 : decode cX11_reached 63 = .ok (.iaload, 1) := by decide +kernel
theorem dX11_reached_64 : decode cX11_reached 64 = .ok (.bipush 12, 2) := by decide +kernel
theorem dX11_reached_66 : decode cX11_reached 66 = .ok (.idiv, 1) := by decide +kernel
theorem dX11_reached_67 : decode cX11_reached 67 = .ok (.goto 12, 3) := by decide +kernel
theorem dX11_reached_70 : decode cX11_reached 70 = .ok (.aload_n 0, 1) := by decide +kernel
theorem dX11_reached_71 : decode cX11_reached 71 = .ok (.getfield 76, 3) := by decide +kernel
theorem dX11_reached_74 : decode cX11_reached 74 = .ok (.iload_n 2, 1) := by decide +kernel
theorem dX11_reached_75 : decode cX11_reached 75 = .ok (.iaload, 1) := by decide +kernel
theorem dX11_reached_76 : decode cX11_reached 76 = .ok (.bipush 12, 2) := by decide +kernel
theorem dX11_reached_78 : decode cX11_reached 78 = .ok (.irem, 1) := by decide +kernel
theorem dX11_reached_79 : decode cX11_reached 79 = .ok (.ireturn, 1) := by decide +kernel
def f_X11_reached_52 (Z : Nat → Nat) : Mo (Int32 ⊕ String) := mp (.inl (-1 : Int32))
set_option maxRecDepth 100000 in
set_option maxHeartbeats 4000000 in
theorem s_X11_reached_52 {X : Cg} (cx : Cx X cX11_reached RX11 5) (hfr : 10 ≤ (xR X).frames) (hlo : 246 ≤ (xR X).locals) (hr : (xM X).sig.returnType = (some .int)) (hth : (xL X).stackTraces = false ∧ (∀ x ∈ (xC X).exceptionTable.toList, False)) : Sim X 5 (FiX X vI) 52 [] [] (f_X11_reached_52 (xZ X)) := by
  unfold f_X11_reached_52
  refine sm_iconst (v := -1) cx dX11_reached_52 (by decide) ?_
  exact sx_iret cx hr dX11_reached_53
def f_X11_reached_79 (Z : Nat → Nat) (sx0 : Int32) : Mo (Int32 ⊕ String) := mp (.inl sx0)
set_option maxRecDepth 100000 in
set_option maxHeartbeats 4000000 in
theorem s_X11_reached_79 {X : Cg} (cx : Cx X cX11_reached RX11 5) (hfr : 10 ≤ (xR X).frames) (hlo : 246 ≤ (xR X).locals) (hr : (xM X).sig.returnType = (some .int)) (hth : (xL X).stackTraces = false ∧ (∀ x ∈ (xC X).exceptionTable.toList, False)) (sx0 : Int32) : Sim X 5 (FiX X vI) 79 [] [.int sx0] (f_X11_reached_79 (xZ X) sx0) := by
  unfold f_X11_reached_79
  exact sx_iret cx hr dX11_reached_79
def f_X11_reached (Z : Nat → Nat) (r0 : Option Nat) (x1 : Int32) (x2 : Int32) (x3 : Int32) : Mo (Int32 ⊕ String) := mb (gR 14 4 r0) (fun v2 => mb (mo 2 v2 (f_Jx4a65c_size_8abf5 v2)) (fun v5 => mx (f_X11_needNumber x1 v5) (fun _ => mx (f_X11_needChoice x3 (2 : Int32)) (fun _ => mb (gR 14 4 r0) (fun v18 => mb (mo 2 v18 (f_Jx4a65c_get_915e3 v18 x1)) (fun v22 => mb (ck 7 v22) (fun _ => mb (mo 14 r0 (f_X11_listReach Z r0 v22)) (fun v28 => (if x2 < 0 then f_X11_reached_52 Z else (if v28 ≤ x2 then f_X11_reached_52 Z else mb (gR 14 13 r0) (fun v45 => mb (aN 1 v45) (fun v48 => (if x2 < v48 then (if x3 = 0 then mb (gR 14 13 r0) (fun v59 => mb (aI 1 v59 x2) (fun v63 => f_X11_reached_79 Z (v63 / (12 : Int32)))) else mb (gR 14 13 r0) (fun v71 => mb (aI 1 v71 x2) (fun v75 => f_X11_reached_79 Z (v75 - v75 / (12 : Int32) * (12 : Int32))))) else f_X11_reached_52 Z)))))))))))))
set_option maxRecDepth 100000 in
set_option maxHeartbeats 4000000 in
theorem s_X11_reached {X : Cg} (cx : Cx X cX11_reached RX11 5) (hfr : 10 ≤ (xR X).frames) (hlo : 246 ≤ (xR X).locals) (hr : (xM X).sig.returnType = (some .int)) (hth : (xL X).stackTraces = false ∧ (∀ x ∈ (xC X).exceptionTable.toList, False)) (r0 : Option Nat) (x1 : Int32) (x2 : Int32) (x3 : Int32) : Sim X 5 (FiX X vI) 0 [(0, va_rf r0), (1, .int x1), (2, .int x2), (3, .int x3)] [] (f_X11_reached (xZ X) r0 x1 x2 x3) := by
  unfold f_X11_reached
  refine sm_iload_n cx 1 dX11_reached_0 rfl rfl ?_
  refine sm_aload_n cx 0 dX11_reached_1 rfl rfl ?_
  refine sm_getR cx fl_X11_29 dX11_reached_2 (fun v2 => ?_)
  refine sm_callV (T := TJx4a65c) (N := 3) (toV := vI) cx [] rfl cv_X11_88 (fun a h => ct_Jx4a65c_size_8abf5 (xZ X) a h) (Nat.le_trans (by decide) hfr) (Nat.le_trans (by decide) hlo) rfl (cat_le _ (Nat.le_of_ble_eq_true rfl)) dX11_reached_5 (fun v5 => ?_)
  refine sm_callSX (toV := vV) cx hth [.int x1, .int v5] cs_X11_92 (ct_X11_needNumber (xZ X) x1 v5) (Nat.le_trans (by decide) hfr) (Nat.le_trans (by decide) hlo) rfl (cat_le _ (Nat.le_of_ble_eq_true rfl)) dX11_reached_8 (fun _ => ?_)
  refine sm_iload_n cx 3 dX11_reached_11 rfl rfl ?_
  refine sm_iconst (v := 2) cx dX11_reached_12 (by decide) ?_
  refine sm_callSX (toV := vV) cx hth [.int x3, .int (2 : Int32)] cs_X11_127 (ct_X11_needChoice (xZ X) x3 (2 : Int32)) (Nat.le_trans (by decide) hfr) (Nat.le_trans (by decide) hlo) rfl (cat_le _ (Nat.le_of_ble_eq_true rfl)) dX11_reached_13 (fun _ => ?_)
  refine sm_aload_n cx 0 dX11_reached_16 rfl rfl ?_
  refine sm_aload_n cx 0 dX11_reached_17 rfl rfl ?_
  refine sm_getR cx fl_X11_29 dX11_reached_18 (fun v18 => ?_)
  refine sm_iload_n cx 1 dX11_reached_21 rfl rfl ?_
  refine sm_callV (T := TJx4a65c) (N := 3) (toV := vR) cx [.int x1] rfl cv_X11_99 (fun a h => ct_Jx4a65c_get_915e3 (xZ X) a h x1) (Nat.le_trans (by decide) hfr) (Nat.le_trans (by decide) hlo) rfl (cat_le _ (Nat.le_of_ble_eq_true rfl)) dX11_reached_22 (fun v22 => ?_)
  refine sm_ck (T := TX4) (N := 7) cx rfl wd_2_142 dX11_reached_25 ?_
  refine sm_callV (T := TX11) (N := 14) (toV := vI) cx [va_rf v22] rfl cv_X11_238 (fun a h => ct_X11_listReach (xZ X) a h v22) (Nat.le_trans (by decide) hfr) (Nat.le_trans (by decide) hlo) rfl (cat_le _ (Nat.le_of_ble_eq_true rfl)) dX11_reached_28 (fun v28 => ?_)
  refine sm_istore cx [(4, .int v28), (0, va_rf r0), (1, .int x1), (2, .int x2), (3, .int x3)] dX11_reached_31 (by decide) rfl (nc1 rfl) rfl ?_
  refine sm_iload_n cx 3 dX11_reached_33 rfl rfl ?_
  refine sm_if_lt (tgt := 52) cx dX11_reached_34 (by decide) ?_ ?_
  · exact sm_lv [] rfl (s_X11_reached_52 cx hfr hlo hr hth)
  · refine sm_iload_n cx 3 dX11_reached_37 rfl rfl ?_
    refine sm_iload cx 0 dX11_reached_38 rfl ?_
    refine sm_icmp_ge (tgt := 52) cx dX11_reached_40 (by decide) ?_ ?_
    · exact sm_lv [] rfl (s_X11_reached_52 cx hfr hlo hr hth)
    · refine sm_iload_n cx 3 dX11_reached_43 rfl rfl ?_
      refine sm_aload_n cx 1 dX11_reached_44 rfl rfl ?_
      refine sm_getR cx fl_X11_76 dX11_reached_45 (fun v45 => ?_)
      refine sm_alen cx 1 (by decide) dX11_reached_48 (fun v48 => ?_)
      refine sm_icmp_lt (tgt := 54) cx dX11_reached_49 (by decide) ?_ ?_
      · refine sm_iload_n cx 4 dX11_reached_54 rfl rfl ?_
        refine sm_if_ne (tgt := 70) cx dX11_reached_55 (by decide) ?_ ?_
        · refine sm_aload_n cx 1 dX11_reached_70 rfl rfl ?_
          refine sm_getR cx fl_X11_76 dX11_reached_71 (fun v71 => ?_)
          refine sm_iload_n cx 3 dX11_reached_74 rfl rfl ?_
          refine sm_iald cx dX11_reached_75 (fun v75 => ?_)
          refine sm_bipush (v := 12) cx dX11_reached_76 (by decide) ?_
          refine sm_irem cx dX11_reached_78 (by decide) ?_
          exact sm_lv [] rfl (s_X11_reached_79 cx hfr hlo hr hth (v75 - v75 / (12 : Int32) * (12 : Int32)))
        · refine sm_aload_n cx 1 dX11_reached_58 rfl rfl ?_
          refine sm_getR cx fl_X11_76 dX11_reached_59 (fun v59 => ?_)
          refine sm_iload_n cx 3 dX11_reached_62 rfl rfl ?_
          refine sm_iald cx dX11_reached_63 (fun v63 => ?_)
          refine sm_bipush (v := 12) cx dX11_reached_64 (by decide) ?_
          refine sm_idiv cx dX11_reached_66 (by decide) ?_
          refine sm_goto (tgt := 79) cx dX11_reached_67 (by decide) ?_
          exact sm_lv [] rfl (s_X11_reached_79 cx hfr hlo hr hth (v63 / (12 : Int32)))
      · exact sm_lv [] rfl (s_X11_reached_52 cx hfr hlo hr hth)
set_option maxRecDepth 100000 in
set_option maxHeartbeats 4000000 in
theorem ct_X11_reached (Z : Nat → Nat) {r0 : Option Nat} (a0 : Nat) (h0 : r0 = some a0) (x1 : Int32) (x2 : Int32) (x3 : Int32) : CtX yX11_reached cX11_reached 5 (some .int) 10 246 Z [.ref a0, .int x1, .int x2, .int x3] vI (f_X11_reached Z r0 x1 x2 x3) := by
  subst h0
  refine ctx_of (lv0 := [(0, va_rf (some a0)), (1, .int x1), (2, .int x2), (3, .int x3)]) (by decide +kernel) (by simp [lg_sl, ct_i, ct_l, ct_r, rf_cat]) (by show _ = ([(0, Value.ref a0), (1, .int x1), (2, .int x2), (3, .int x3)] : List (Nat × Value)); simp [lv_args, ct_i, ct_l, ct_r, rf_cat]) (fun X cx hZ hfr hlo hr hth => ?_)
  subst hZ
  exact s_X11_reached cx (Nat.le_of_eq hfr.symm) (Nat.le_of_eq hlo.symm) hr hth (some a0) x1 x2 x3
/-! PolicyTree.quarrel(II)I -/
theorem dX11_quarrel_0 : decode cX11_quarrel 0 = .ok (.iload_n 2, 1) := by decide +kernel
theorem dX11_quarrel_1 : decode cX11_quarrel 1 = .ok (.iconst 2, 1) := by decide +kernel
theorem dX11_quarrel_2 : decode cX11_quarrel 2 = .ok (.invokestatic 127, 3) := by decide +kernel
theorem dX11_quarrel_5 : decode cX11_quarrel 5 = .ok (.iload_n 1, 1) := by decide +kernel
theorem dX11_quarrel_6 : decode cX11_quarrel 6 = .ok (.ifCond .ge 5, 3) := by decide +kernel
theorem dX11_quarrel_9 : decode cX11_quarrel 9 = .ok (.iconst (-1), 1) := by decide +kernel
theorem dX11_quarrel_10 : decode cX11_quarrel 10 = .ok (.ireturn, 1) := by decide +kernel
theorem dX11_quarrel_11 : decode cX11_quarrel 11 = .ok (.aload_n 0, 1) := by decide +kernel
theorem dX11_quarrel_12 : decode cX11_quarrel 12 = .ok (.invokevirtual 242, 3) := by decide +kernel
theorem dX11_quarrel_15 : decode cX11_quarrel 15 = .ok (.istore_n 3, 1) := by decide +kernel
theorem dX11_quarrel_16 : decode cX11_quarrel 16 = .ok (.iload_n 1, 1) := by decide +kernel
theorem dX11_quarrel_17 : decode cX11_quarrel 17 = .ok (.istore 4, 2) := by decide +kernel
theorem dX11_quarrel_19 : decode cX11_quarrel 19 = .ok (.iconst 0, 1) := by decide +kernel
theorem dX11_quarrel_20 : decode cX11_quarrel 20 = .ok (.istore 5, 2) := by decide +kernel
theorem dX11_quarrel_22 : decode cX11_quarrel 22 = .ok (.iload 5, 2) := by decide +kernel
theorem dX11_quarrel_24 : decode cX11_quarrel 24 = .ok (.aload_n 0, 1) := by decide +kernel
theorem dX11_quarrel_25 : decode cX11_quarrel 25 = .ok (.getfield 29, 3) := by decide +kernel
theorem dX11_quarrel_28 : decode cX11_quarrel 28 = .ok (.invokevirtual 88, 3) := by decide +kernel
theorem dX11_quarrel_31 : decode cX11_quarrel 31 = .ok (.if_icmp .ge 51, 3) := by decide +kernel
theorem dX11_quarrel_34 : decode cX11_quarrel 34 = .ok (.aload_n 0, 1) := by decide +kernel
theorem dX11_quarrel_35 : decode cX11_quarrel 35 = .ok (.iload 5, 2) := by decide +kernel
theorem dX11_quarrel_37 : decode cX11_quarrel 37 = .ok (.iload_n 3, 1) := by decide +kernel
theorem dX11_quarrel_38 : decode cX11_quarrel 38 = .ok (.invokevirtual 245, 3) := by decide +kernel
theorem dX11_quarrel_41 : decode cX11_quarrel 41 = .ok (.istore 6, 2) := by decide +kernel
theorem dX11_quarrel_43 : decode cX11_quarrel 43 = .ok (.iload 4, 2) := by decide +kernel
theorem dX11_quarrel_45 : decode cX11_quarrel 45 = .ok (.iload 6, 2) := by decide +kernel
theorem dX11_quarrel_47 : decode cX11_quarrel 47 = .ok (.if_icmp .ge 22, 3) := by decide +kernel
theorem dX11_quarrel_50 : decode cX11_quarrel 50 = .ok (.iload_n 2, 1) := by decide +kernel
theorem dX11_quarrel_51 : decode cX11_quarrel 51 = .ok (.ifCond .ne 8, 3) := by decide +kernel
theorem dX11_quarrel_54 : decode cX11_quarrel 54 = .ok (.iload 5, 2) := by decide +kernel
theorem dX11_quarrel_56 : decode cX11_quarrel 56 = .ok (.goto 12, 3) := by decide +kernel
theorem dX11_quarrel_59 : decode cX11_quarrel 59 = .ok (.aload_n 0, 1) := by decide +kernel
theorem dX11_quarrel_60 : decode cX11_quarrel 60 = .ok (.iload 5, 2) := by decide +kernel
theorem dX11_quarrel_62 : decode cX11_quarrel 62 = .ok (.iload_n 3, 1) := by decide +kernel
theorem dX11_quarrel_63 : decode cX11_quarrel 63 = .ok (.iload 4, 2) := by decide +kernel
theorem dX11_quarrel_65 : decode cX11_quarrel 65 = .ok (.invokevirtual 249, 3) := by decide +kernel
theorem dX11_quarrel_68 : decode cX11_quarrel 68 = .ok (.ireturn, 1) := by decide +kernel
theorem dX11_quarrel_69 : decode cX11_quarrel 69 = .ok (.iload 4, 2) := by decide +kernel
theorem dX11_quarrel_71 : decode cX11_quarrel 71 = .ok (.iload 6, 2) := by decide +kernel
theorem dX11_quarrel_73 : decode cX11_quarrel 73 = .ok (.isub, 1) := by decide +kernel
theorem dX11_quarrel_74 : decode cX11_quarrel 74 = .ok (.istore 4, 2) := by decide +kernel
theorem dX11_quarrel_76 : decode cX11_quarrel 76 = .ok (.iinc 5 1, 3) := by decide +kernel
theorem dX11_quarrel_79 : decode cX11_quarrel 79 = .ok (.goto (-57), 3) := by decide +kernel
theorem dX11_quarrel_82 : decode cX11_quarrel 82 = .ok (.iconst (-1), 1) := by decide +kernel
theorem dX11_quarrel_83 : decode cX11_quarrel 83 = .ok (.ireturn, 1) := by decide +kernel
def f_X11_quarrel_68 (sx0 : Int32) : Mo (Int32 ⊕ String) := mp (.inl sx0)
set_option maxRecDepth 100000 in
set_option maxHeartbeats 4000000 in
theorem s_X11_quarrel_68 {X : Cg} (cx : Cx X cX11_quarrel RX11 7) (hfr : 7 ≤ (xR X).frames) (hlo : 111 ≤ (xR X).locals) (hr : (xM X).sig.returnType = (some .int)) (hth : (xL X).stackTraces = false ∧ (∀ x ∈ (xC X).exceptionTable.toList, False)) (sx0 : Int32) : Sim X 7 (FiX X vI) 68 [] [.int sx0] (f_X11_quarrel_68 sx0) := by
  unfold f_X11_quarrel_68
  exact sx_iret cx hr dX11_quarrel_68
def f_X11_quarrel_22 (r0 : Option Nat) (x2 : Int32) (x3 : Int32) : Nat → Int32 → Int32 → Mo (Int32 ⊕ String)
  | 0, _, _ => mf
  | n + 1, x4, x5 => mb (gR 14 4 r0) (fun v25 => mb (mo 2 v25 (f_Jx4a65c_size_8abf5 v25)) (fun v28 => (if v28 ≤ x5 then mp (.inl (-1 : Int32)) else mb (mo 14 r0 (f_X11_countQuarrels r0 x5 x3)) (fun v38 => (if v38 ≤ x4 then (f_X11_quarrel_22 r0 x2 x3 n) (x4 - v38) (x5 + 1) else (if x2 = 0 then f_X11_quarrel_68 x5 else mb (mo 14 r0 (f_X11_findQuarreller r0 x5 x3 x4)) (fun v65 => f_X11_quarrel_68 v65)))))))
set_option maxRecDepth 100000 in
set_option maxHeartbeats 4000000 in
theorem s_X11_quarrel_22 {X : Cg} (cx : Cx X cX11_quarrel RX11 7) (hfr : 7 ≤ (xR X).frames) (hlo : 111 ≤ (xR X).locals) (hr : (xM X).sig.returnType = (some .int)) (hth : (xL X).stackTraces = false ∧ (∀ x ∈ (xC X).exceptionTable.toList, False)) (r0 : Option Nat) (x2 : Int32) (x3 : Int32) : ∀ (n : Nat) (x4 : Int32) (x5 : Int32), Sim X 7 (FiX X vI) 22 [(0, va_rf r0), (2, .int x2), (3, .int x3), (4, .int x4), (5, .int x5)] [] (f_X11_quarrel_22 r0 x2 x3 n x4 x5) := by
  intro n
  induction n with
  | zero =>
    intro _ _
    exact sm_mf
  | succ n ih =>
    intro x4 x5
    rw [f_X11_quarrel_22]
    refine sm_iload cx 4 dX11_quarrel_22 rfl ?_
    refine sm_aload_n cx 0 dX11_quarrel_24 rfl rfl ?_
    refine sm_getR cx fl_X11_29 dX11_quarrel_25 (fun v25 => ?_)
    refine sm_callV (T := TJx4a65c) (N := 3) (toV := vI) cx [] rfl cv_X11_88 (fun a h => ct_Jx4a65c_size_8abf5 (xZ X) a h) (Nat.le_trans (by decide) hfr) (Nat.le_trans (by decide) hlo) rfl (cat_le _ (Nat.le_of_ble_eq_true rfl)) dX11_quarrel_28 (fun v28 => ?_)
    refine sm_icmp_ge (tgt := 82) cx dX11_quarrel_31 (by decide) ?_ ?_
    · refine sm_iconst (v := -1) cx dX11_quarrel_82 (by decide) ?_
      exact sx_iret cx hr dX11_quarrel_83
    · refine sm_aload_n cx 0 dX11_quarrel_34 rfl rfl ?_
      refine sm_iload cx 4 dX11_quarrel_35 rfl ?_
      refine sm_iload_n cx 2 dX11_quarrel_37 rfl rfl ?_
      refine sm_callV (T := TX11) (N := 14) (toV := vI) cx [.int x5, .int x3] rfl cv_X11_245 (fun a h => ct_X11_countQuarrels (xZ X) a h x5 x3) (Nat.le_trans (by decide) hfr) (Nat.le_trans (by decide) hlo) rfl (cat_le _ (Nat.le_of_ble_eq_true rfl)) dX11_quarrel_38 (fun v38 => ?_)
      refine sm_istore cx [(6, .int v38), (0, va_rf r0), (2, .int x2), (3, .int x3), (4, .int x4), (5, .int x5)] dX11_quarrel_41 (by decide) rfl (nc1 rfl) rfl ?_
      refine sm_iload cx 4 dX11_quarrel_43 rfl ?_
      refine sm_iload cx 0 dX11_quarrel_45 rfl ?_
      refine sm_icmp_ge (tgt := 69) cx dX11_quarrel_47 (by decide) ?_ ?_
      · refine sm_iload cx 4 dX11_quarrel_69 rfl ?_
        refine sm_iload cx 0 dX11_quarrel_71 rfl ?_
        refine sm_isub cx dX11_quarrel_73 ?_
        refine sm_istore cx [(4, .int (x4 - v38)), (6, .int v38), (0, va_rf r0), (2, .int x2), (3, .int x3), (5, .int x5)] dX11_quarrel_74 (by decide) rfl (nc1 rfl) rfl ?_
        refine sm_iinc cx 5 [(5, .int (x5 + 1)), (4, .int (x4 - v38)), (6, .int v38), (0, va_rf r0), (2, .int x2), (3, .int x3)] dX11_quarrel_76 rfl rfl (by decide) rfl (nc1 rfl) rfl ?_
        refine sm_goto (tgt := 22) cx dX11_quarrel_79 (by decide) ?_
        exact sm_lv [3, 4, 5, 1, 0] rfl (ih (x4 - v38) (x5 + 1))
      · refine sm_iload_n cx 2 dX11_quarrel_50 rfl rfl ?_
        refine sm_if_ne (tgt := 59) cx dX11_quarrel_51 (by decide) ?_ ?_
        · refine sm_aload_n cx 1 dX11_quarrel_59 rfl rfl ?_
          refine sm_iload cx 5 dX11_quarrel_60 rfl ?_
          refine sm_iload_n cx 3 dX11_quarrel_62 rfl rfl ?_
          refine sm_iload cx 4 dX11_quarrel_63 rfl ?_
          refine sm_callV (T := TX11) (N := 14) (toV := vI) cx [.int x5, .int x3, .int x4] rfl cv_X11_249 (fun a h => ct_X11_findQuarreller (xZ X) a h x5 x3 x4) (Nat.le_trans (by decide) hfr) (Nat.le_trans (by decide) hlo) rfl (cat_le _ (Nat.le_of_ble_eq_true rfl)) dX11_quarrel_65 (fun v65 => ?_)
          exact sm_lv [] rfl (s_X11_quarrel_68 cx hfr hlo hr hth v65)
        · refine sm_iload cx 5 dX11_quarrel_54 rfl ?_
          refine sm_goto (tgt := 68) cx dX11_quarrel_56 (by decide) ?_
          exact sm_lv [] rfl (s_X11_quarrel_68 cx hfr hlo hr hth x5)
def f_X11_quarrel (r0 : Option Nat) (x1 : Int32) (x2 : Int32) : Mo (Int32 ⊕ String) := mx (f_X11_needChoice x2 (2 : Int32)) (fun _ => (if 0 ≤ x1 then mb (mo 14 r0 (f_X11_settingsOfLast r0)) (fun v12 => f_X11_quarrel_22 r0 x2 v12 fuL x1 (0 : Int32)) else mp (.inl (-1 : Int32))))
set_option maxRecDepth 100000 in
set_option maxHeartbeats 4000000 in
theorem s_X11_quarrel {X : Cg} (cx : Cx X cX11_quarrel RX11 7) (hfr : 7 ≤ (xR X).frames) (hlo : 111 ≤ (xR X).locals) (hr : (xM X).sig.returnType = (some .int)) (hth : (xL X).stackTraces = false ∧ (∀ x ∈ (xC X).exceptionTable.toList, False)) (r0 : Option Nat) (x1 : Int32) (x2 : Int32) : Sim X 7 (FiX X vI) 0 [(0, va_rf r0), (1, .int x1), (2, .int x2)] [] (f_X11_quarrel r0 x1 x2) := by
  unfold f_X11_quarrel
  refine sm_iload_n cx 2 dX11_quarrel_0 rfl rfl ?_
  refine sm_iconst (v := 2) cx dX11_quarrel_1 (by decide) ?_
  refine sm_callSX (toV := vV) cx hth [.int x2, .int (2 : Int32)] cs_X11_127 (ct_X11_needChoice (xZ X) x2 (2 : Int32)) (Nat.le_trans (by decide) hfr) (Nat.le_trans (by decide) hlo) rfl (cat_le _ (Nat.le_of_ble_eq_true rfl)) dX11_quarrel_2 (fun _ => ?_)
  refine sm_iload_n cx 1 dX11_quarrel_5 rfl rfl ?_
  refine sm_if_ge (tgt := 11) cx dX11_quarrel_6 (by decide) ?_ ?_
  · refine sm_aload_n cx 0 dX11_quarrel_11 rfl rfl ?_
    refine sm_callV (T := TX11) (N := 14) (toV := vI) cx [] rfl cv_X11_242 (fun a h => ct_X11_settingsOfLast (xZ X) a h) (Nat.le_trans (by decide) hfr) (Nat.le_trans (by decide) hlo) rfl (cat_le _ (Nat.le_of_ble_eq_true rfl)) dX11_quarrel_12 (fun v12 => ?_)
    refine sm_istore_n cx [(3, .int v12), (0, va_rf r0), (1, .int x1), (2, .int x2)] dX11_quarrel_15 rfl (by decide) rfl (nc1 rfl) rfl ?_
    refine sm_iload_n cx 2 dX11_quarrel_16 rfl rfl ?_
    refine sm_istore cx [(4, .int x1), (3, .int v12), (0, va_rf r0), (1, .int x1), (2, .int x2)] dX11_quarrel_17 (by decide) rfl (nc1 rfl) rfl ?_
    refine sm_iconst (v := 0) cx dX11_quarrel_19 (by decide) ?_
    refine sm_istore cx [(5, .int (0 : Int32)), (4, .int x1), (3, .int v12), (0, va_rf r0), (1, .int x1), (2, .int x2)] dX11_quarrel_20 (by decide) rfl (nc1 rfl) rfl ?_
    exact sm_lv [3, 5, 2, 1, 0] rfl (s_X11_quarrel_22 cx hfr hlo hr hth r0 x2 v12 fuL x1 (0 : Int32))
  · refine sm_iconst (v := -1) cx dX11_quarrel_9 (by decide) ?_
    exact sx_iret cx hr dX11_quarrel_10
set_option maxRecDepth 100000 in
set_option maxHeartbeats 4000000 in
theorem ct_X11_quarrel (Z : Nat → Nat) {r0 : Option Nat} (a0 : Nat) (h0 : r0 = some a0) (x1 : Int32) (x2 : Int32) : CtX yX11_quarrel cX11_quarrel 7 (some .int) 7 111 Z [.ref a0, .int x1, .int x2] vI (f_X11_quarrel r0 x1 x2) := by
  subst h0
  refine ctx_of (lv0 := [(0, va_rf (some a0)), (1, .int x1), (2, .int x2)]) (by decide +kernel) (by simp [lg_sl, ct_i, ct_l, ct_r, rf_cat]) (by show _ = ([(0, Value.ref a0), (1, .int x1), (2, .int x2)] : List (Nat × Value)); simp [lv_args, ct_i, ct_l, ct_r, rf_cat]) (fun X cx hZ hfr hlo hr hth => ?_)
  subst hZ
  exact s_X11_quarrel cx (Nat.le_of_eq hfr.symm) (Nat.le_of_eq hlo.symm) hr hth (some a0) x1 x2
