theorem inT_X8 : ∀ w ∈ u_ws RX8 TX8 4, w ∈ TB := by
  intro w h
  obtain ⟨k, hk, rfl⟩ := List.mem_map.mp h
  have hk := List.mem_range.mp hk
  match k, hk with
  | 0, _ => exact wd_1_173
  | 1, _ => exact wd_1_175
  | 2, _ => exact wd_1_177
  | 3, _ => exact wd_1_179
  | k + 4, hk => exact absurd hk (by omega)
theorem inT_X7 : ∀ w ∈ u_ws RX7 TX7 3, w ∈ TB := by
  intro w h
  obtain ⟨k, hk, rfl⟩ := List.mem_map.mp h
  have hk := List.mem_range.mp hk
  match k, hk with
  | 0, _ => exact wd_1_191
  | 1, _ => exact wd_1_193
  | 2, _ => exact wd_1_195
  | k + 3, hk => exact absurd hk (by omega)
theorem fl_X8_12 : FldOk RX8 12 11 0 (.object "java/util/ArrayList") true true := ⟨RX8, TX8, 4, "PolicyTree$Row", tyX8, rfl, by decide, inT_X8, tyX8_ok, nmX8, wd_1_169, Or.inl rfl, tyX8_ok 0 (by decide), rfl, fun _ => rfl⟩
theorem fl_X8_18 : FldOk RX8 18 11 1 (.object "java/util/ArrayList") true true := ⟨RX8, TX8, 4, "PolicyTree$Row", tyX8, rfl, by decide, inT_X8, tyX8_ok, nmX8, wd_1_170, Or.inl rfl, tyX8_ok 1 (by decide), rfl, fun _ => rfl⟩
theorem fl_X8_21 : FldOk RX8 21 11 2 (.array .long) true true := ⟨RX8, TX8, 4, "PolicyTree$Row", tyX8, rfl, by decide, inT_X8, tyX8_ok, nmX8, wd_1_171, Or.inl rfl, tyX8_ok 2 (by decide), rfl, fun _ => rfl⟩
theorem fl_X8_28 : FldOk RX8 28 11 3 (.object "PolicyTree$Standing") true true := ⟨RX8, TX8, 4, "PolicyTree$Row", tyX8, rfl, by decide, inT_X8, tyX8_ok, nmX8, wd_1_172, Or.inl rfl, tyX8_ok 3 (by decide), rfl, fun _ => rfl⟩
theorem fl_X8_95 : FldOk RX8 95 9 2 .boolean false false := ⟨RX6, TX6, 4, "PolicyTree$Node", tyX6, rfl, by decide, inT_X6, tyX6_ok, nmX6, wd_1_212, Or.inl rfl, tyX6_ok 2 (by decide), rfl, fun h => nomatch h⟩
theorem fl_X8_104 : FldOk RX8 104 7 4 .boolean true false := ⟨RX4, TX4, 7, "PolicyTree$Link", tyX4, rfl, by decide, inT_X4, tyX4_ok, nmX4, wd_4_235, Or.inl rfl, tyX4_ok 4 (by decide), rfl, fun h => nomatch h⟩
theorem fl_X8_107 : FldOk RX8 107 7 2 (.object "PolicyTree$Bundle") true false := ⟨RX4, TX4, 7, "PolicyTree$Link", tyX4, rfl, by decide, inT_X4, tyX4_ok, nmX4, wd_4_230, Or.inl rfl, tyX4_ok 2 (by decide), rfl, fun h => nomatch h⟩
theorem fl_X8_45 : FldOk RX8 45 9 0 .int true false := ⟨RX6, TX6, 4, "PolicyTree$Node", tyX6, rfl, by decide, inT_X6, tyX6_ok, nmX6, wd_1_207, Or.inl rfl, tyX6_ok 0 (by decide), rfl, fun h => nomatch h⟩
theorem fl_X8_51 : FldOk RX8 51 9 1 (.object "PolicyTree$Node") false false := ⟨RX6, TX6, 4, "PolicyTree$Node", tyX6, rfl, by decide, inT_X6, tyX6_ok, nmX6, wd_1_209, Or.inl rfl, tyX6_ok 1 (by decide), rfl, fun h => nomatch h⟩
theorem fl_X8_35 : FldOk RX8 35 8 0 (.object "PolicyTree$Node") true false := ⟨RX5, TX5, 3, "PolicyTree$Machine", tyX5, rfl, by decide, inT_X5, tyX5_ok, nmX5, wd_3_177, Or.inl rfl, tyX5_ok 0 (by decide), rfl, fun h => nomatch h⟩
theorem fl_X8_79 : FldOk RX8 79 7 5 (.object "PolicyTree$Filter") true false := ⟨RX4, TX4, 7, "PolicyTree$Link", tyX4, rfl, by decide, inT_X4, tyX4_ok, nmX4, wd_4_237, Or.inl rfl, tyX4_ok 5 (by decide), rfl, fun h => nomatch h⟩
theorem fl_X7_9 : FldOk RX7 9 10 0 (.array .int) true true := ⟨RX7, TX7, 3, "PolicyTree$Outcome", tyX7, rfl, by decide, inT_X7, tyX7_ok, nmX7, wd_1_188, Or.inl rfl, tyX7_ok 0 (by decide), rfl, fun _ => rfl⟩
theorem fl_X7_15 : FldOk RX7 15 10 1 .int false true := ⟨RX7, TX7, 3, "PolicyTree$Outcome", tyX7, rfl, by decide, inT_X7, tyX7_ok, nmX7, wd_1_189, Or.inl rfl, tyX7_ok 1 (by decide), rfl, fun _ => rfl⟩
theorem fl_X7_19 : FldOk RX7 19 10 2 (.object "PolicyTree$Link") false true := ⟨RX7, TX7, 3, "PolicyTree$Outcome", tyX7, rfl, by decide, inT_X7, tyX7_ok, nmX7, wd_1_190, Or.inl rfl, tyX7_ok 2 (by decide), rfl, fun _ => rfl⟩
theorem fl_X7_36 : FldOk RX7 36 7 2 (.object "PolicyTree$Bundle") true false := ⟨RX4, TX4, 7, "PolicyTree$Link", tyX4, rfl, by decide, inT_X4, tyX4_ok, nmX4, wd_4_229, Or.inl rfl, tyX4_ok 2 (by decide), rfl, fun h => nomatch h⟩
theorem nw_X8_9 : NewOk RX8 9 2 [.int 0, .null, .int 0] := ⟨RJx4a65c, TJx4a65c, tyJx4a65c, rfl, inT_Jx4a65c, tyJx4a65c_ok, wd_1_141, wd_1_44, wd_1_4, fun j hj => by
  match j, hj with
  | 0, _ => rfl
  | 1, _ => rfl
  | 2, _ => rfl
  | j + 3, hj => exact absurd hj (by simp only [List.length_cons, List.length_nil]; omega)⟩
theorem ci_X8_11 : CalI RX8 11 yJx4a65c_init_da8c8 cJx4a65c_init_da8c8 1 0 := ⟨⟨wd_1_4, wd_1_46, wd_1_47⟩, Or.inl wd_1_142, rfl, by decide +kernel, by decide +kernel, by decide +kernel⟩
theorem nw_X8_25 : NewOk RX8 25 12 [.null, .null, .int 0, .int 0, .int 0, .long 0] := ⟨RX9, TX9, tyX9, rfl, inT_X9, tyX9_ok, wd_1_143, wd_1_144, wd_1_9, fun j hj => by
  match j, hj with
  | 0, _ => rfl
  | 1, _ => rfl
  | 2, _ => rfl
  | 3, _ => rfl
  | 4, _ => rfl
  | 5, _ => rfl
  | j + 6, hj => exact absurd hj (by simp only [List.length_cons, List.length_nil]; omega)⟩
theorem ci_X8_27 : CalI RX8 27 yX9_init cX9_init 1 0 := ⟨⟨wd_1_9, wd_1_146, wd_1_147⟩, Or.inr ⟨"PolicyTree", List.mem_of_getElem? (i := 3) rfl⟩, rfl, by decide +kernel, by decide +kernel, by decide +kernel⟩
theorem cv_X8_66 : CalV RX8 66 RJx4a65c yJx4a65c_size_8abf5 cJx4a65c_size_8abf5 1 (some .int) 0 := ⟨wd_V wd_3_81 wd_2_121 wd_2_122 wd_1_4 wd_2_123, rfl, by decide +kernel, by decide +kernel, by decide +kernel⟩
theorem cv_X8_73 : CalV RX8 73 RJx4a65c yJx4a65c_get_915e3 cJx4a65c_get_915e3 2 (some (.object "java/lang/Object")) 1 := ⟨wd_V wd_3_82 wd_2_129 wd_2_130 wd_1_4 wd_2_131, rfl, by decide +kernel, by decide +kernel, by decide +kernel⟩
theorem cv_X8_99 : CalV RX8 99 RX6 yX6_size cX6_size 1 (some .int) 0 := ⟨wd_V wd_3_88 wd_3_89 wd_3_90 wd_1_11 wd_3_91, rfl, by decide +kernel, by decide +kernel, by decide +kernel⟩
theorem cv_X8_100 : CalV RX8 100 RX6 yX6_linkAt cX6_linkAt 2 (some (.object "PolicyTree$Link")) 1 := ⟨wd_V wd_3_93 wd_3_94 wd_3_95 wd_1_11 wd_3_96, rfl, by decide +kernel, by decide +kernel, by decide +kernel⟩
theorem cv_X8_111 : CalV RX8 111 RX0 yX0_toldSettings cX0_toldSettings 1 (some .int) 0 := ⟨wd_V wd_3_99 wd_3_100 wd_3_101 wd_1_26 wd_3_102, rfl, by decide +kernel, by decide +kernel, by decide +kernel⟩
theorem cv_X8_41 : CalV RX8 41 RJx4a65c yJx4a65c_add_9ea2d cJx4a65c_add_9ea2d 2 (some .boolean) 1 := ⟨wd_V wd_3_64 wd_1_224 wd_1_225 wd_1_4 wd_1_226, rfl, by decide +kernel, by decide +kernel, by decide +kernel⟩
theorem cv_X8_62 : CalV RX8 62 RX8 yX8_addLinks cX8_addLinks 7 none 3 := ⟨wd_V wd_3_84 wd_3_86 wp_1_10 wd_1_8 wd_3_87, rfl, by decide +kernel, by decide +kernel, by decide +kernel⟩
theorem cv_X8_54 : CalV RX8 54 RX9 yX9_enter cX9_enter 5 none 3 := ⟨wd_V wd_3_65 wd_3_66 wd_3_67 wd_1_9 wd_3_68, rfl, by decide +kernel, by decide +kernel, by decide +kernel⟩
theorem cv_X8_58 : CalV RX8 58 RX8 yX8_topOfOpen cX8_topOfOpen 2 (some .int) 0 := ⟨wd_V wd_3_77 wd_3_79 wp_1_9 wd_1_8 wd_3_80, rfl, by decide +kernel, by decide +kernel, by decide +kernel⟩
theorem cv_X8_32 : CalV RX8 32 RJx4a65c yJx4a65c_clear_da8c8 cJx4a65c_clear_da8c8 4 none 0 := ⟨wd_V wd_3_60 wd_3_61 wd_3_62 wd_1_4 wd_3_63, rfl, by decide +kernel, by decide +kernel, by decide +kernel⟩
theorem cv_X8_83 : CalV RX8 83 RX1 yX1_weigh cX1_weigh 8 (some .long) 1 := ⟨wd_V wd_3_118 wd_3_119 wd_3_120 wd_1_31 wd_3_121, rfl, by decide +kernel, by decide +kernel, by decide +kernel⟩
theorem cv_X8_69 : CalV RX8 69 RX9 yX9_guess cX9_guess 3 none 1 := ⟨wd_V wd_3_107 wd_3_108 wd_3_109 wd_1_9 wd_3_110, rfl, by decide +kernel, by decide +kernel, by decide +kernel⟩
theorem cv_X8_92 : CalV RX8 92 RX9 yX9_knownFacts cX9_knownFacts 1 (some .int) 0 := ⟨wd_V wd_6_78 wd_6_79 wd_6_80 wd_1_9 wd_6_81, rfl, by decide +kernel, by decide +kernel, by decide +kernel⟩
theorem cv_X8_89 : CalV RX8 89 RX1 yX1_mentionedFacts cX1_mentionedFacts 3 (some .int) 0 := ⟨wd_V wd_6_74 wd_6_75 wd_6_76 wd_1_31 wd_6_77, rfl, by decide +kernel, by decide +kernel, by decide +kernel⟩
theorem cv_X7_56 : CalV RX7 56 RX7 yX7_valueAt cX7_valueAt 2 (some .int) 1 := ⟨wd_V wd_3_156 wd_3_157 wd_3_158 wd_1_10 wd_3_159, rfl, by decide +kernel, by decide +kernel, by decide +kernel⟩
theorem cv_X7_59 : CalV RX7 59 RX7 yX7_has cX7_has 3 (some .boolean) 1 := ⟨wd_V wd_3_152 wd_3_154 wp_1_12 wd_1_10 wd_3_155, rfl, by decide +kernel, by decide +kernel, by decide +kernel⟩
theorem cv_X7_23 : CalV RX7 23 RX8 yX8_size cX8_size 1 (some .int) 0 := ⟨wd_V wd_3_131 wd_3_132 wd_3_133 wd_1_8 wd_3_134, rfl, by decide +kernel, by decide +kernel, by decide +kernel⟩
theorem cv_X7_28 : CalV RX7 28 RX8 yX8_linkAt cX8_linkAt 2 (some (.object "PolicyTree$Link")) 1 := ⟨wd_V wd_3_135 wd_3_136 wd_3_137 wd_1_8 wd_3_138, rfl, by decide +kernel, by decide +kernel, by decide +kernel⟩
theorem cv_X7_32 : CalV RX7 32 RX8 yX8_holds cX8_holds 3 (some .boolean) 2 := ⟨wd_V wd_3_139 wd_3_140 wd_3_141 wd_1_8 wd_3_142, rfl, by decide +kernel, by decide +kernel, by decide +kernel⟩
theorem cv_X7_42 : CalV RX7 42 RX0 yX0_tells cX0_tells 2 (some .boolean) 1 := ⟨wd_V wd_3_143 wd_3_144 wd_3_145 wd_1_26 wd_3_146, rfl, by decide +kernel, by decide +kernel, by decide +kernel⟩
theorem cv_X7_48 : CalV RX7 48 RX0 yX0_valueOf cX0_valueOf 2 (some .int) 1 := ⟨wd_V wd_3_147 wd_2_152 wd_2_153 wd_1_26 wd_2_154, rfl, by decide +kernel, by decide +kernel, by decide +kernel⟩
theorem cv_X7_52 : CalV RX7 52 RX7 yX7_take cX7_take 4 none 3 := ⟨wd_V wd_3_148 wd_3_150 wp_1_11 wd_1_10 wd_3_151, rfl, by decide +kernel, by decide +kernel, by decide +kernel⟩
/-! PolicyTree$Row.<init>()V -/
theorem dX8_init_0 : decode cX8_init 0 = .ok (.aload_n 0, 1) := by decide +kernel
theorem dX8_init_1 : decode cX8_init 1 = .ok (.invokespecial 3, 3) := by decide +kernel
theorem dX8_init_4 : decode cX8_init 4 = .ok (.aload_n 0, 1) := by decide +kernel
theorem dX8_init_5 : decode cX8_init 5 = .ok (.new 9, 3) := by decide +kernel
theorem dX8_init_8 : decode cX8_init 8 = .ok (.dup, 1) := by decide +kernel
theorem dX8_init_9 : decode cX8_init 9 = .ok (.invokespecial 11, 3) := by decide +kernel
theorem dX8_init_12 : decode cX8_init 12 = .ok (.putfield 12, 3) := by decide +kernel
theorem dX8_init_15 : decode cX8_init 15 = .ok (.aload_n 0, 1) := by decide +kernel
theorem dX8_init_16 : decode cX8_init 16 = .ok (.new 9, 3) := by decide +kernel
theorem dX8_init_19 : decode cX8_init 19 = .ok (.dup, 1) := by decide +kernel
theorem dX8_init_20 : decode cX8_init 20 = .ok (.invokespecial 11, 3) := by decide +kernel
theorem dX8_init_23 : decode cX8_init 23 = .ok (.putfield 18, 3) := by decide +kernel
theorem dX8_init_26 : decode cX8_init 26 = .ok (.aload_n 0, 1) := by decide +kernel
theorem dX8_init_27 : decode cX8_init 27 = .ok (.bipush 100, 2) := by decide +kernel
theorem dX8_init_29 : decode cX8_init 29 = .ok (.newarray .long, 2) := by decide +kernel
theorem dX8_init_31 : decode cX8_init 31 = .ok (.putfield 21, 3) := by decide +kernel
theorem dX8_init_34 : decode cX8_init 34 = .ok (.aload_n 0, 1) := by decide +kernel
theorem dX8_init_35 : decode cX8_init 35 = .ok (.new 25, 3) := by decide +kernel
theorem dX8_init_38 : decode cX8_init 38 = .ok (.dup, 1) := by decide +kernel
theorem dX8_init_39 : decode cX8_init 39 = .ok (.invokespecial 27, 3) := by decide +kernel
theorem dX8_init_42 : decode cX8_init 42 = .ok (.putfield 28, 3) := by decide +kernel
theorem dX8_init_45 : decode cX8_init 45 = .ok (.return_, 1) := by decide +kernel
def f_X8_init (Z : Nat → Nat) (r0 : Option Nat) : Mo Unit := mb (mo 11 r0 (mp ())) (fun _ => mb (nO 2 [.int 0, .null, .int 0]) (fun v5 => mb (mo 2 v5 (f_Jx4a65c_init_da8c8 Z v5)) (fun _ => mb (pV 11 0 r0 (va_rf v5)) (fun _ => mb (nO 2 [.int 0, .null, .int 0]) (fun v16 => mb (mo 2 v16 (f_Jx4a65c_init_da8c8 Z v16)) (fun _ => mb (pV 11 1 r0 (va_rf v16)) (fun _ => mb (nA 2 (100 : Int32)) (fun v29 => mb (pV 11 2 r0 (va_rf v29)) (fun _ => mb (nO 12 [.null, .null, .int 0, .int 0, .int 0, .long 0]) (fun v35 => mb (mo 12 v35 (f_X9_init v35)) (fun _ => mb (pV 11 3 r0 (va_rf v35)) (fun _ => mp ()))))))))))))
set_option maxRecDepth 100000 in
set_option maxHeartbeats 4000000 in
theorem s_X8_init {X : Cg} (cx : Cx X cX8_init RX8 1) (hfr : 4 ≤ (xR X).frames) (hlo : 72 ≤ (xR X).locals) (hr : (xM X).sig.returnType = none) (hin : (xM X).name = "<init>") (r0 : Option Nat) : Sim X 1 (FiM X vV) 0 [(0, va_rf r0)] [] (f_X8_init (xZ X) r0) := by
  unfold f_X8_init
  refine sm_aload_n cx 0 dX8_init_0 rfl rfl ?_
  refine sm_obj (ci := 11) cx wd_1_140 wd_1_41 wd_1_42 (Nat.le_trans (by decide) hfr) (Nat.le_trans (by decide) hlo) dX8_init_1 rfl ?_
  refine sm_aload_n cx 0 dX8_init_4 rfl rfl ?_
  refine sm_new cx nw_X8_9 dX8_init_5 (fun v5 => ?_)
  refine sm_dup cx dX8_init_8 (rf_cat _) ?_
  refine sm_callI (ci := 2) (toV := vV) cx [] ci_X8_11 (fun a h => ct_Jx4a65c_init_da8c8 (xZ X) a h) (Nat.le_trans (by decide) hfr) (Nat.le_trans (by decide) hlo) rfl (cat_le _ (Nat.le_of_ble_eq_true rfl)) dX8_init_9 (fun _ => ?_)
  refine sm_putF cx hin fl_X8_12 (nr_rf _) (ft_rf _) dX8_init_12 ?_
  refine sm_aload_n cx 0 dX8_init_15 rfl rfl ?_
  refine sm_new cx nw_X8_9 dX8_init_16 (fun v16 => ?_)
  refine sm_dup cx dX8_init_19 (rf_cat _) ?_
  refine sm_callI (ci := 2) (toV := vV) cx [] ci_X8_11 (fun a h => ct_Jx4a65c_init_da8c8 (xZ X) a h) (Nat.le_trans (by decide) hfr) (Nat.le_trans (by decide) hlo) rfl (cat_le _ (Nat.le_of_ble_eq_true rfl)) dX8_init_20 (fun _ => ?_)
  refine sm_putF cx hin fl_X8_18 (nr_rf _) (ft_rf _) dX8_init_23 ?_
  refine sm_aload_n cx 0 dX8_init_26 rfl rfl ?_
  refine sm_bipush (v := 100) cx dX8_init_27 (by decide) ?_
  refine sm_newa2 cx dX8_init_29 (fun v29 => ?_)
  refine sm_putF cx hin fl_X8_21 (nr_ra _) (ft_ra _) dX8_init_31 ?_
  refine sm_aload_n cx 0 dX8_init_34 rfl rfl ?_
  refine sm_new cx nw_X8_25 dX8_init_35 (fun v35 => ?_)
  refine sm_dup cx dX8_init_38 (rf_cat _) ?_
  refine sm_callI (ci := 12) (toV := vV) cx [] ci_X8_27 (fun a h => ct_X9_init (xZ X) a h) (Nat.le_trans (by decide) hfr) (Nat.le_trans (by decide) hlo) rfl (cat_le _ (Nat.le_of_ble_eq_true rfl)) dX8_init_39 (fun _ => ?_)
  refine sm_putF cx hin fl_X8_28 (nr_rf _) (ft_rf _) dX8_init_42 ?_
  exact sm_vret cx hr dX8_init_45
set_option maxRecDepth 100000 in
set_option maxHeartbeats 4000000 in
theorem ct_X8_init (Z : Nat → Nat) {r0 : Option Nat} (a0 : Nat) (h0 : r0 = some a0) : Ct yX8_init cX8_init 1 none 4 72 Z [.ref a0] vV (f_X8_init Z r0) := by
  subst h0
  refine ct_of (lv0 := [(0, va_rf (some a0))]) (by decide +kernel) (by simp [lg_sl, ct_i, ct_l, ct_r, rf_cat]) (by show _ = ([(0, Value.ref a0)] : List (Nat × Value)); simp [lv_args, ct_i, ct_l, ct_r, rf_cat]) (fun X cx hZ hfr hlo hr hin => ?_)
  subst hZ
  exact s_X8_init cx (Nat.le_of_eq hfr.symm) (Nat.le_of_eq hlo.symm) hr hin (some a0)
/-! PolicyTree$Row.size()I -/
theorem dX8_size_0 : decode cX8_size 0 = .ok (.aload_n 0, 1) := by decide +kernel
theorem dX8_size_1 : decode cX8_size 1 = .ok (.getfield 18, 3) := by decide +kernel
theorem dX8_size_4 : decode cX8_size 4 = .ok (.invokevirtual 66, 3) := by decide +kernel
theorem dX8_size_7 : decode cX8_size 7 = .ok (.ireturn, 1) := by decide +kernel
def f_X8_size (r0 : Option Nat) : Mo Int32 := mb (gR 11 1 r0) (fun v1 => mb (mo 2 v1 (f_Jx4a65c_size_8abf5 v1)) (fun v4 => mp v4))
set_option maxRecDepth 100000 in
set_option maxHeartbeats 4000000 in
theorem s_X8_size {X : Cg} (cx : Cx X cX8_size RX8 1) (hfr : 1 ≤ (xR X).frames) (hlo : 20 ≤ (xR X).locals) (hr : (xM X).sig.returnType = (some .int)) (r0 : Option Nat) : Sim X 1 (FiM X vI) 0 [(0, va_rf r0)] [] (f_X8_size r0) := by
  unfold f_X8_size
  refine sm_aload_n cx 0 dX8_size_0 rfl rfl ?_
  refine sm_getR cx fl_X8_18 dX8_size_1 (fun v1 => ?_)
  refine sm_callV (T := TJx4a65c) (N := 3) (toV := vI) cx [] rfl cv_X8_66 (fun a h => ct_Jx4a65c_size_8abf5 (xZ X) a h) (Nat.le_trans (by decide) hfr) (Nat.le_trans (by decide) hlo) rfl (cat_le _ (Nat.le_of_ble_eq_true rfl)) dX8_size_4 (fun v4 => ?_)
  exact sm_iret cx hr dX8_size_7
set_option maxRecDepth 100000 in
set_option maxHeartbeats 4000000 in
theorem ct_X8_size (Z : Nat → Nat) {r0 : Option Nat} (a0 : Nat) (h0 : r0 = some a0) : Ct yX8_size cX8_size 1 (some .int) 1 20 Z [.ref a0] vI (f_X8_size r0) := by
  subst h0
  refine ct_of (lv0 := [(0, va_rf (some a0))]) (by decide +kernel) (by simp [lg_sl, ct_i, ct_l, ct_r, rf_cat]) (by show _ = ([(0, Value.ref a0)] : List (Nat × Value)); simp [lv_args, ct_i, ct_l, ct_r, rf_cat]) (fun X cx hZ hfr hlo hr hin => ?_)
  subst hZ
  exact s_X8_size cx (Nat.le_of_eq hfr.symm) (Nat.le_of_eq hlo.symm) hr (some a0)
/-! PolicyTree$Row.linkAt(I)LPolicyTree$Link; -/
theorem dX8_linkAt_0 : decode cX8_linkAt 0 = .ok (.iload_n 1, 1) := by decide +kernel
theorem dX8_linkAt_1 : decode cX8_linkAt 1 = .ok (.ifCond .lt 28, 3) := by decide +kernel
theorem dX8_linkAt_4 : decode cX8_linkAt 4 = .ok (.iload_n 1, 1) := by decide +kernel
theorem dX8_linkAt_5 : decode cX8_linkAt 5 = .ok (.aload_n 0, 1) := by decide +kernel
theorem dX8_linkAt_6 : decode cX8_linkAt 6 = .ok (.getfield 18, 3) := by decide +kernel
theorem dX8_linkAt_9 : decode cX8_linkAt 9 = .ok (.invokevirtual 66, 3) := by decide +kernel
theorem dX8_linkAt_12 : decode cX8_linkAt 12 = .ok (.if_icmp .ge 17, 3) := by decide +kernel
theorem dX8_linkAt_15 : decode cX8_linkAt 15 = .ok (.aload_n 0, 1) := by decide +kernel
theorem dX8_linkAt_16 : decode cX8_linkAt 16 = .ok (.getfield 18, 3) := by decide +kernel
theorem dX8_linkAt_19 : decode cX8_linkAt 19 = .ok (.iload_n 1, 1) := by decide +kernel
theorem dX8_linkAt_20 : decode cX8_linkAt 20 = .ok (.invokevirtual 73, 3) := by decide +kernel
theorem dX8_linkAt_23 : decode cX8_linkAt 23 = .ok (.checkcast 77, 3) := by decide +kernel
theorem dX8_linkAt_26 : decode cX8_linkAt 26 = .ok (.goto 4, 3) := by decide +kernel
theorem dX8_linkAt_29 : decode cX8_linkAt 29 = .ok (.aconst_null, 1) := by decide +kernel
theorem dX8_linkAt_30 : decode cX8_linkAt 30 = .ok (.areturn, 1) := by decide +kernel
def f_X8_linkAt_30 (sr0 : Option Nat) : Mo (Option Nat) := mp sr0
set_option maxRecDepth 100000 in
set_option maxHeartbeats 4000000 in
theorem s_X8_linkAt_30 {X : Cg} (cx : Cx X cX8_linkAt RX8 2) (hfr : 3 ≤ (xR X).frames) (hlo : 64 ≤ (xR X).locals) (hr : (xM X).sig.returnType = (some (.object "PolicyTree$Link"))) (sr0 : Option Nat) : Sim X 2 (FiM X vR) 30 [] [va_rf sr0] (f_X8_linkAt_30 sr0) := by
  unfold f_X8_linkAt_30
  exact sm_aret cx hr (Or.inl ⟨_, rfl⟩) dX8_linkAt_30
def f_X8_linkAt_29 : Mo (Option Nat) := f_X8_linkAt_30 none
set_option maxRecDepth 100000 in
set_option maxHeartbeats 4000000 in
theorem s_X8_linkAt_29 {X : Cg} (cx : Cx X cX8_linkAt RX8 2) (hfr : 3 ≤ (xR X).frames) (hlo : 64 ≤ (xR X).locals) (hr : (xM X).sig.returnType = (some (.object "PolicyTree$Link"))) : Sim X 2 (FiM X vR) 29 [] [] (f_X8_linkAt_29) := by
  unfold f_X8_linkAt_29
  refine sm_null cx dX8_linkAt_29 ?_
  exact sm_lv [] rfl (s_X8_linkAt_30 cx hfr hlo hr none)
def f_X8_linkAt (r0 : Option Nat) (x1 : Int32) : Mo (Option Nat) := (if x1 < 0 then f_X8_linkAt_29 else mb (gR 11 1 r0) (fun v6 => mb (mo 2 v6 (f_Jx4a65c_size_8abf5 v6)) (fun v9 => (if v9 ≤ x1 then f_X8_linkAt_29 else mb (gR 11 1 r0) (fun v16 => mb (mo 2 v16 (f_Jx4a65c_get_915e3 v16 x1)) (fun v20 => mb (ck 7 v20) (fun _ => f_X8_linkAt_30 v20)))))))
set_option maxRecDepth 100000 in
set_option maxHeartbeats 4000000 in
theorem s_X8_linkAt {X : Cg} (cx : Cx X cX8_linkAt RX8 2) (hfr : 3 ≤ (xR X).frames) (hlo : 64 ≤ (xR X).locals) (hr : (xM X).sig.returnType = (some (.object "PolicyTree$Link"))) (r0 : Option Nat) (x1 : Int32) : Sim X 2 (FiM X vR) 0 [(0, va_rf r0), (1, .int x1)] [] (f_X8_linkAt r0 x1) := by
  unfold f_X8_linkAt
  refine sm_iload_n cx 1 dX8_linkAt_0 rfl rfl ?_
  refine sm_if_lt (tgt := 29) cx dX8_linkAt_1 (by decide) ?_ ?_
  · exact sm_lv [] rfl (s_X8_linkAt_29 cx hfr hlo hr)
  · refine sm_iload_n cx 1 dX8_linkAt_4 rfl rfl ?_
    refine sm_aload_n cx 0 dX8_linkAt_5 rfl rfl ?_
    refine sm_getR cx fl_X8_18 dX8_linkAt_6 (fun v6 => ?_)
    refine sm_callV (T := TJx4a65c) (N := 3) (toV := vI) cx [] rfl cv_X8_66 (fun a h => ct_Jx4a65c_size_8abf5 (xZ X) a h) (Nat.le_trans (by decide) hfr) (Nat.le_trans (by decide) hlo) rfl (cat_le _ (Nat.le_of_ble_eq_true rfl)) dX8_linkAt_9 (fun v9 => ?_)
    refine sm_icmp_ge (tgt := 29) cx dX8_linkAt_12 (by decide) ?_ ?_
    · exact sm_lv [] rfl (s_X8_linkAt_29 cx hfr hlo hr)
    · refine sm_aload_n cx 0 dX8_linkAt_15 rfl rfl ?_
      refine sm_getR cx fl_X8_18 dX8_linkAt_16 (fun v16 => ?_)
      refine sm_iload_n cx 1 dX8_linkAt_19 rfl rfl ?_
      refine sm_callV (T := TJx4a65c) (N := 3) (toV := vR) cx [.int x1] rfl cv_X8_73 (fun a h => ct_Jx4a65c_get_915e3 (xZ X) a h x1) (Nat.le_trans (by decide) hfr) (Nat.le_trans (by decide) hlo) rfl (cat_le _ (Nat.le_of_ble_eq_true rfl)) dX8_linkAt_20 (fun v20 => ?_)
      refine sm_ck (T := TX4) (N := 7) cx rfl wd_3_117 dX8_linkAt_23 ?_
      refine sm_goto (tgt := 30) cx dX8_linkAt_26 (by decide) ?_
      exact sm_lv [] rfl (s_X8_linkAt_30 cx hfr hlo hr v20)
set_option maxRecDepth 100000 in
set_option maxHeartbeats 4000000 in
theorem ct_X8_linkAt (Z : Nat → Nat) {r0 : Option Nat} (a0 : Nat) (h0 : r0 = some a0) (x1 : Int32) : Ct yX8_linkAt cX8_linkAt 2 (some (.object "PolicyTree$Link")) 3 64 Z [.ref a0, .int x1] vR (f_X8_linkAt r0 x1) := by
  subst h0
  refine ct_of (lv0 := [(0, va_rf (some a0)), (1, .int x1)]) (by decide +kernel) (by simp [lg_sl, ct_i, ct_l, ct_r, rf_cat]) (by show _ = ([(0, Value.ref a0), (1, .int x1)] : List (Nat × Value)); simp [lv_args, ct_i, ct_l, ct_r, rf_cat]) (fun X cx hZ hfr hlo hr hin => ?_)
  subst hZ
  exact s_X8_linkAt cx (Nat.le_of_eq hfr.symm) (Nat.le_of_eq hlo.symm) hr (some a0) x1
/-! PolicyTree$Row.holds(II)Z -/
theorem dX8_holds_0 : decode cX8_holds 0 = .ok (.iload_n 1, 1) := by decide +kernel
theorem dX8_holds_1 : decode cX8_holds 1 = .ok (.ifCond .lt 31, 3) := by decide +kernel
theorem dX8_holds_4 : decode cX8_holds 4 = .ok (.iload_n 1, 1) := by decide +kernel
theorem dX8_holds_5 : decode cX8_holds 5 = .ok (.aload_n 0, 1) := by decide +kernel
theorem dX8_holds_6 : decode cX8_holds 6 = .ok (.getfield 21, 3) := by decide +kernel
theorem dX8_holds_9 : decode cX8_holds 9 = .ok (.arraylength, 1) := by decide +kernel
theorem dX8_holds_10 : decode cX8_holds 10 = .ok (.if_icmp .ge 22, 3) := by decide +kernel
theorem dX8_holds_13 : decode cX8_holds 13 = .ok (.aload_n 0, 1) := by decide +kernel
theorem dX8_holds_14 : decode cX8_holds 14 = .ok (.getfield 21, 3) := by decide +kernel
theorem dX8_holds_17 : decode cX8_holds 17 = .ok (.iload_n 1, 1) := by decide +kernel
theorem dX8_holds_18 : decode cX8_holds 18 = .ok (.laload, 1) := by decide +kernel
theorem dX8_holds_19 : decode cX8_holds 19 = .ok (.iload_n 2, 1) := by decide +kernel
theorem dX8_holds_20 : decode cX8_holds 20 = .ok (.lushr, 1) := by decide +kernel
theorem dX8_holds_21 : decode cX8_holds 21 = .ok (.lconst 1, 1) := by decide +kernel
theorem dX8_holds_22 : decode cX8_holds 22 = .ok (.land, 1) := by decide +kernel
theorem dX8_holds_23 : decode cX8_holds 23 = .ok (.lconst 0, 1) := by decide +kernel
theorem dX8_holds_24 : decode cX8_holds 24 = .ok (.lcmp, 1) := by decide +kernel
theorem dX8_holds_25 : decode cX8_holds 25 = .ok (.ifCond .eq 7, 3) := by decide +kernel
theorem dX8_holds_28 : decode cX8_holds 28 = .ok (.iconst 1, 1) := by decide +kernel
theorem dX8_holds_29 : decode cX8_holds 29 = .ok (.goto 4, 3) := by decide +kernel
theorem dX8_holds_32 : decode cX8_holds 32 = .ok (.iconst 0, 1) := by decide +kernel
theorem dX8_holds_33 : decode cX8_holds 33 = .ok (.ireturn, 1) := by decide +kernel
def f_X8_holds_33 (sx0 : Int32) : Mo Int32 := rz .boolean sx0
set_option maxRecDepth 100000 in
set_option maxHeartbeats 4000000 in
theorem s_X8_holds_33 {X : Cg} (cx : Cx X cX8_holds RX8 3) (hfr : 0 ≤ (xR X).frames) (hlo : 0 ≤ (xR X).locals) (hr : (xM X).sig.returnType = (some .boolean)) (sx0 : Int32) : Sim X 3 (FiM X vI) 33 [] [.int sx0] (f_X8_holds_33 sx0) := by
  unfold f_X8_holds_33
  exact sm_zret cx hr dX8_holds_33
def f_X8_holds_32 : Mo Int32 := f_X8_holds_33 (0 : Int32)
set_option maxRecDepth 100000 in
set_option maxHeartbeats 4000000 in
theorem s_X8_holds_32 {X : Cg} (cx : Cx X cX8_holds RX8 3) (hfr : 0 ≤ (xR X).frames) (hlo : 0 ≤ (xR X).locals) (hr : (xM X).sig.returnType = (some .boolean)) : Sim X 3 (FiM X vI) 32 [] [] (f_X8_holds_32) := by
  unfold f_X8_holds_32
  refine sm_iconst (v := 0) cx dX8_holds_32 (by decide) ?_
  exact sm_lv [] rfl (s_X8_holds_33 cx hfr hlo hr (0 : Int32))
def f_X8_holds (r0 : Option Nat) (x1 : Int32) (x2 : Int32) : Mo Int32 := (if x1 < 0 then f_X8_holds_32 else mb (gR 11 2 r0) (fun v6 => mb (aN 2 v6) (fun v9 => (if v9 ≤ x1 then f_X8_holds_32 else mb (gR 11 2 r0) (fun v14 => mb (aL v14 x1) (fun v18 => (if (lg_cmp ((jSL v18 x2) &&& (1 : Int64)) (0 : Int64)) = 0 then f_X8_holds_32 else f_X8_holds_33 (1 : Int32))))))))
set_option maxRecDepth 100000 in
set_option maxHeartbeats 4000000 in
theorem s_X8_holds {X : Cg} (cx : Cx X cX8_holds RX8 3) (hfr : 0 ≤ (xR X).frames) (hlo : 0 ≤ (xR X).locals) (hr : (xM X).sig.returnType = (some .boolean)) (r0 : Option Nat) (x1 : Int32) (x2 : Int32) : Sim X 3 (FiM X vI) 0 [(0, va_rf r0), (1, .int x1), (2, .int x2)] [] (f_X8_holds r0 x1 x2) := by
  unfold f_X8_holds
  refine sm_iload_n cx 1 dX8_holds_0 rfl rfl ?_
  refine sm_if_lt (tgt := 32) cx dX8_holds_1 (by decide) ?_ ?_
  · exact sm_lv [] rfl (s_X8_holds_32 cx hfr hlo hr)
  · refine sm_iload_n cx 1 dX8_holds_4 rfl rfl ?_
    refine sm_aload_n cx 0 dX8_holds_5 rfl rfl ?_
    refine sm_getR cx fl_X8_21 dX8_holds_6 (fun v6 => ?_)
    refine sm_alen cx 2 (by decide) dX8_holds_9 (fun v9 => ?_)
    refine sm_icmp_ge (tgt := 32) cx dX8_holds_10 (by decide) ?_ ?_
    · exact sm_lv [] rfl (s_X8_holds_32 cx hfr hlo hr)
    · refine sm_aload_n cx 0 dX8_holds_13 rfl rfl ?_
      refine sm_getR cx fl_X8_21 dX8_holds_14 (fun v14 => ?_)
      refine sm_iload_n cx 1 dX8_holds_17 rfl rfl ?_
      refine sm_lald cx dX8_holds_18 (fun v18 => ?_)
      refine sm_iload_n cx 2 dX8_holds_19 rfl rfl ?_
      refine sm_lushr cx dX8_holds_20 ?_
      refine sm_lconst (v := 1) cx dX8_holds_21 (by decide) ?_
      refine sm_land cx dX8_holds_22 ?_
      refine sm_lconst (v := 0) cx dX8_holds_23 (by decide) ?_
      refine sm_lcmp cx dX8_holds_24 ?_
      refine sm_if_eq (tgt := 32) cx dX8_holds_25 (by decide) ?_ ?_
      · exact sm_lv [] rfl (s_X8_holds_32 cx hfr hlo hr)
      · refine sm_iconst (v := 1) cx dX8_holds_28 (by decide) ?_
        refine sm_goto (tgt := 33) cx dX8_holds_29 (by decide) ?_
        exact sm_lv [] rfl (s_X8_holds_33 cx hfr hlo hr (1 : Int32))
set_option maxRecDepth 100000 in
set_option maxHeartbeats 4000000 in
theorem ct_X8_holds (Z : Nat → Nat) {r0 : Option Nat} (a0 : Nat) (h0 : r0 = some a0) (x1 : Int32) (x2 : Int32) : Ct yX8_holds cX8_holds 3 (some .boolean) 0 0 Z [.ref a0, .int x1, .int x2] vI (f_X8_holds r0 x1 x2) := by
  subst h0
  refine ct_of (lv0 := [(0, va_rf (some a0)), (1, .int x1), (2, .int x2)]) (by decide +kernel) (by simp [lg_sl, ct_i, ct_l, ct_r, rf_cat]) (by show _ = ([(0, Value.ref a0), (1, .int x1), (2, .int x2)] : List (Nat × Value)); simp [lv_args, ct_i, ct_l, ct_r, rf_cat]) (fun X cx hZ hfr hlo hr hin => ?_)
  subst hZ
  exact s_X8_holds cx (Nat.le_of_eq hfr.symm) (Nat.le_of_eq hlo.symm) hr (some a0) x1 x2
/-! PolicyTree$Row.topOfOpen()I -/
theorem dX8_topOfOpen_0 : decode cX8_topOfOpen 0 = .ok (.iconst 0, 1) := by decide +kernel
theorem dX8_topOfOpen_1 : decode cX8_topOfOpen 1 = .ok (.istore_n 1, 1) := by decide +kernel
theorem dX8_topOfOpen_2 : decode cX8_topOfOpen 2 = .ok (.iload_n 1, 1) := by decide +kernel
theorem dX8_topOfOpen_3 : decode cX8_topOfOpen 3 = .ok (.aload_n 0, 1) := by decide +kernel
theorem dX8_topOfOpen_4 : decode cX8_topOfOpen 4 = .ok (.getfield 12, 3) := by decide +kernel
theorem dX8_topOfOpen_7 : decode cX8_topOfOpen 7 = .ok (.invokevirtual 66, 3) := by decide +kernel
theorem dX8_topOfOpen_10 : decode cX8_topOfOpen 10 = .ok (.if_icmp .ge 28, 3) := by decide +kernel
theorem dX8_topOfOpen_13 : decode cX8_topOfOpen 13 = .ok (.aload_n 0, 1) := by decide +kernel
theorem dX8_topOfOpen_14 : decode cX8_topOfOpen 14 = .ok (.getfield 12, 3) := by decide +kernel
theorem dX8_topOfOpen_17 : decode cX8_topOfOpen 17 = .ok (.iload_n 1, 1) := by decide +kernel
theorem dX8_topOfOpen_18 : decode cX8_topOfOpen 18 = .ok (.invokevirtual 73, 3) := by decide +kernel
theorem dX8_topOfOpen_21 : decode cX8_topOfOpen 21 = .ok (.checkcast 46, 3) := by decide +kernel
theorem dX8_topOfOpen_24 : decode cX8_topOfOpen 24 = .ok (.getfield 95, 3) := by decide +kernel
theorem dX8_topOfOpen_27 : decode cX8_topOfOpen 27 = .ok (.ifCond .eq 5, 3) := by decide +kernel
theorem dX8_topOfOpen_30 : decode cX8_topOfOpen 30 = .ok (.iload_n 1, 1) := by decide +kernel
theorem dX8_topOfOpen_31 : decode cX8_topOfOpen 31 = .ok (.ireturn, 1) := by decide +kernel
theorem dX8_topOfOpen_32 : decode cX8_topOfOpen 32 = .ok (.iinc 1 1, 3) := by decide +kernel
theorem dX8_topOfOpen_35 : decode cX8_topOfOpen 35 = .ok (.goto (-33), 3) := by decide +kernel
theorem dX8_topOfOpen_38 : decode cX8_topOfOpen 38 = .ok (.aload_n 0, 1) := by decide +kernel
theorem dX8_topOfOpen_39 : decode cX8_topOfOpen 39 = .ok (.getfield 12, 3) := by decide +kernel
theorem dX8_topOfOpen_42 : decode cX8_topOfOpen 42 = .ok (.invokevirtual 66, 3) := by decide +kernel
theorem dX8_topOfOpen_45 : decode cX8_topOfOpen 45 = .ok (.iconst 1, 1) := by decide +kernel
theorem dX8_topOfOpen_46 : decode cX8_topOfOpen 46 = .ok (.isub, 1) := by decide +kernel
theorem dX8_topOfOpen_47 : decode cX8_topOfOpen 47 = .ok (.ireturn, 1) := by decide +kernel
def f_X8_topOfOpen_2 (r0 : Option Nat) : Nat → Int32 → Mo Int32
  | 0, _ => mf
  | n + 1, x1 => mb (gR 11 0 r0) (fun v4 => mb (mo 2 v4 (f_Jx4a65c_size_8abf5 v4)) (fun v7 => (if v7 ≤ x1 then mb (gR 11 0 r0) (fun v39 => mb (mo 2 v39 (f_Jx4a65c_size_8abf5 v39)) (fun v42 => mp (v42 - (1 : Int32)))) else mb (gR 11 0 r0) (fun v14 => mb (mo 2 v14 (f_Jx4a65c_get_915e3 v14 x1)) (fun v18 => mb (ck 9 v18) (fun _ => mb (gI 9 2 v18) (fun v24 => (if v24 = 0 then (f_X8_topOfOpen_2 r0 n) (x1 + 1) else mp x1))))))))
set_option maxRecDepth 100000 in
set_option maxHeartbeats 4000000 in
theorem s_X8_topOfOpen_2 {X : Cg} (cx : Cx X cX8_topOfOpen RX8 2) (hfr : 3 ≤ (xR X).frames) (hlo : 64 ≤ (xR X).locals) (hr : (xM X).sig.returnType = (some .int)) (r0 : Option Nat) : ∀ (n : Nat) (x1 : Int32), Sim X 2 (FiM X vI) 2 [(0, va_rf r0), (1, .int x1)] [] (f_X8_topOfOpen_2 r0 n x1) := by
  intro n
  induction n with
  | zero =>
    intro _
    exact sm_mf
  | succ n ih =>
    intro x1
    rw [f_X8_topOfOpen_2]
    refine sm_iload_n cx 1 dX8_topOfOpen_2 rfl rfl ?_
    refine sm_aload_n cx 0 dX8_topOfOpen_3 rfl rfl ?_
    refine sm_getR cx fl_X8_12 dX8_topOfOpen_4 (fun v4 => ?_)
    refine sm_callV (T := TJx4a65c) (N := 3) (toV := vI) cx [] rfl cv_X8_66 (fun a h => ct_Jx4a65c_size_8abf5 (xZ X) a h) (Nat.le_trans (by decide) hfr) (Nat.le_trans (by decide) hlo) rfl (cat_le _ (Nat.le_of_ble_eq_true rfl)) dX8_topOfOpen_7 (fun v7 => ?_)
    refine sm_icmp_ge (tgt := 38) cx dX8_topOfOpen_10 (by decide) ?_ ?_
    · refine sm_aload_n cx 0 dX8_topOfOpen_38 rfl rfl ?_
      refine sm_getR cx fl_X8_12 dX8_topOfOpen_39 (fun v39 => ?_)
      refine sm_callV (T := TJx4a65c) (N := 3) (toV := vI) cx [] rfl cv_X8_66 (fun a h => ct_Jx4a65c_size_8abf5 (xZ X) a h) (Nat.le_trans (by decide) hfr) (Nat.le_trans (by decide) hlo) rfl (cat_le _ (Nat.le_of_ble_eq_true rfl)) dX8_topOfOpen_42 (fun v42 => ?_)
      refine sm_iconst (v := 1) cx dX8_topOfOpen_45 (by decide) ?_
      refine sm_isub cx dX8_topOfOpen_46 ?_
      exact sm_iret cx hr dX8_topOfOpen_47
    · refine sm_aload_n cx 0 dX8_topOfOpen_13 rfl rfl ?_
      refine sm_getR cx fl_X8_12 dX8_topOfOpen_14 (fun v14 => ?_)
      refine sm_iload_n cx 1 dX8_topOfOpen_17 rfl rfl ?_
      refine sm_callV (T := TJx4a65c) (N := 3) (toV := vR) cx [.int x1] rfl cv_X8_73 (fun a h => ct_Jx4a65c_get_915e3 (xZ X) a h x1) (Nat.le_trans (by decide) hfr) (Nat.le_trans (by decide) hlo) rfl (cat_le _ (Nat.le_of_ble_eq_true rfl)) dX8_topOfOpen_18 (fun v18 => ?_)
      refine sm_ck (T := TX6) (N := 4) cx rfl wd_3_83 dX8_topOfOpen_21 ?_
      refine sm_getI cx fl_X8_95 dX8_topOfOpen_24 (fun v24 => ?_)
      refine sm_if_eq (tgt := 32) cx dX8_topOfOpen_27 (by decide) ?_ ?_
      · refine sm_iinc cx 1 [(1, .int (x1 + 1)), (0, va_rf r0)] dX8_topOfOpen_32 rfl rfl (by decide) rfl (nc1 (rf_cat _)) rfl ?_
        refine sm_goto (tgt := 2) cx dX8_topOfOpen_35 (by decide) ?_
        exact sm_lv [1, 0] rfl (ih (x1 + 1))
      · refine sm_iload_n cx 1 dX8_topOfOpen_30 rfl rfl ?_
        exact sm_iret cx hr dX8_topOfOpen_31
def f_X8_topOfOpen (r0 : Option Nat) : Mo Int32 := f_X8_topOfOpen_2 r0 fuL (0 : Int32)
set_option maxRecDepth 100000 in
set_option maxHeartbeats 4000000 in
theorem s_X8_topOfOpen {X : Cg} (cx : Cx X cX8_topOfOpen RX8 2) (hfr : 3 ≤ (xR X).frames) (hlo : 64 ≤ (xR X).locals) (hr : (xM X).sig.returnType = (some .int)) (r0 : Option Nat) : Sim X 2 (FiM X vI) 0 [(0, va_rf r0)] [] (f_X8_topOfOpen r0) := by
  unfold f_X8_topOfOpen
  refine sm_iconst (v := 0) cx dX8_topOfOpen_0 (by decide) ?_
  refine sm_istore_n cx [(1, .int (0 : Int32)), (0, va_rf r0)] dX8_topOfOpen_1 rfl (by decide) rfl (nc1 (rf_cat _)) rfl ?_
  exact sm_lv [1, 0] rfl (s_X8_topOfOpen_2 cx hfr hlo hr r0 fuL (0 : Int32))
set_option maxRecDepth 100000 in
set_option maxHeartbeats 4000000 in
theorem ct_X8_topOfOpen (Z : Nat → Nat) {r0 : Option Nat} (a0 : Nat) (h0 : r0 = some a0) : Ct yX8_topOfOpen cX8_topOfOpen 2 (some .int) 3 64 Z [.ref a0] vI (f_X8_topOfOpen r0) := by
  subst h0
  refine ct_of (lv0 := [(0, va_rf (some a0))]) (by decide +kernel) (by simp [lg_sl, ct_i, ct_l, ct_r, rf_cat]) (by show _ = ([(0, Value.ref a0)] : List (Nat × Value)); simp [lv_args, ct_i, ct_l, ct_r, rf_cat]) (fun X cx hZ hfr hlo hr hin => ?_)
  subst hZ
  exact s_X8_topOfOpen cx (Nat.le_of_eq hfr.symm) (Nat.le_of_eq hlo.symm) hr (some a0)
/-! PolicyTree$Row.addLinks(IZI)V -/
theorem dX8_addLinks_0 : decode cX8_addLinks 0 = .ok (.iload_n 1, 1) := by decide +kernel
theorem dX8_addLinks_1 : decode cX8_addLinks 1 = .ok (.ifCond .lt 14, 3) := by decide +kernel
theorem dX8_addLinks_4 : decode cX8_addLinks 4 = .ok (.iload_n 1, 1) := by decide +kernel
theorem dX8_addLinks_5 : decode cX8_addLinks 5 = .ok (.aload_n 0, 1) := by decide +kernel
theorem dX8_addLinks_6 : decode cX8_addLinks 6 = .ok (.getfield 12, 3) := by decide +kernel
theorem dX8_addLinks_9 : decode cX8_addLinks 9 = .ok (.invokevirtual 66, 3) := by decide +kernel
theorem dX8_addLinks_12 : decode cX8_addLinks 12 = .ok (.if_icmp .lt 4, 3) := by decide +kernel
theorem dX8_addLinks_15 : decode cX8_addLinks 15 = .ok (.return_, 1) := by decide +kernel
theorem dX8_addLinks_16 : decode cX8_addLinks 16 = .ok (.aload_n 0, 1) := by decide +kernel
theorem dX8_addLinks_17 : decode cX8_addLinks 17 = .ok (.getfield 12, 3) := by decide +kernel
theorem dX8_addLinks_20 : decode cX8_addLinks 20 = .ok (.iload_n 1, 1) := by decide +kernel
theorem dX8_addLinks_21 : decode cX8_addLinks 21 = .ok (.invokevirtual 73, 3) := by decide +kernel
theorem dX8_addLinks_24 : decode cX8_addLinks 24 = .ok (.checkcast 46, 3) := by decide +kernel
theorem dX8_addLinks_27 : decode cX8_addLinks 27 = .ok (.astore 4, 2) := by decide +kernel
theorem dX8_addLinks_29 : decode cX8_addLinks 29 = .ok (.iconst 0, 1) := by decide +kernel
theorem dX8_addLinks_30 : decode cX8_addLinks 30 = .ok (.istore 5, 2) := by decide +kernel
theorem dX8_addLinks_32 : decode cX8_addLinks 32 = .ok (.iload 5, 2) := by decide +kernel
theorem dX8_addLinks_34 : decode cX8_addLinks 34 = .ok (.aload 4, 2) := by decide +kernel
theorem dX8_addLinks_36 : decode cX8_addLinks 36 = .ok (.invokevirtual 99, 3) := by decide +kernel
theorem dX8_addLinks_39 : decode cX8_addLinks 39 = .ok (.if_icmp .ge 55, 3) := by decide +kernel
theorem dX8_addLinks_42 : decode cX8_addLinks 42 = .ok (.aload 4, 2) := by decide +kernel
theorem dX8_addLinks_44 : decode cX8_addLinks 44 = .ok (.iload 5, 2) := by decide +kernel
theorem dX8_addLinks_46 : decode cX8_addLinks 46 = .ok (.invokevirtual 100, 3) := by decide +kernel
theorem dX8_addLinks_49 : decode cX8_addLinks 49 = .ok (.astore 6, 2) := by decide +kernel
theorem dX8_addLinks_51 : decode cX8_addLinks 51 = .ok (.aload 6, 2) := by decide +kernel
theorem dX8_addLinks_53 : decode cX8_addLinks 53 = .ok (.ifnull 35, 3) := by decide +kernel
theorem dX8_addLinks_56 : decode cX8_addLinks 56 = .ok (.aload 6, 2) := by decide +kernel
theorem dX8_addLinks_58 : decode cX8_addLinks 58 = .ok (.getfield 104, 3) := by decide +kernel
theorem dX8_addLinks_61 : decode cX8_addLinks 61 = .ok (.iload_n 2, 1) := by decide +kernel
theorem dX8_addLinks_62 : decode cX8_addLinks 62 = .ok (.if_icmp .ne 26, 3) := by decide +kernel
theorem dX8_addLinks_65 : decode cX8_addLinks 65 = .ok (.aload 6, 2) := by decide +kernel
theorem dX8_addLinks_67 : decode cX8_addLinks 67 = .ok (.getfield 107, 3) := by decide +kernel
theorem dX8_addLinks_70 : decode cX8_addLinks 70 = .ok (.invokevirtual 111, 3) := by decide +kernel
theorem dX8_addLinks_73 : decode cX8_addLinks 73 = .ok (.iload_n 3, 1) := by decide +kernel
theorem dX8_addLinks_74 : decode cX8_addLinks 74 = .ok (.iand, 1) := by decide +kernel
theorem dX8_addLinks_75 : decode cX8_addLinks 75 = .ok (.ifCond .eq 13, 3) := by decide +kernel
theorem dX8_addLinks_78 : decode cX8_addLinks 78 = .ok (.aload_n 0, 1) := by decide +kernel
theorem dX8_addLinks_79 : decode cX8_addLinks 79 = .ok (.getfield 18, 3) := by decide +kernel
theorem dX8_addLinks_82 : decode cX8_addLinks 82 = .ok (.aload 6, 2) := by decide +kernel
theorem dX8_addLinks_84 : decode cX8_addLinks 84 = .ok (.invokevirtual 41, 3) := by decide +kernel
theorem dX8_addLinks_87 : decode cX8_addLinks 87 = .ok (.pop, 1) := by decide +kernel
theorem dX8_addLinks_88 : decode cX8_addLinks 88 = .ok (.iinc 5 1, 3) := by decide +kernel
theorem dX8_addLinks_91 : decode cX8_addLinks 91 = .ok (.goto (-59), 3) := by decide +kernel
theorem dX8_addLinks_94 : decode cX8_addLinks 94 = .ok (.return_, 1) := by decide +kernel
def f_X8_addLinks_15 (Z : Nat → Nat) : Mo Unit := mp ()
set_option maxRecDepth 100000 in
set_option maxHeartbeats 4000000 in
theorem s_X8_addLinks_15 {X : Cg} (cx : Cx X cX8_addLinks RX8 7) (hfr : 7 ≤ (xR X).frames) (hlo : 170 ≤ (xR X).locals) (hr : (xM X).sig.returnType = none) : Sim X 7 (FiM X vV) 15 [] [] (f_X8_addLinks_15 (xZ X)) := by
  unfold f_X8_addLinks_15
  exact sm_vret cx hr dX8_addLinks_15
def f_X8_addLinks_88 (Z : Nat → Nat) (k32 : Int32 → Mo Unit) (r0 : Option Nat) (x2 : Int32) (x3 : Int32) (r4 : Option Nat) (x5 : Int32) : Mo Unit := k32 (x5 + 1)
set_option maxRecDepth 100000 in
set_option maxHeartbeats 4000000 in
theorem s_X8_addLinks_88 {X : Cg} (cx : Cx X cX8_addLinks RX8 7) (hfr : 7 ≤ (xR X).frames) (hlo : 170 ≤ (xR X).locals) (hr : (xM X).sig.returnType = none) (r0 : Option Nat) (x2 : Int32) (x3 : Int32) (r4 : Option Nat) (x5 : Int32) {k32 : Int32 → Mo Unit} (hk32 : ∀ (x5 : Int32), Sim X 7 (FiM X vV) 32 [(0, va_rf r0), (2, .int x2), (3, .int x3), (4, va_rf r4), (5, .int x5)] [] (k32 x5)) : Sim X 7 (FiM X vV) 88 [(0, va_rf r0), (2, .int x2), (3, .int x3), (4, va_rf r4), (5, .int x5)] [] (f_X8_addLinks_88 (xZ X) k32 r0 x2 x3 r4 x5) := by
  unfold f_X8_addLinks_88
  refine sm_iinc cx 4 [(5, .int (x5 + 1)), (0, va_rf r0), (2, .int x2), (3, .int x3), (4, va_rf r4)] dX8_addLinks_88 rfl rfl (by decide) rfl (nc1 (rf_cat _)) rfl ?_
  refine sm_goto (tgt := 32) cx dX8_addLinks_91 (by decide) ?_
  exact sm_lv [1, 2, 3, 4, 0] rfl (hk32 (x5 + 1))
def f_X8_addLinks_32 (Z : Nat → Nat) (r0 : Option Nat) (x2 : Int32) (x3 : Int32) (r4 : Option Nat) : Nat → Int32 → Mo Unit
  | 0, _ => mf
  | n + 1, x5 => mb (mo 9 r4 (f_X6_size r4)) (fun v36 => (if v36 ≤ x5 then mp () else mb (mo 9 r4 (f_X6_linkAt r4 x5)) (fun v46 => (if v46 = none then f_X8_addLinks_88 Z (f_X8_addLinks_32 Z r0 x2 x3 r4 n) r0 x2 x3 r4 x5 else mb (gI 7 4 v46) (fun v58 => (if v58 = x2 then mb (gR 7 2 v46) (fun v67 => mb (mo 3 v67 (f_X0_toldSettings v67)) (fun v70 => (if (v70 &&& x3) = 0 then f_X8_addLinks_88 Z (f_X8_addLinks_32 Z r0 x2 x3 r4 n) r0 x2 x3 r4 x5 else mb (gR 11 1 r0) (fun v79 => mb (mo 2 v79 (f_Jx4a65c_add_9ea2d Z v79 v46)) (fun v84 => f_X8_addLinks_88 Z (f_X8_addLinks_32 Z r0 x2 x3 r4 n) r0 x2 x3 r4 x5))))) else f_X8_addLinks_88 Z (f_X8_addLinks_32 Z r0 x2 x3 r4 n) r0 x2 x3 r4 x5))))))
set_option maxRecDepth 100000 in
set_option maxHeartbeats 4000000 in
theorem s_X8_addLinks_32 {X : Cg} (cx : Cx X cX8_addLinks RX8 7) (hfr : 7 ≤ (xR X).frames) (hlo : 170 ≤ (xR X).locals) (hr : (xM X).sig.returnType = none) (r0 : Option Nat) (x2 : Int32) (x3 : Int32) (r4 : Option Nat) : ∀ (n : Nat) (x5 : Int32), Sim X 7 (FiM X vV) 32 [(0, va_rf r0), (2, .int x2), (3, .int x3), (4, va_rf r4), (5, .int x5)] [] (f_X8_addLinks_32 (xZ X) r0 x2 x3 r4 n x5) := by
  intro n
  induction n with
  | zero =>
    intro _
    exact sm_mf
  | succ n ih =>
    intro x5
    rw [f_X8_addLinks_32]
    refine sm_iload cx 4 dX8_addLinks_32 rfl ?_
    refine sm_aload cx 3 dX8_addLinks_34 rfl ?_
    refine sm_callV (T := TX6) (N := 4) (toV := vI) cx [] rfl cv_X8_99 (fun a h => ct_X6_size (xZ X) a h) (Nat.le_trans (by decide) hfr) (Nat.le_trans (by decide) hlo) rfl (cat_le _ (Nat.le_of_ble_eq_true rfl)) dX8_addLinks_36 (fun v36 => ?_)
    refine sm_icmp_ge (tgt := 94) cx dX8_addLinks_39 (by decide) ?_ ?_
    · exact sm_vret cx hr dX8_addLinks_94
    · refine sm_aload cx 3 dX8_addLinks_42 rfl ?_
      refine sm_iload cx 4 dX8_addLinks_44 rfl ?_
      refine sm_callV (T := TX6) (N := 4) (toV := vR) cx [.int x5] rfl cv_X8_100 (fun a h => ct_X6_linkAt (xZ X) a h x5) (Nat.le_trans (by decide) hfr) (Nat.le_trans (by decide) hlo) rfl (cat_le _ (Nat.le_of_ble_eq_true rfl)) dX8_addLinks_46 (fun v46 => ?_)
      refine sm_astore cx [(6, va_rf v46), (0, va_rf r0), (2, .int x2), (3, .int x3), (4, va_rf r4), (5, .int x5)] dX8_addLinks_49 (by decide) rfl (nc1 rfl) rfl ?_
      refine sm_aload cx 0 dX8_addLinks_51 rfl ?_
      refine sm_ifnull (tgt := 88) cx dX8_addLinks_53 (by decide) ?_ ?_
      · exact sm_lv [1, 2, 3, 4, 5] rfl (s_X8_addLinks_88 cx hfr hlo hr r0 x2 x3 r4 x5 ih)
      · refine sm_aload cx 0 dX8_addLinks_56 rfl ?_
        refine sm_getI cx fl_X8_104 dX8_addLinks_58 (fun v58 => ?_)
        refine sm_iload_n cx 2 dX8_addLinks_61 rfl rfl ?_
        refine sm_icmp_ne (tgt := 88) cx dX8_addLinks_62 (by decide) ?_ ?_
        · exact sm_lv [1, 2, 3, 4, 5] rfl (s_X8_addLinks_88 cx hfr hlo hr r0 x2 x3 r4 x5 ih)
        · refine sm_aload cx 0 dX8_addLinks_65 rfl ?_
          refine sm_getR cx fl_X8_107 dX8_addLinks_67 (fun v67 => ?_)
          refine sm_callV (T := TX0) (N := 2) (toV := vI) cx [] rfl cv_X8_111 (fun a h => ct_X0_toldSettings (xZ X) a h) (Nat.le_trans (by decide) hfr) (Nat.le_trans (by decide) hlo) rfl (cat_le _ (Nat.le_of_ble_eq_true rfl)) dX8_addLinks_70 (fun v70 => ?_)
          refine sm_iload_n cx 3 dX8_addLinks_73 rfl rfl ?_
          refine sm_iand cx dX8_addLinks_74 ?_
          refine sm_if_eq (tgt := 88) cx dX8_addLinks_75 (by decide) ?_ ?_
          · exact sm_lv [1, 2, 3, 4, 5] rfl (s_X8_addLinks_88 cx hfr hlo hr r0 x2 x3 r4 x5 ih)
          · refine sm_aload_n cx 1 dX8_addLinks_78 rfl rfl ?_
            refine sm_getR cx fl_X8_18 dX8_addLinks_79 (fun v79 => ?_)
            refine sm_aload cx 0 dX8_addLinks_82 rfl ?_
            refine sm_callV (T := TJx4a65c) (N := 3) (toV := vI) cx [va_rf v46] rfl cv_X8_41 (fun a h => ct_Jx4a65c_add_9ea2d (xZ X) a h v46) (Nat.le_trans (by decide) hfr) (Nat.le_trans (by decide) hlo) rfl (cat_le _ (Nat.le_of_ble_eq_true rfl)) dX8_addLinks_84 (fun v84 => ?_)
            refine sm_pop cx dX8_addLinks_87 rfl ?_
            exact sm_lv [1, 2, 3, 4, 5] rfl (s_X8_addLinks_88 cx hfr hlo hr r0 x2 x3 r4 x5 ih)
def f_X8_addLinks (Z : Nat → Nat) (r0 : Option Nat) (x1 : Int32) (x2 : Int32) (x3 : Int32) : Mo Unit := (if x1 < 0 then f_X8_addLinks_15 Z else mb (gR 11 0 r0) (fun v6 => mb (mo 2 v6 (f_Jx4a65c_size_8abf5 v6)) (fun v9 => (if x1 < v9 then mb (gR 11 0 r0) (fun v17 => mb (mo 2 v17 (f_Jx4a65c_get_915e3 v17 x1)) (fun v21 => mb (ck 9 v21) (fun _ => f_X8_addLinks_32 Z r0 x2 x3 v21 fuL (0 : Int32)))) else f_X8_addLinks_15 Z))))
set_option maxRecDepth 100000 in
set_option maxHeartbeats 4000000 in
theorem s_X8_addLinks {X : Cg} (cx : Cx X cX8_addLinks RX8 7) (hfr : 7 ≤ (xR X).frames) (hlo : 170 ≤ (xR X).locals) (hr : (xM X).sig.returnType = none) (r0 : Option Nat) (x1 : Int32) (x2 : Int32) (x3 : Int32) : Sim X 7 (FiM X vV) 0 [(0, va_rf r0), (1, .int x1), (2, .int x2), (3, .int x3)] [] (f_X8_addLinks (xZ X) r0 x1 x2 x3) := by
  unfold f_X8_addLinks
  refine sm_iload_n cx 1 dX8_addLinks_0 rfl rfl ?_
  refine sm_if_lt (tgt := 15) cx dX8_addLinks_1 (by decide) ?_ ?_
  · exact sm_lv [] rfl (s_X8_addLinks_15 cx hfr hlo hr)
  · refine sm_iload_n cx 1 dX8_addLinks_4 rfl rfl ?_
    refine sm_aload_n cx 0 dX8_addLinks_5 rfl rfl ?_
    refine sm_getR cx fl_X8_12 dX8_addLinks_6 (fun v6 => ?_)
    refine sm_callV (T := TJx4a65c) (N := 3) (toV := vI) cx [] rfl cv_X8_66 (fun a h => ct_Jx4a65c_size_8abf5 (xZ X) a h) (Nat.le_trans (by decide) hfr) (Nat.le_trans (by decide) hlo) rfl (cat_le _ (Nat.le_of_ble_eq_true rfl)) dX8_addLinks_9 (fun v9 => ?_)
    refine sm_icmp_lt (tgt := 16) cx dX8_addLinks_12 (by decide) ?_ ?_
    · refine sm_aload_n cx 0 dX8_addLinks_16 rfl rfl ?_
      refine sm_getR cx fl_X8_12 dX8_addLinks_17 (fun v17 => ?_)
      refine sm_iload_n cx 1 dX8_addLinks_20 rfl rfl ?_
      refine sm_callV (T := TJx4a65c) (N := 3) (toV := vR) cx [.int x1] rfl cv_X8_73 (fun a h => ct_Jx4a65c_get_915e3 (xZ X) a h x1) (Nat.le_trans (by decide) hfr) (Nat.le_trans (by decide) hlo) rfl (cat_le _ (Nat.le_of_ble_eq_true rfl)) dX8_addLinks_21 (fun v21 => ?_)
      refine sm_ck (T := TX6) (N := 4) cx rfl wd_3_83 dX8_addLinks_24 ?_
      refine sm_astore cx [(4, va_rf v21), (0, va_rf r0), (1, .int x1), (2, .int x2), (3, .int x3)] dX8_addLinks_27 (by decide) rfl (nc1 rfl) rfl ?_
      refine sm_iconst (v := 0) cx dX8_addLinks_29 (by decide) ?_
      refine sm_istore cx [(5, .int (0 : Int32)), (4, va_rf v21), (0, va_rf r0), (1, .int x1), (2, .int x2), (3, .int x3)] dX8_addLinks_30 (by decide) rfl (nc1 (rf_cat _)) rfl ?_
      exact sm_lv [2, 4, 5, 1, 0] rfl (s_X8_addLinks_32 cx hfr hlo hr r0 x2 x3 v21 fuL (0 : Int32))
    · exact sm_lv [] rfl (s_X8_addLinks_15 cx hfr hlo hr)
set_option maxRecDepth 100000 in
set_option maxHeartbeats 4000000 in
theorem ct_X8_addLinks (Z : Nat → Nat) {r0 : Option Nat} (a0 : Nat) (h0 : r0 = some a0) (x1 : Int32) (x2 : Int32) (x3 : Int32) : Ct yX8_addLinks cX8_addLinks 7 none 7 170 Z [.ref a0, .int x1, .int x2, .int x3] vV (f_X8_addLinks Z r0 x1 x2 x3) := by
  subst h0
  refine ct_of (lv0 := [(0, va_rf (some a0)), (1, .int x1), (2, .int x2), (3, .int x3)]) (by decide +kernel) (by simp [lg_sl, ct_i, ct_l, ct_r, rf_cat]) (by show _ = ([(0, Value.ref a0), (1, .int x1), (2, .int x2), (3, .int x3)] : List (Nat × Value)); simp [lv_args, ct_i, ct_l, ct_r, rf_cat]) (fun X cx hZ hfr hlo hr hin => ?_)
  subst hZ
  exact s_X8_addLinks cx (Nat.le_of_eq hfr.symm) (Nat.le_of_eq hlo.symm) hr (some a0) x1 x2 x3
/-! PolicyTree$Row.collect(LPolicyTree$Machine;II)V -/
theorem dX8_collect_0 : decode cX8_collect 0 = .ok (.aload_n 0, 1) := by decide +kernel
theorem dX8_collect_1 : decode cX8_collect 1 = .ok (.getfield 12, 3) := by decide +kernel
theorem dX8_collect_4 : decode cX8_collect 4 = .ok (.invokevirtual 32, 3) := by decide +kernel
theorem dX8_collect_7 : decode cX8_collect 7 = .ok (.aload_n 0, 1) := by decide +kernel
theorem dX8_collect_8 : decode cX8_collect 8 = .ok (.getfield 18, 3) := by decide +kernel
theorem dX8_collect_11 : decode cX8_collect 11 = .ok (.invokevirtual 32, 3) := by decide +kernel
theorem dX8_collect_14 : decode cX8_collect 14 = .ok (.lconst 0, 1) := by decide +kernel
theorem dX8_collect_15 : decode cX8_collect 15 = .ok (.lstore 4, 2) := by decide +kernel
theorem dX8_collect_17 : decode cX8_collect 17 = .ok (.aload_n 1, 1) := by decide +kernel
theorem dX8_collect_18 : decode cX8_collect 18 = .ok (.getfield 35, 3) := by decide +kernel
theorem dX8_collect_21 : decode cX8_collect 21 = .ok (.astore 6, 2) := by decide +kernel
theorem dX8_collect_23 : decode cX8_collect 23 = .ok (.aload 6, 2) := by decide +kernel
theorem dX8_collect_25 : decode cX8_collect 25 = .ok (.ifnull 35, 3) := by decide +kernel
theorem dX8_collect_28 : decode cX8_collect 28 = .ok (.aload_n 0, 1) := by decide +kernel
theorem dX8_collect_29 : decode cX8_collect 29 = .ok (.getfield 12, 3) := by decide +kernel
theorem dX8_collect_32 : decode cX8_collect 32 = .ok (.aload 6, 2) := by decide +kernel
theorem dX8_collect_34 : decode cX8_collect 34 = .ok (.invokevirtual 41, 3) := by decide +kernel
theorem dX8_collect_37 : decode cX8_collect 37 = .ok (.pop, 1) := by decide +kernel
theorem dX8_collect_38 : decode cX8_collect 38 = .ok (.lload 4, 2) := by decide +kernel
theorem dX8_collect_40 : decode cX8_collect 40 = .ok (.lconst 1, 1) := by decide +kernel
theorem dX8_collect_41 : decode cX8_collect 41 = .ok (.aload 6, 2) := by decide +kernel
theorem dX8_collect_43 : decode cX8_collect 43 = .ok (.getfield 45, 3) := by decide +kernel
theorem dX8_collect_46 : decode cX8_collect 46 = .ok (.lshl, 1) := by decide +kernel
theorem dX8_collect_47 : decode cX8_collect 47 = .ok (.lor, 1) := by decide +kernel
theorem dX8_collect_48 : decode cX8_collect 48 = .ok (.lstore 4, 2) := by decide +kernel
theorem dX8_collect_50 : decode cX8_collect 50 = .ok (.aload 6, 2) := by decide +kernel
theorem dX8_collect_52 : decode cX8_collect 52 = .ok (.getfield 51, 3) := by decide +kernel
theorem dX8_collect_55 : decode cX8_collect 55 = .ok (.astore 6, 2) := by decide +kernel
theorem dX8_collect_57 : decode cX8_collect 57 = .ok (.goto (-34), 3) := by decide +kernel
theorem dX8_collect_60 : decode cX8_collect 60 = .ok (.aload_n 0, 1) := by decide +kernel
theorem dX8_collect_61 : decode cX8_collect 61 = .ok (.getfield 28, 3) := by decide +kernel
theorem dX8_collect_64 : decode cX8_collect 64 = .ok (.aload_n 1, 1) := by decide +kernel
theorem dX8_collect_65 : decode cX8_collect 65 = .ok (.iload_n 2, 1) := by decide +kernel
theorem dX8_collect_66 : decode cX8_collect 66 = .ok (.lload 4, 2) := by decide +kernel
theorem dX8_collect_68 : decode cX8_collect 68 = .ok (.invokevirtual 54, 3) := by decide +kernel
theorem dX8_collect_71 : decode cX8_collect 71 = .ok (.aload_n 0, 1) := by decide +kernel
theorem dX8_collect_72 : decode cX8_collect 72 = .ok (.invokevirtual 58, 3) := by decide +kernel
theorem dX8_collect_75 : decode cX8_collect 75 = .ok (.istore 6, 2) := by decide +kernel
theorem dX8_collect_77 : decode cX8_collect 77 = .ok (.iload 6, 2) := by decide +kernel
theorem dX8_collect_79 : decode cX8_collect 79 = .ok (.ifCond .lt 17, 3) := by decide +kernel
theorem dX8_collect_82 : decode cX8_collect 82 = .ok (.aload_n 0, 1) := by decide +kernel
theorem dX8_collect_83 : decode cX8_collect 83 = .ok (.iload 6, 2) := by decide +kernel
theorem dX8_collect_85 : decode cX8_collect 85 = .ok (.iconst 0, 1) := by decide +kernel
theorem dX8_collect_86 : decode cX8_collect 86 = .ok (.iload_n 3, 1) := by decide +kernel
theorem dX8_collect_87 : decode cX8_collect 87 = .ok (.invokevirtual 62, 3) := by decide +kernel
theorem dX8_collect_90 : decode cX8_collect 90 = .ok (.iinc 6 (-1), 3) := by decide +kernel
theorem dX8_collect_93 : decode cX8_collect 93 = .ok (.goto (-16), 3) := by decide +kernel
theorem dX8_collect_96 : decode cX8_collect 96 = .ok (.iconst 0, 1) := by decide +kernel
theorem dX8_collect_97 : decode cX8_collect 97 = .ok (.istore 6, 2) := by decide +kernel
theorem dX8_collect_99 : decode cX8_collect 99 = .ok (.iload 6, 2) := by decide +kernel
theorem dX8_collect_101 : decode cX8_collect 101 = .ok (.aload_n 0, 1) := by decide +kernel
theorem dX8_collect_102 : decode cX8_collect 102 = .ok (.getfield 12, 3) := by decide +kernel
theorem dX8_collect_105 : decode cX8_collect 105 = .ok (.invokevirtual 66, 3) := by decide +kernel
theorem dX8_collect_108 : decode cX8_collect 108 = .ok (.if_icmp .ge 17, 3) := by decide +kernel
theorem dX8_collect_111 : decode cX8_collect 111 = .ok (.aload_n 0, 1) := by decide +kernel
theorem dX8_collect_112 : decode cX8_collect 112 = .ok (.iload 6, 2) := by decide +kernel
theorem dX8_collect_114 : decode cX8_collect 114 = .ok (.iconst 1, 1) := by decide +kernel
theorem dX8_collect_115 : decode cX8_collect 115 = .ok (.iload_n 3, 1) := by decide +kernel
theorem dX8_collect_116 : decode cX8_collect 116 = .ok (.invokevirtual 62, 3) := by decide +kernel
theorem dX8_collect_119 : decode cX8_collect 119 = .ok (.iinc 6 1, 3) := by decide +kernel
theorem dX8_collect_122 : decode cX8_collect 122 = .ok (.goto (-23), 3) := by decide +kernel
theorem dX8_collect_125 : decode cX8_collect 125 = .ok (.return_, 1) := by decide +kernel
def f_X8_collect_99 (Z : Nat → Nat) (r0 : Option Nat) (x3 : Int32) : Nat → Int32 → Mo Unit
  | 0, _ => mf
  | n + 1, x6 => mb (gR 11 0 r0) (fun v102 => mb (mo 2 v102 (f_Jx4a65c_size_8abf5 v102)) (fun v105 => (if v105 ≤ x6 then mp () else mb (mo 11 r0 (f_X8_addLinks Z r0 x6 (1 : Int32) x3)) (fun _ => (f_X8_collect_99 Z r0 x3 n) (x6 + 1)))))
set_option maxRecDepth 100000 in
set_option maxHeartbeats 4000000 in
theorem s_X8_collect_99 {X : Cg} (cx : Cx X cX8_collect RX8 7) (hfr : 8 ≤ (xR X).frames) (hlo : 196 ≤ (xR X).locals) (hr : (xM X).sig.returnType = none) (r0 : Option Nat) (x3 : Int32) : ∀ (n : Nat) (x6 : Int32), Sim X 7 (FiM X vV) 99 [(0, va_rf r0), (3, .int x3), (6, .int x6)] [] (f_X8_collect_99 (xZ X) r0 x3 n x6) := by
  intro n
  induction n with
  | zero =>
    intro _
    exact sm_mf
  | succ n ih =>
    intro x6
    rw [f_X8_collect_99]
    refine sm_iload cx 2 dX8_collect_99 rfl ?_
    refine sm_aload_n cx 0 dX8_collect_101 rfl rfl ?_
    refine sm_getR cx fl_X8_12 dX8_collect_102 (fun v102 => ?_)
    refine sm_callV (T := TJx4a65c) (N := 3) (toV := vI) cx [] rfl cv_X8_66 (fun a h => ct_Jx4a65c_size_8abf5 (xZ X) a h) (Nat.le_trans (by decide) hfr) (Nat.le_trans (by decide) hlo) rfl (cat_le _ (Nat.le_of_ble_eq_true rfl)) dX8_collect_105 (fun v105 => ?_)
    refine sm_icmp_ge (tgt := 125) cx dX8_collect_108 (by decide) ?_ ?_
    · exact sm_vret cx hr dX8_collect_125
    · refine sm_aload_n cx 0 dX8_collect_111 rfl rfl ?_
      refine sm_iload cx 2 dX8_collect_112 rfl ?_
      refine sm_iconst (v := 1) cx dX8_collect_114 (by decide) ?_
      refine sm_iload_n cx 1 dX8_collect_115 rfl rfl ?_
      refine sm_callV (T := TX8) (N := 4) (toV := vV) cx [.int x6, .int (1 : Int32), .int x3] rfl cv_X8_62 (fun a h => ct_X8_addLinks (xZ X) a h x6 (1 : Int32) x3) (Nat.le_trans (by decide) hfr) (Nat.le_trans (by decide) hlo) rfl (cat_le _ (Nat.le_of_ble_eq_true rfl)) dX8_collect_116 (fun _ => ?_)
      refine sm_iinc cx 2 [(6, .int (x6 + 1)), (0, va_rf r0), (3, .int x3)] dX8_collect_119 rfl rfl (by decide) rfl nc0 rfl ?_
      refine sm_goto (tgt := 99) cx dX8_collect_122 (by decide) ?_
      exact sm_lv [1, 2, 0] rfl (ih (x6 + 1))
def f_X8_collect_77 (Z : Nat → Nat) (r0 : Option Nat) (x3 : Int32) : Nat → Int32 → Mo Unit
  | 0, _ => mf
  | n + 1, x6 => (if x6 < 0 then f_X8_collect_99 Z r0 x3 fuL (0 : Int32) else mb (mo 11 r0 (f_X8_addLinks Z r0 x6 (0 : Int32) x3)) (fun _ => (f_X8_collect_77 Z r0 x3 n) (x6 + (-1))))
set_option maxRecDepth 100000 in
set_option maxHeartbeats 4000000 in
theorem s_X8_collect_77 {X : Cg} (cx : Cx X cX8_collect RX8 7) (hfr : 8 ≤ (xR X).frames) (hlo : 196 ≤ (xR X).locals) (hr : (xM X).sig.returnType = none) (r0 : Option Nat) (x3 : Int32) : ∀ (n : Nat) (x6 : Int32), Sim X 7 (FiM X vV) 77 [(0, va_rf r0), (3, .int x3), (6, .int x6)] [] (f_X8_collect_77 (xZ X) r0 x3 n x6) := by
  intro n
  induction n with
  | zero =>
    intro _
    exact sm_mf
  | succ n ih =>
    intro x6
    rw [f_X8_collect_77]
    refine sm_iload cx 2 dX8_collect_77 rfl ?_
    refine sm_if_lt (tgt := 96) cx dX8_collect_79 (by decide) ?_ ?_
    · refine sm_iconst (v := 0) cx dX8_collect_96 (by decide) ?_
      refine sm_istore cx [(6, .int (0 : Int32)), (0, va_rf r0), (3, .int x3)] dX8_collect_97 (by decide) rfl nc0 rfl ?_
      exact sm_lv [1, 2, 0] rfl (s_X8_collect_99 cx hfr hlo hr r0 x3 fuL (0 : Int32))
    · refine sm_aload_n cx 0 dX8_collect_82 rfl rfl ?_
      refine sm_iload cx 2 dX8_collect_83 rfl ?_
      refine sm_iconst (v := 0) cx dX8_collect_85 (by decide) ?_
      refine sm_iload_n cx 1 dX8_collect_86 rfl rfl ?_
      refine sm_callV (T := TX8) (N := 4) (toV := vV) cx [.int x6, .int (0 : Int32), .int x3] rfl cv_X8_62 (fun a h => ct_X8_addLinks (xZ X) a h x6 (0 : Int32) x3) (Nat.le_trans (by decide) hfr) (Nat.le_trans (by decide) hlo) rfl (cat_le _ (Nat.le_of_ble_eq_true rfl)) dX8_collect_87 (fun _ => ?_)
      refine sm_iinc cx 2 [(6, .int (x6 + (-1))), (0, va_rf r0), (3, .int x3)] dX8_collect_90 rfl rfl (by decide) rfl nc0 rfl ?_
      refine sm_goto (tgt := 77) cx dX8_collect_93 (by decide) ?_
      exact sm_lv [1, 2, 0] rfl (ih (x6 + (-1)))
def f_X8_collect_23 (Z : Nat → Nat) (r0 : Option Nat) (r1 : Option Nat) (x2 : Int32) (x3 : Int32) : Nat → Int64 → Option Nat → Mo Unit
  | 0, _, _ => mf
  | n + 1, l4, r6 => (if r6 = none then mb (gR 11 3 r0) (fun v61 => mb (mo 12 v61 (f_X9_enter v61 r1 x2 l4)) (fun _ => mb (mo 11 r0 (f_X8_topOfOpen r0)) (fun v72 => f_X8_collect_77 Z r0 x3 fuL v72))) else mb (gR 11 0 r0) (fun v29 => mb (mo 2 v29 (f_Jx4a65c_add_9ea2d Z v29 r6)) (fun v34 => mb (gI 9 0 r6) (fun v43 => mb (gR 9 1 r6) (fun v52 => (f_X8_collect_23 Z r0 r1 x2 x3 n) (l4 ||| (jLL (1 : Int64) v43)) v52)))))
set_option maxRecDepth 100000 in
set_option maxHeartbeats 4000000 in
theorem s_X8_collect_23 {X : Cg} (cx : Cx X cX8_collect RX8 7) (hfr : 8 ≤ (xR X).frames) (hlo : 196 ≤ (xR X).locals) (hr : (xM X).sig.returnType = none) (r0 : Option Nat) (r1 : Option Nat) (x2 : Int32) (x3 : Int32) : ∀ (n : Nat) (l4 : Int64) (r6 : Option Nat), Sim X 7 (FiM X vV) 23 [(0, va_rf r0), (1, va_rf r1), (2, .int x2), (3, .int x3), (4, .long l4), (6, va_rf r6)] [] (f_X8_collect_23 (xZ X) r0 r1 x2 x3 n l4 r6) := by
  intro n
  induction n with
  | zero =>
    intro _ _
    exact sm_mf
  | succ n ih =>
    intro l4 r6
    rw [f_X8_collect_23]
    refine sm_aload cx 5 dX8_collect_23 rfl ?_
    refine sm_ifnull (tgt := 60) cx dX8_collect_25 (by decide) ?_ ?_
    · refine sm_aload_n cx 0 dX8_collect_60 rfl rfl ?_
      refine sm_getR cx fl_X8_28 dX8_collect_61 (fun v61 => ?_)
      refine sm_aload_n cx 1 dX8_collect_64 rfl rfl ?_
      refine sm_iload_n cx 2 dX8_collect_65 rfl rfl ?_
      refine sm_lload cx 4 dX8_collect_66 rfl ?_
      refine sm_callV (T := TX9) (N := 6) (toV := vV) cx [va_rf r1, .int x2, .long l4] rfl cv_X8_54 (fun a h => ct_X9_enter (xZ X) a h r1 x2 l4) (Nat.le_trans (by decide) hfr) (Nat.le_trans (by decide) hlo) rfl (cat_le _ (Nat.le_of_ble_eq_true rfl)) dX8_collect_68 (fun _ => ?_)
      refine sm_aload_n cx 0 dX8_collect_71 rfl rfl ?_
      refine sm_callV (T := TX8) (N := 4) (toV := vI) cx [] rfl cv_X8_58 (fun a h => ct_X8_topOfOpen (xZ X) a h) (Nat.le_trans (by decide) hfr) (Nat.le_trans (by decide) hlo) rfl (cat_le _ (Nat.le_of_ble_eq_true rfl)) dX8_collect_72 (fun v72 => ?_)
      refine sm_istore cx [(6, .int v72), (0, va_rf r0), (1, va_rf r1), (2, .int x2), (3, .int x3), (4, .long l4)] dX8_collect_75 (by decide) rfl nc0 rfl ?_
      exact sm_lv [1, 4, 0] rfl (s_X8_collect_77 cx hfr hlo hr r0 x3 fuL v72)
    · refine sm_aload_n cx 0 dX8_collect_28 rfl rfl ?_
      refine sm_getR cx fl_X8_12 dX8_collect_29 (fun v29 => ?_)
      refine sm_aload cx 5 dX8_collect_32 rfl ?_
      refine sm_callV (T := TJx4a65c) (N := 3) (toV := vI) cx [va_rf r6] rfl cv_X8_41 (fun a h => ct_Jx4a65c_add_9ea2d (xZ X) a h r6) (Nat.le_trans (by decide) hfr) (Nat.le_trans (by decide) hlo) rfl (cat_le _ (Nat.le_of_ble_eq_true rfl)) dX8_collect_34 (fun v34 => ?_)
      refine sm_pop cx dX8_collect_37 rfl ?_
      refine sm_lload cx 4 dX8_collect_38 rfl ?_
      refine sm_lconst (v := 1) cx dX8_collect_40 (by decide) ?_
      refine sm_aload cx 5 dX8_collect_41 rfl ?_
      refine sm_getI cx fl_X8_45 dX8_collect_43 (fun v43 => ?_)
      refine sm_lshl cx dX8_collect_46 ?_
      refine sm_lor cx dX8_collect_47 ?_
      refine sm_lstore cx [(4, .long (l4 ||| (jLL (1 : Int64) v43))), (0, va_rf r0), (1, va_rf r1), (2, .int x2), (3, .int x3), (6, va_rf r6)] dX8_collect_48 (by decide) rfl (nc1 rfl) rfl ?_
      refine sm_aload cx 5 dX8_collect_50 rfl ?_
      refine sm_getR cx fl_X8_51 dX8_collect_52 (fun v52 => ?_)
      refine sm_astore cx [(6, va_rf v52), (4, .long (l4 ||| (jLL (1 : Int64) v43))), (0, va_rf r0), (1, va_rf r1), (2, .int x2), (3, .int x3)] dX8_collect_55 (by decide) rfl nc0 rfl ?_
      refine sm_goto (tgt := 23) cx dX8_collect_57 (by decide) ?_
      exact sm_lv [2, 3, 4, 5, 1, 0] rfl (ih (l4 ||| (jLL (1 : Int64) v43)) v52)
def f_X8_collect (Z : Nat → Nat) (r0 : Option Nat) (r1 : Option Nat) (x2 : Int32) (x3 : Int32) : Mo Unit := mb (gR 11 0 r0) (fun v1 => mb (mo 2 v1 (f_Jx4a65c_clear_da8c8 v1)) (fun _ => mb (gR 11 1 r0) (fun v8 => mb (mo 2 v8 (f_Jx4a65c_clear_da8c8 v8)) (fun _ => mb (gR 8 0 r1) (fun v18 => f_X8_collect_23 Z r0 r1 x2 x3 fuL (0 : Int64) v18)))))
set_option maxRecDepth 100000 in
set_option maxHeartbeats 4000000 in
theorem s_X8_collect {X : Cg} (cx : Cx X cX8_collect RX8 7) (hfr : 8 ≤ (xR X).frames) (hlo : 196 ≤ (xR X).locals) (hr : (xM X).sig.returnType = none) (r0 : Option Nat) (r1 : Option Nat) (x2 : Int32) (x3 : Int32) : Sim X 7 (FiM X vV) 0 [(0, va_rf r0), (1, va_rf r1), (2, .int x2), (3, .int x3)] [] (f_X8_collect (xZ X) r0 r1 x2 x3) := by
  unfold f_X8_collect
  refine sm_aload_n cx 0 dX8_collect_0 rfl rfl ?_
  refine sm_getR cx fl_X8_12 dX8_collect_1 (fun v1 => ?_)
  refine sm_callV (T := TJx4a65c) (N := 3) (toV := vV) cx [] rfl cv_X8_32 (fun a h => ct_Jx4a65c_clear_da8c8 (xZ X) a h) (Nat.le_trans (by decide) hfr) (Nat.le_trans (by decide) hlo) rfl (cat_le _ (Nat.le_of_ble_eq_true rfl)) dX8_collect_4 (fun _ => ?_)
  refine sm_aload_n cx 0 dX8_collect_7 rfl rfl ?_
  refine sm_getR cx fl_X8_18 dX8_collect_8 (fun v8 => ?_)
  refine sm_callV (T := TJx4a65c) (N := 3) (toV := vV) cx [] rfl cv_X8_32 (fun a h => ct_Jx4a65c_clear_da8c8 (xZ X) a h) (Nat.le_trans (by decide) hfr) (Nat.le_trans (by decide) hlo) rfl (cat_le _ (Nat.le_of_ble_eq_true rfl)) dX8_collect_11 (fun _ => ?_)
  refine sm_lconst (v := 0) cx dX8_collect_14 (by decide) ?_
  refine sm_lstore cx [(4, .long (0 : Int64)), (0, va_rf r0), (1, va_rf r1), (2, .int x2), (3, .int x3)] dX8_collect_15 (by decide) rfl (nc1 rfl) rfl ?_
  refine sm_aload_n cx 2 dX8_collect_17 rfl rfl ?_
  refine sm_getR cx fl_X8_35 dX8_collect_18 (fun v18 => ?_)
  refine sm_astore cx [(6, va_rf v18), (4, .long (0 : Int64)), (0, va_rf r0), (1, va_rf r1), (2, .int x2), (3, .int x3)] dX8_collect_21 (by decide) rfl nc0 rfl ?_
  exact sm_lv [2, 3, 4, 5, 1, 0] rfl (s_X8_collect_23 cx hfr hlo hr r0 r1 x2 x3 fuL (0 : Int64) v18)
set_option maxRecDepth 100000 in
set_option maxHeartbeats 4000000 in
theorem ct_X8_collect (Z : Nat → Nat) {r0 : Option Nat} (a0 : Nat) (h0 : r0 = some a0) (r1 : Option Nat) (x2 : Int32) (x3 : Int32) : Ct yX8_collect cX8_collect 7 none 8 196 Z [.ref a0, va_rf r1, .int x2, .int x3] vV (f_X8_collect Z r0 r1 x2 x3) := by
  subst h0
  refine ct_of (lv0 := [(0, va_rf (some a0)), (1, va_rf r1), (2, .int x2), (3, .int x3)]) (by decide +kernel) (by simp [lg_sl, ct_i, ct_l, ct_r, rf_cat]) (by show _ = ([(0, Value.ref a0), (1, va_rf r1), (2, .int x2), (3, .int x3)] : List (Nat × Value)); simp [lv_args, ct_i, ct_l, ct_r, rf_cat]) (fun X cx hZ hfr hlo hr hin => ?_)
  subst hZ
  exact s_X8_collect cx (Nat.le_of_eq hfr.symm) (Nat.le_of_eq hlo.symm) hr (some a0) r1 x2 x3
/-! PolicyTree$Row.weigh(I)V -/
theorem dX8_weigh_0 : decode cX8_weigh 0 = .ok (.aload_n 0, 1) := by decide +kernel
theorem dX8_weigh_1 : decode cX8_weigh 1 = .ok (.getfield 28, 3) := by decide +kernel
theorem dX8_weigh_4 : decode cX8_weigh 4 = .ok (.iload_n 1, 1) := by decide +kernel
theorem dX8_weigh_5 : decode cX8_weigh 5 = .ok (.invokevirtual 69, 3) := by decide +kernel
theorem dX8_weigh_8 : decode cX8_weigh 8 = .ok (.iconst 0, 1) := by decide +kernel
theorem dX8_weigh_9 : decode cX8_weigh 9 = .ok (.istore_n 2, 1) := by decide +kernel
theorem dX8_weigh_10 : decode cX8_weigh 10 = .ok (.iload_n 2, 1) := by decide +kernel
theorem dX8_weigh_11 : decode cX8_weigh 11 = .ok (.aload_n 0, 1) := by decide +kernel
theorem dX8_weigh_12 : decode cX8_weigh 12 = .ok (.getfield 18, 3) := by decide +kernel
theorem dX8_weigh_15 : decode cX8_weigh 15 = .ok (.invokevirtual 66, 3) := by decide +kernel
theorem dX8_weigh_18 : decode cX8_weigh 18 = .ok (.if_icmp .ge 45, 3) := by decide +kernel
theorem dX8_weigh_21 : decode cX8_weigh 21 = .ok (.iload_n 2, 1) := by decide +kernel
theorem dX8_weigh_22 : decode cX8_weigh 22 = .ok (.aload_n 0, 1) := by decide +kernel
theorem dX8_weigh_23 : decode cX8_weigh 23 = .ok (.getfield 21, 3) := by decide +kernel
theorem dX8_weigh_26 : decode cX8_weigh 26 = .ok (.arraylength, 1) := by decide +kernel
theorem dX8_weigh_27 : decode cX8_weigh 27 = .ok (.if_icmp .ge 36, 3) := by decide +kernel
theorem dX8_weigh_30 : decode cX8_weigh 30 = .ok (.aload_n 0, 1) := by decide +kernel
theorem dX8_weigh_31 : decode cX8_weigh 31 = .ok (.getfield 21, 3) := by decide +kernel
theorem dX8_weigh_34 : decode cX8_weigh 34 = .ok (.iload_n 2, 1) := by decide +kernel
theorem dX8_weigh_35 : decode cX8_weigh 35 = .ok (.aload_n 0, 1) := by decide +kernel
theorem dX8_weigh_36 : decode cX8_weigh 36 = .ok (.getfield 18, 3) := by decide +kernel
theorem dX8_weigh_39 : decode cX8_weigh 39 = .ok (.iload_n 2, 1) := by decide +kernel
theorem dX8_weigh_40 : decode cX8_weigh 40 = .ok (.invokevirtual 73, 3) := by decide +kernel
theorem dX8_weigh_43 : decode cX8_weigh 43 = .ok (.checkcast 77, 3) := by decide +kernel
theorem dX8_weigh_46 : decode cX8_weigh 46 = .ok (.getfield 79, 3) := by decide +kernel
theorem dX8_weigh_49 : decode cX8_weigh 49 = .ok (.aload_n 0, 1) := by decide +kernel
theorem dX8_weigh_50 : decode cX8_weigh 50 = .ok (.getfield 28, 3) := by decide +kernel
theorem dX8_weigh_53 : decode cX8_weigh 53 = .ok (.invokevirtual 83, 3) := by decide +kernel
theorem dX8_weigh_56 : decode cX8_weigh 56 = .ok (.lastore, 1) := by decide +kernel
theorem dX8_weigh_57 : decode cX8_weigh 57 = .ok (.iinc 2 1, 3) := by decide +kernel
theorem dX8_weigh_60 : decode cX8_weigh 60 = .ok (.goto (-50), 3) := by decide +kernel
theorem dX8_weigh_63 : decode cX8_weigh 63 = .ok (.return_, 1) := by decide +kernel
def f_X8_weigh_63 (Z : Nat → Nat) : Mo Unit := mp ()
set_option maxRecDepth 100000 in
set_option maxHeartbeats 4000000 in
theorem s_X8_weigh_63 {X : Cg} (cx : Cx X cX8_weigh RX8 3) (hfr : 3 ≤ (xR X).frames) (hlo : 69 ≤ (xR X).locals) (hr : (xM X).sig.returnType = none) : Sim X 3 (FiM X vV) 63 [] [] (f_X8_weigh_63 (xZ X)) := by
  unfold f_X8_weigh_63
  exact sm_vret cx hr dX8_weigh_63
def f_X8_weigh_10 (Z : Nat → Nat) (r0 : Option Nat) : Nat → Int32 → Mo Unit
  | 0, _ => mf
  | n + 1, x2 => mb (gR 11 1 r0) (fun v12 => mb (mo 2 v12 (f_Jx4a65c_size_8abf5 v12)) (fun v15 => (if v15 ≤ x2 then f_X8_weigh_63 Z else mb (gR 11 2 r0) (fun v23 => mb (aN 2 v23) (fun v26 => (if v26 ≤ x2 then f_X8_weigh_63 Z else mb (gR 11 2 r0) (fun v31 => mb (gR 11 1 r0) (fun v36 => mb (mo 2 v36 (f_Jx4a65c_get_915e3 v36 x2)) (fun v40 => mb (ck 7 v40) (fun _ => mb (gR 7 5 v40) (fun v46 => mb (gR 11 3 r0) (fun v50 => mb (mo 4 v46 (f_X1_weigh v46 v50)) (fun v53 => mb (sL v31 x2 v53) (fun _ => (f_X8_weigh_10 Z r0 n) (x2 + 1)))))))))))))))
set_option maxRecDepth 100000 in
set_option maxHeartbeats 4000000 in
theorem s_X8_weigh_10 {X : Cg} (cx : Cx X cX8_weigh RX8 3) (hfr : 3 ≤ (xR X).frames) (hlo : 69 ≤ (xR X).locals) (hr : (xM X).sig.returnType = none) (r0 : Option Nat) : ∀ (n : Nat) (x2 : Int32), Sim X 3 (FiM X vV) 10 [(0, va_rf r0), (2, .int x2)] [] (f_X8_weigh_10 (xZ X) r0 n x2) := by
  intro n
  induction n with
  | zero =>
    intro _
    exact sm_mf
  | succ n ih =>
    intro x2
    rw [f_X8_weigh_10]
    refine sm_iload_n cx 1 dX8_weigh_10 rfl rfl ?_
    refine sm_aload_n cx 0 dX8_weigh_11 rfl rfl ?_
    refine sm_getR cx fl_X8_18 dX8_weigh_12 (fun v12 => ?_)
    refine sm_callV (T := TJx4a65c) (N := 3) (toV := vI) cx [] rfl cv_X8_66 (fun a h => ct_Jx4a65c_size_8abf5 (xZ X) a h) (Nat.le_trans (by decide) hfr) (Nat.le_trans (by decide) hlo) rfl (cat_le _ (Nat.le_of_ble_eq_true rfl)) dX8_weigh_15 (fun v15 => ?_)
    refine sm_icmp_ge (tgt := 63) cx dX8_weigh_18 (by decide) ?_ ?_
    · exact sm_lv [] rfl (s_X8_weigh_63 cx hfr hlo hr)
    · refine sm_iload_n cx 1 dX8_weigh_21 rfl rfl ?_
      refine sm_aload_n cx 0 dX8_weigh_22 rfl rfl ?_
      refine sm_getR cx fl_X8_21 dX8_weigh_23 (fun v23 => ?_)
      refine sm_alen cx 2 (by decide) dX8_weigh_26 (fun v26 => ?_)
      refine sm_icmp_ge (tgt := 63) cx dX8_weigh_27 (by decide) ?_ ?_
      · exact sm_lv [] rfl (s_X8_weigh_63 cx hfr hlo hr)
      · refine sm_aload_n cx 0 dX8_weigh_30 rfl rfl ?_
        refine sm_getR cx fl_X8_21 dX8_weigh_31 (fun v31 => ?_)
        refine sm_iload_n cx 1 dX8_weigh_34 rfl rfl ?_
        refine sm_aload_n cx 0 dX8_weigh_35 rfl rfl ?_
        refine sm_getR cx fl_X8_18 dX8_weigh_36 (fun v36 => ?_)
        refine sm_iload_n cx 1 dX8_weigh_39 rfl rfl ?_
        refine sm_callV (T := TJx4a65c) (N := 3) (toV := vR) cx [.int x2] rfl cv_X8_73 (fun a h => ct_Jx4a65c_get_915e3 (xZ X) a h x2) (Nat.le_trans (by decide) hfr) (Nat.le_trans (by decide) hlo) rfl (cat_le _ (Nat.le_of_ble_eq_true rfl)) dX8_weigh_40 (fun v40 => ?_)
        refine sm_ck (T := TX4) (N := 7) cx rfl wd_3_117 dX8_weigh_43 ?_
        refine sm_getR cx fl_X8_79 dX8_weigh_46 (fun v46 => ?_)
        refine sm_aload_n cx 0 dX8_weigh_49 rfl rfl ?_
        refine sm_getR cx fl_X8_28 dX8_weigh_50 (fun v50 => ?_)
        refine sm_callV (T := TX1) (N := 1) (toV := vL) cx [va_rf v50] rfl cv_X8_83 (fun a h => ct_X1_weigh (xZ X) a h v50) (Nat.le_trans (by decide) hfr) (Nat.le_trans (by decide) hlo) rfl (cat_le _ (Nat.le_of_ble_eq_true rfl)) dX8_weigh_53 (fun v53 => ?_)
        refine sm_last cx dX8_weigh_56 ?_
        refine sm_iinc cx 1 [(2, .int (x2 + 1)), (0, va_rf r0)] dX8_weigh_57 rfl rfl (by decide) rfl nc0 rfl ?_
        refine sm_goto (tgt := 10) cx dX8_weigh_60 (by decide) ?_
        exact sm_lv [1, 0] rfl (ih (x2 + 1))
def f_X8_weigh (Z : Nat → Nat) (r0 : Option Nat) (x1 : Int32) : Mo Unit := mb (gR 11 3 r0) (fun v1 => mb (mo 12 v1 (f_X9_guess Z v1 x1)) (fun _ => f_X8_weigh_10 Z r0 fuL (0 : Int32)))
set_option maxRecDepth 100000 in
set_option maxHeartbeats 4000000 in
theorem s_X8_weigh {X : Cg} (cx : Cx X cX8_weigh RX8 3) (hfr : 3 ≤ (xR X).frames) (hlo : 69 ≤ (xR X).locals) (hr : (xM X).sig.returnType = none) (r0 : Option Nat) (x1 : Int32) : Sim X 3 (FiM X vV) 0 [(0, va_rf r0), (1, .int x1)] [] (f_X8_weigh (xZ X) r0 x1) := by
  unfold f_X8_weigh
  refine sm_aload_n cx 0 dX8_weigh_0 rfl rfl ?_
  refine sm_getR cx fl_X8_28 dX8_weigh_1 (fun v1 => ?_)
  refine sm_iload_n cx 1 dX8_weigh_4 rfl rfl ?_
  refine sm_callV (T := TX9) (N := 6) (toV := vV) cx [.int x1] rfl cv_X8_69 (fun a h => ct_X9_guess (xZ X) a h x1) (Nat.le_trans (by decide) hfr) (Nat.le_trans (by decide) hlo) rfl (cat_le _ (Nat.le_of_ble_eq_true rfl)) dX8_weigh_5 (fun _ => ?_)
  refine sm_iconst (v := 0) cx dX8_weigh_8 (by decide) ?_
  refine sm_istore_n cx [(2, .int (0 : Int32)), (0, va_rf r0), (1, .int x1)] dX8_weigh_9 rfl (by decide) rfl (nc1 rfl) rfl ?_
  exact sm_lv [1, 0] rfl (s_X8_weigh_10 cx hfr hlo hr r0 fuL (0 : Int32))
set_option maxRecDepth 100000 in
set_option maxHeartbeats 4000000 in
theorem ct_X8_weigh (Z : Nat → Nat) {r0 : Option Nat} (a0 : Nat) (h0 : r0 = some a0) (x1 : Int32) : Ct yX8_weigh cX8_weigh 3 none 3 69 Z [.ref a0, .int x1] vV (f_X8_weigh Z r0 x1) := by
  subst h0
  refine ct_of (lv0 := [(0, va_rf (some a0)), (1, .int x1)]) (by decide +kernel) (by simp [lg_sl, ct_i, ct_l, ct_r, rf_cat]) (by show _ = ([(0, Value.ref a0), (1, .int x1)] : List (Nat × Value)); simp [lv_args, ct_i, ct_l, ct_r, rf_cat]) (fun X cx hZ hfr hlo hr hin => ?_)
  subst hZ
  exact s_X8_weigh cx (Nat.le_of_eq hfr.symm) (Nat.le_of_eq hlo.symm) hr (some a0) x1
/-! PolicyTree$Row.doubtedFacts()I -/
theorem dX8_doubtedFacts_0 : decode cX8_doubtedFacts 0 = .ok (.iconst 0, 1) := by decide +kernel
theorem dX8_doubtedFacts_1 : decode cX8_doubtedFacts 1 = .ok (.istore_n 1, 1) := by decide +kernel
theorem dX8_doubtedFacts_2 : decode cX8_doubtedFacts 2 = .ok (.iconst 0, 1) := by decide +kernel
theorem dX8_doubtedFacts_3 : decode cX8_doubtedFacts 3 = .ok (.istore_n 2, 1) := by decide +kernel
theorem dX8_doubtedFacts_4 : decode cX8_doubtedFacts 4 = .ok (.iload_n 2, 1) := by decide +kernel
theorem dX8_doubtedFacts_5 : decode cX8_doubtedFacts 5 = .ok (.aload_n 0, 1) := by decide +kernel
theorem dX8_doubtedFacts_6 : decode cX8_doubtedFacts 6 = .ok (.getfield 18, 3) := by decide +kernel
theorem dX8_doubtedFacts_9 : decode cX8_doubtedFacts 9 = .ok (.invokevirtual 66, 3) := by decide +kernel
theorem dX8_doubtedFacts_12 : decode cX8_doubtedFacts 12 = .ok (.if_icmp .ge 29, 3) := by decide +kernel
theorem dX8_doubtedFacts_15 : decode cX8_doubtedFacts 15 = .ok (.iload_n 1, 1) := by decide +kernel
theorem dX8_doubtedFacts_16 : decode cX8_doubtedFacts 16 = .ok (.aload_n 0, 1) := by decide +kernel
theorem dX8_doubtedFacts_17 : decode cX8_doubtedFacts 17 = .ok (.getfield 18, 3) := by decide +kernel
theorem dX8_doubtedFacts_20 : decode cX8_doubtedFacts 20 = .ok (.iload_n 2, 1) := by decide +kernel
theorem dX8_doubtedFacts_21 : decode cX8_doubtedFacts 21 = .ok (.invokevirtual 73, 3) := by decide +kernel
theorem dX8_doubtedFacts_24 : decode cX8_doubtedFacts 24 = .ok (.checkcast 77, 3) := by decide +kernel
theorem dX8_doubtedFacts_27 : decode cX8_doubtedFacts 27 = .ok (.getfield 79, 3) := by decide +kernel
theorem dX8_doubtedFacts_30 : decode cX8_doubtedFacts 30 = .ok (.invokevirtual 89, 3) := by decide +kernel
theorem dX8_doubtedFacts_33 : decode cX8_doubtedFacts 33 = .ok (.ior, 1) := by decide +kernel
theorem dX8_doubtedFacts_34 : decode cX8_doubtedFacts 34 = .ok (.istore_n 1, 1) := by decide +kernel
theorem dX8_doubtedFacts_35 : decode cX8_doubtedFacts 35 = .ok (.iinc 2 1, 3) := by decide +kernel
theorem dX8_doubtedFacts_38 : decode cX8_doubtedFacts 38 = .ok (.goto (-34), 3) := by decide +kernel
theorem dX8_doubtedFacts_41 : decode cX8_doubtedFacts 41 = .ok (.iload_n 1, 1) := by decide +kernel
theorem dX8_doubtedFacts_42 : decode cX8_doubtedFacts 42 = .ok (.aload_n 0, 1) := by decide +kernel
theorem dX8_doubtedFacts_43 : decode cX8_doubtedFacts 43 = .ok (.getfield 28, 3) := by decide +kernel
theorem dX8_doubtedFacts_46 : decode cX8_doubtedFacts 46 = .ok (.invokevirtual 92, 3) := by decide +kernel
theorem dX8_doubtedFacts_49 : decode cX8_doubtedFacts 49 = .ok (.iconst (-1), 1) := by decide +kernel
theorem dX8_doubtedFacts_50 : decode cX8_doubtedFacts 50 = .ok (.ixor, 1) := by decide +kernel
theorem dX8_doubtedFacts_51 : decode cX8_doubtedFacts 51 = .ok (.iand, 1) := by decide +kernel
theorem dX8_doubtedFacts_52 : decode cX8_doubtedFacts 52 = .ok (.ireturn, 1) := by decide +kernel
def f_X8_doubtedFacts_4 (r0 : Option Nat) : Nat → Int32 → Int32 → Mo Int32
  | 0, _, _ => mf
  | n + 1, x1, x2 => mb (gR 11 1 r0) (fun v6 => mb (mo 2 v6 (f_Jx4a65c_size_8abf5 v6)) (fun v9 => (if v9 ≤ x2 then mb (gR 11 3 r0) (fun v43 => mb (mo 12 v43 (f_X9_knownFacts v43)) (fun v46 => mp (x1 &&& (v46 ^^^ (-1 : Int32))))) else mb (gR 11 1 r0) (fun v17 => mb (mo 2 v17 (f_Jx4a65c_get_915e3 v17 x2)) (fun v21 => mb (ck 7 v21) (fun _ => mb (gR 7 5 v21) (fun v27 => mb (mo 4 v27 (f_X1_mentionedFacts v27)) (fun v30 => (f_X8_doubtedFacts_4 r0 n) (x1 ||| v30) (x2 + 1)))))))))
set_option maxRecDepth 100000 in
set_option maxHeartbeats 4000000 in
theorem s_X8_doubtedFacts_4 {X : Cg} (cx : Cx X cX8_doubtedFacts RX8 3) (hfr : 3 ≤ (xR X).frames) (hlo : 64 ≤ (xR X).locals) (hr : (xM X).sig.returnType = (some .int)) (r0 : Option Nat) : ∀ (n : Nat) (x1 : Int32) (x2 : Int32), Sim X 3 (FiM X vI) 4 [(0, va_rf r0), (1, .int x1), (2, .int x2)] [] (f_X8_doubtedFacts_4 r0 n x1 x2) := by
  intro n
  induction n with
  | zero =>
    intro _ _
    exact sm_mf
  | succ n ih =>
    intro x1 x2
    rw [f_X8_doubtedFacts_4]
    refine sm_iload_n cx 2 dX8_doubtedFacts_4 rfl rfl ?_
    refine sm_aload_n cx 0 dX8_doubtedFacts_5 rfl rfl ?_
    refine sm_getR cx fl_X8_18 dX8_doubtedFacts_6 (fun v6 => ?_)
    refine sm_callV (T := TJx4a65c) (N := 3) (toV := vI) cx [] rfl cv_X8_66 (fun a h => ct_Jx4a65c_size_8abf5 (xZ X) a h) (Nat.le_trans (by decide) hfr) (Nat.le_trans (by decide) hlo) rfl (cat_le _ (Nat.le_of_ble_eq_true rfl)) dX8_doubtedFacts_9 (fun v9 => ?_)
    refine sm_icmp_ge (tgt := 41) cx dX8_doubtedFacts_12 (by decide) ?_ ?_
    · refine sm_iload_n cx 1 dX8_doubtedFacts_41 rfl rfl ?_
      refine sm_aload_n cx 0 dX8_doubtedFacts_42 rfl rfl ?_
      refine sm_getR cx fl_X8_28 dX8_doubtedFacts_43 (fun v43 => ?_)
      refine sm_callV (T := TX9) (N := 6) (toV := vI) cx [] rfl cv_X8_92 (fun a h => ct_X9_knownFacts (xZ X) a h) (Nat.le_trans (by decide) hfr) (Nat.le_trans (by decide) hlo) rfl (cat_le _ (Nat.le_of_ble_eq_true rfl)) dX8_doubtedFacts_46 (fun v46 => ?_)
      refine sm_iconst (v := -1) cx dX8_doubtedFacts_49 (by decide) ?_
      refine sm_ixor cx dX8_doubtedFacts_50 ?_
      refine sm_iand cx dX8_doubtedFacts_51 ?_
      exact sm_iret cx hr dX8_doubtedFacts_52
    · refine sm_iload_n cx 1 dX8_doubtedFacts_15 rfl rfl ?_
      refine sm_aload_n cx 0 dX8_doubtedFacts_16 rfl rfl ?_
      refine sm_getR cx fl_X8_18 dX8_doubtedFacts_17 (fun v17 => ?_)
      refine sm_iload_n cx 2 dX8_doubtedFacts_20 rfl rfl ?_
      refine sm_callV (T := TJx4a65c) (N := 3) (toV := vR) cx [.int x2] rfl cv_X8_73 (fun a h => ct_Jx4a65c_get_915e3 (xZ X) a h x2) (Nat.le_trans (by decide) hfr) (Nat.le_trans (by decide) hlo) rfl (cat_le _ (Nat.le_of_ble_eq_true rfl)) dX8_doubtedFacts_21 (fun v21 => ?_)
      refine sm_ck (T := TX4) (N := 7) cx rfl wd_3_117 dX8_doubtedFacts_24 ?_
      refine sm_getR cx fl_X8_79 dX8_doubtedFacts_27 (fun v27 => ?_)
      refine sm_callV (T := TX1) (N := 1) (toV := vI) cx [] rfl cv_X8_89 (fun a h => ct_X1_mentionedFacts (xZ X) a h) (Nat.le_trans (by decide) hfr) (Nat.le_trans (by decide) hlo) rfl (cat_le _ (Nat.le_of_ble_eq_true rfl)) dX8_doubtedFacts_30 (fun v30 => ?_)
      refine sm_ior cx dX8_doubtedFacts_33 ?_
      refine sm_istore_n cx [(1, .int (x1 ||| v30)), (0, va_rf r0), (2, .int x2)] dX8_doubtedFacts_34 rfl (by decide) rfl (nc1 (rf_cat _)) rfl ?_
      refine sm_iinc cx 2 [(2, .int (x2 + 1)), (1, .int (x1 ||| v30)), (0, va_rf r0)] dX8_doubtedFacts_35 rfl rfl (by decide) rfl (nc1 rfl) rfl ?_
      refine sm_goto (tgt := 4) cx dX8_doubtedFacts_38 (by decide) ?_
      exact sm_lv [2, 1, 0] rfl (ih (x1 ||| v30) (x2 + 1))
def f_X8_doubtedFacts (r0 : Option Nat) : Mo Int32 := f_X8_doubtedFacts_4 r0 fuL (0 : Int32) (0 : Int32)
set_option maxRecDepth 100000 in
set_option maxHeartbeats 4000000 in
theorem s_X8_doubtedFacts {X : Cg} (cx : Cx X cX8_doubtedFacts RX8 3) (hfr : 3 ≤ (xR X).frames) (hlo : 64 ≤ (xR X).locals) (hr : (xM X).sig.returnType = (some .int)) (r0 : Option Nat) : Sim X 3 (FiM X vI) 0 [(0, va_rf r0)] [] (f_X8_doubtedFacts r0) := by
  unfold f_X8_doubtedFacts
  refine sm_iconst (v := 0) cx dX8_doubtedFacts_0 (by decide) ?_
  refine sm_istore_n cx [(1, .int (0 : Int32)), (0, va_rf r0)] dX8_doubtedFacts_1 rfl (by decide) rfl (nc1 (rf_cat _)) rfl ?_
  refine sm_iconst (v := 0) cx dX8_doubtedFacts_2 (by decide) ?_
  refine sm_istore_n cx [(2, .int (0 : Int32)), (1, .int (0 : Int32)), (0, va_rf r0)] dX8_doubtedFacts_3 rfl (by decide) rfl (nc1 rfl) rfl ?_
  exact sm_lv [2, 1, 0] rfl (s_X8_doubtedFacts_4 cx hfr hlo hr r0 fuL (0 : Int32) (0 : Int32))
set_option maxRecDepth 100000 in
set_option maxHeartbeats 4000000 in
theorem ct_X8_doubtedFacts (Z : Nat → Nat) {r0 : Option Nat} (a0 : Nat) (h0 : r0 = some a0) : Ct yX8_doubtedFacts cX8_doubtedFacts 3 (some .int) 3 64 Z [.ref a0] vI (f_X8_doubtedFacts r0) := by
  subst h0
  refine ct_of (lv0 := [(0, va_rf (some a0))]) (by decide +kernel) (by simp [lg_sl, ct_i, ct_l, ct_r, rf_cat]) (by show _ = ([(0, Value.ref a0)] : List (Nat × Value)); simp [lv_args, ct_i, ct_l, ct_r, rf_cat]) (fun X cx hZ hfr hlo hr hin => ?_)
  subst hZ
  exact s_X8_doubtedFacts cx (Nat.le_of_eq hfr.symm) (Nat.le_of_eq hlo.symm) hr (some a0)
/-! PolicyTree$Outcome.<init>()V -/
theorem dX7_init_0 : decode cX7_init 0 = .ok (.aload_n 0, 1) := by decide +kernel
theorem dX7_init_1 : decode cX7_init 1 = .ok (.invokespecial 3, 3) := by decide +kernel
theorem dX7_init_4 : decode cX7_init 4 = .ok (.aload_n 0, 1) := by decide +kernel
theorem dX7_init_5 : decode cX7_init 5 = .ok (.bipush 100, 2) := by decide +kernel
theorem dX7_init_7 : decode cX7_init 7 = .ok (.newarray .int, 2) := by decide +kernel
theorem dX7_init_9 : decode cX7_init 9 = .ok (.putfield 9, 3) := by decide +kernel
theorem dX7_init_12 : decode cX7_init 12 = .ok (.return_, 1) := by decide +kernel
def f_X7_init (r0 : Option Nat) : Mo Unit := mb (mo 10 r0 (mp ())) (fun _ => mb (nA 1 (100 : Int32)) (fun v7 => mb (pV 10 0 r0 (va_rf v7)) (fun _ => mp ())))
set_option maxRecDepth 100000 in
set_option maxHeartbeats 4000000 in
theorem s_X7_init {X : Cg} (cx : Cx X cX7_init RX7 1) (hfr : 1 ≤ (xR X).frames) (hlo : 12 ≤ (xR X).locals) (hr : (xM X).sig.returnType = none) (hin : (xM X).name = "<init>") (r0 : Option Nat) : Sim X 1 (FiM X vV) 0 [(0, va_rf r0)] [] (f_X7_init r0) := by
  unfold f_X7_init
  refine sm_aload_n cx 0 dX7_init_0 rfl rfl ?_
  refine sm_obj (ci := 10) cx wd_1_187 wd_1_41 wd_1_42 (Nat.le_trans (by decide) hfr) (Nat.le_trans (by decide) hlo) dX7_init_1 rfl ?_
  refine sm_aload_n cx 0 dX7_init_4 rfl rfl ?_
  refine sm_bipush (v := 100) cx dX7_init_5 (by decide) ?_
  refine sm_newa1 cx dX7_init_7 (fun v7 => ?_)
  refine sm_putF cx hin fl_X7_9 (nr_ra _) (ft_ra _) dX7_init_9 ?_
  exact sm_vret cx hr dX7_init_12
set_option maxRecDepth 100000 in
set_option maxHeartbeats 4000000 in
theorem ct_X7_init (Z : Nat → Nat) {r0 : Option Nat} (a0 : Nat) (h0 : r0 = some a0) : Ct yX7_init cX7_init 1 none 1 12 Z [.ref a0] vV (f_X7_init r0) := by
  subst h0
  refine ct_of (lv0 := [(0, va_rf (some a0))]) (by decide +kernel) (by simp [lg_sl, ct_i, ct_l, ct_r, rf_cat]) (by show _ = ([(0, Value.ref a0)] : List (Nat × Value)); simp [lv_args, ct_i, ct_l, ct_r, rf_cat]) (fun X cx hZ hfr hlo hr hin => ?_)
  subst hZ
  exact s_X7_init cx (Nat.le_of_eq hfr.symm) (Nat.le_of_eq hlo.symm) hr hin (some a0)
/-! PolicyTree$Outcome.size()I -/
theorem dX7_size_0 : decode cX7_size 0 = .ok (.aload_n 0, 1) := by decide +kernel
theorem dX7_size_1 : decode cX7_size 1 = .ok (.getfield 15, 3) := by decide +kernel
theorem dX7_size_4 : decode cX7_size 4 = .ok (.ireturn, 1) := by decide +kernel
def f_X7_size (r0 : Option Nat) : Mo Int32 := mb (gI 10 1 r0) (fun v1 => mp v1)
set_option maxRecDepth 100000 in
set_option maxHeartbeats 4000000 in
theorem s_X7_size {X : Cg} (cx : Cx X cX7_size RX7 1) (hfr : 0 ≤ (xR X).frames) (hlo : 0 ≤ (xR X).locals) (hr : (xM X).sig.returnType = (some .int)) (r0 : Option Nat) : Sim X 1 (FiM X vI) 0 [(0, va_rf r0)] [] (f_X7_size r0) := by
  unfold f_X7_size
  refine sm_aload_n cx 0 dX7_size_0 rfl rfl ?_
  refine sm_getI cx fl_X7_15 dX7_size_1 (fun v1 => ?_)
  exact sm_iret cx hr dX7_size_4
set_option maxRecDepth 100000 in
set_option maxHeartbeats 4000000 in
theorem ct_X7_size (Z : Nat → Nat) {r0 : Option Nat} (a0 : Nat) (h0 : r0 = some a0) : Ct yX7_size cX7_size 1 (some .int) 0 0 Z [.ref a0] vI (f_X7_size r0) := by
  subst h0
  refine ct_of (lv0 := [(0, va_rf (some a0))]) (by decide +kernel) (by simp [lg_sl, ct_i, ct_l, ct_r, rf_cat]) (by show _ = ([(0, Value.ref a0)] : List (Nat × Value)); simp [lv_args, ct_i, ct_l, ct_r, rf_cat]) (fun X cx hZ hfr hlo hr hin => ?_)
  subst hZ
  exact s_X7_size cx (Nat.le_of_eq hfr.symm) (Nat.le_of_eq hlo.symm) hr (some a0)
/-! PolicyTree$Outcome.teller()LPolicyTree$Link; -/
theorem dX7_teller_0 : decode cX7_teller 0 = .ok (.aload_n 0, 1) := by decide +kernel
theorem dX7_teller_1 : decode cX7_teller 1 = .ok (.getfield 19, 3) := by decide +kernel
theorem dX7_teller_4 : decode cX7_teller 4 = .ok (.areturn, 1) := by decide +kernel
def f_X7_teller (r0 : Option Nat) : Mo (Option Nat) := mb (gR 10 2 r0) (fun v1 => mp v1)
set_option maxRecDepth 100000 in
set_option maxHeartbeats 4000000 in
theorem s_X7_teller {X : Cg} (cx : Cx X cX7_teller RX7 1) (hfr : 0 ≤ (xR X).frames) (hlo : 0 ≤ (xR X).locals) (hr : (xM X).sig.returnType = (some (.object "PolicyTree$Link"))) (r0 : Option Nat) : Sim X 1 (FiM X vR) 0 [(0, va_rf r0)] [] (f_X7_teller r0) := by
  unfold f_X7_teller
  refine sm_aload_n cx 0 dX7_teller_0 rfl rfl ?_
  refine sm_getR cx fl_X7_19 dX7_teller_1 (fun v1 => ?_)
  exact sm_aret cx hr (Or.inl ⟨_, rfl⟩) dX7_teller_4
set_option maxRecDepth 100000 in
set_option maxHeartbeats 4000000 in
theorem ct_X7_teller (Z : Nat → Nat) {r0 : Option Nat} (a0 : Nat) (h0 : r0 = some a0) : Ct yX7_teller cX7_teller 1 (some (.object "PolicyTree$Link")) 0 0 Z [.ref a0] vR (f_X7_teller r0) := by
  subst h0
  refine ct_of (lv0 := [(0, va_rf (some a0))]) (by decide +kernel) (by simp [lg_sl, ct_i, ct_l, ct_r, rf_cat]) (by show _ = ([(0, Value.ref a0)] : List (Nat × Value)); simp [lv_args, ct_i, ct_l, ct_r, rf_cat]) (fun X cx hZ hfr hlo hr hin => ?_)
  subst hZ
  exact s_X7_teller cx (Nat.le_of_eq hfr.symm) (Nat.le_of_eq hlo.symm) hr (some a0)
/-! PolicyTree$Outcome.valueAt(I)I -/
theorem dX7_valueAt_0 : decode cX7_valueAt 0 = .ok (.iload_n 1, 1) := by decide +kernel
theorem dX7_valueAt_1 : decode cX7_valueAt 1 = .ok (.ifCond .lt 29, 3) := by decide +kernel
theorem dX7_valueAt_4 : decode cX7_valueAt 4 = .ok (.iload_n 1, 1) := by decide +kernel
theorem dX7_valueAt_5 : decode cX7_valueAt 5 = .ok (.aload_n 0, 1) := by decide +kernel
theorem dX7_valueAt_6 : decode cX7_valueAt 6 = .ok (.getfield 15, 3) := by decide +kernel
theorem dX7_valueAt_9 : decode cX7_valueAt 9 = .ok (.if_icmp .ge 21, 3) := by decide +kernel
theorem dX7_valueAt_12 : decode cX7_valueAt 12 = .ok (.iload_n 1, 1) := by decide +kernel
theorem dX7_valueAt_13 : decode cX7_valueAt 13 = .ok (.aload_n 0, 1) := by decide +kernel
theorem dX7_valueAt_14 : decode cX7_valueAt 14 = .ok (.getfield 9, 3) := by decide +kernel
theorem dX7_valueAt_17 : decode cX7_valueAt 17 = .ok (.arraylength, 1) := by decide +kernel
theorem dX7_valueAt_18 : decode cX7_valueAt 18 = .ok (.if_icmp .ge 12, 3) := by decide +kernel
theorem dX7_valueAt_21 : decode cX7_valueAt 21 = .ok (.aload_n 0, 1) := by decide +kernel
theorem dX7_valueAt_22 : decode cX7_valueAt 22 = .ok (.getfield 9, 3) := by decide +kernel
theorem dX7_valueAt_25 : decode cX7_valueAt 25 = .ok (.iload_n 1, 1) := by decide +kernel
theorem dX7_valueAt_26 : decode cX7_valueAt 26 = .ok (.iaload, 1) := by decide +kernel
theorem dX7_valueAt_27 : decode cX7_valueAt 27 = .ok (.goto 4, 3) := by decide +kernel
theorem dX7_valueAt_30 : decode cX7_valueAt 30 = .ok (.iconst 0, 1) := by decide +kernel
theorem dX7_valueAt_31 : decode cX7_valueAt 31 = .ok (.ireturn, 1) := by decide +kernel
def f_X7_valueAt_31 (sx0 : Int32) : Mo Int32 := mp sx0
set_option maxRecDepth 100000 in
set_option maxHeartbeats 4000000 in
theorem s_X7_valueAt_31 {X : Cg} (cx : Cx X cX7_valueAt RX7 2) (hfr : 0 ≤ (xR X).frames) (hlo : 0 ≤ (xR X).locals) (hr : (xM X).sig.returnType = (some .int)) (sx0 : Int32) : Sim X 2 (FiM X vI) 31 [] [.int sx0] (f_X7_valueAt_31 sx0) := by
  unfold f_X7_valueAt_31
  exact sm_iret cx hr dX7_valueAt_31
def f_X7_valueAt_30 : Mo Int32 := f_X7_valueAt_31 (0 : Int32)
set_option maxRecDepth 100000 in
set_option maxHeartbeats 4000000 in
theorem s_X7_valueAt_30 {X : Cg} (cx : Cx X cX7_valueAt RX7 2) (hfr : 0 ≤ (xR X).frames) (hlo : 0 ≤ (xR X).locals) (hr : (xM X).sig.returnType = (some .int)) : Sim X 2 (FiM X vI) 30 [] [] (f_X7_valueAt_30) := by
  unfold f_X7_valueAt_30
  refine sm_iconst (v := 0) cx dX7_valueAt_30 (by decide) ?_
  exact sm_lv [] rfl (s_X7_valueAt_31 cx hfr hlo hr (0 : Int32))
def f_X7_valueAt (r0 : Option Nat) (x1 : Int32) : Mo Int32 := (if x1 < 0 then f_X7_valueAt_30 else mb (gI 10 1 r0) (fun v6 => (if v6 ≤ x1 then f_X7_valueAt_30 else mb (gR 10 0 r0) (fun v14 => mb (aN 1 v14) (fun v17 => (if v17 ≤ x1 then f_X7_valueAt_30 else mb (gR 10 0 r0) (fun v22 => mb (aI 1 v22 x1) (fun v26 => f_X7_valueAt_31 v26))))))))
set_option maxRecDepth 100000 in
set_option maxHeartbeats 4000000 in
theorem s_X7_valueAt {X : Cg} (cx : Cx X cX7_valueAt RX7 2) (hfr : 0 ≤ (xR X).frames) (hlo : 0 ≤ (xR X).locals) (hr : (xM X).sig.returnType = (some .int)) (r0 : Option Nat) (x1 : Int32) : Sim X 2 (FiM X vI) 0 [(0, va_rf r0), (1, .int x1)] [] (f_X7_valueAt r0 x1) := by
  unfold f_X7_valueAt
  refine sm_iload_n cx 1 dX7_valueAt_0 rfl rfl ?_
  refine sm_if_lt (tgt := 30) cx dX7_valueAt_1 (by decide) ?_ ?_
  · exact sm_lv [] rfl (s_X7_valueAt_30 cx hfr hlo hr)
  · refine sm_iload_n cx 1 dX7_valueAt_4 rfl rfl ?_
    refine sm_aload_n cx 0 dX7_valueAt_5 rfl rfl ?_
    refine sm_getI cx fl_X7_15 dX7_valueAt_6 (fun v6 => ?_)
    refine sm_icmp_ge (tgt := 30) cx dX7_valueAt_9 (by decide) ?_ ?_
    · exact sm_lv [] rfl (s_X7_valueAt_30 cx hfr hlo hr)
    · refine sm_iload_n cx 1 dX7_valueAt_12 rfl rfl ?_
      refine sm_aload_n cx 0 dX7_valueAt_13 rfl rfl ?_
      refine sm_getR cx fl_X7_9 dX7_valueAt_14 (fun v14 => ?_)
      refine sm_alen cx 1 (by decide) dX7_valueAt_17 (fun v17 => ?_)
      refine sm_icmp_ge (tgt := 30) cx dX7_valueAt_18 (by decide) ?_ ?_
      · exact sm_lv [] rfl (s_X7_valueAt_30 cx hfr hlo hr)
      · refine sm_aload_n cx 0 dX7_valueAt_21 rfl rfl ?_
        refine sm_getR cx fl_X7_9 dX7_valueAt_22 (fun v22 => ?_)
        refine sm_iload_n cx 1 dX7_valueAt_25 rfl rfl ?_
        refine sm_iald cx dX7_valueAt_26 (fun v26 => ?_)
        refine sm_goto (tgt := 31) cx dX7_valueAt_27 (by decide) ?_
        exact sm_lv [] rfl (s_X7_valueAt_31 cx hfr hlo hr v26)
set_option maxRecDepth 100000 in
set_option maxHeartbeats 4000000 in
theorem ct_X7_valueAt (Z : Nat → Nat) {r0 : Option Nat} (a0 : Nat) (h0 : r0 = some a0) (x1 : Int32) : Ct yX7_valueAt cX7_valueAt 2 (some .int) 0 0 Z [.ref a0, .int x1] vI (f_X7_valueAt r0 x1) := by
  subst h0
  refine ct_of (lv0 := [(0, va_rf (some a0)), (1, .int x1)]) (by decide +kernel) (by simp [lg_sl, ct_i, ct_l, ct_r, rf_cat]) (by show _ = ([(0, Value.ref a0), (1, .int x1)] : List (Nat × Value)); simp [lv_args, ct_i, ct_l, ct_r, rf_cat]) (fun X cx hZ hfr hlo hr hin => ?_)
  subst hZ
  exact s_X7_valueAt cx (Nat.le_of_eq hfr.symm) (Nat.le_of_eq hlo.symm) hr (some a0) x1
/-! PolicyTree$Outcome.has(I)Z -/
theorem dX7_has_0 : decode cX7_has 0 = .ok (.iconst 0, 1) := by decide +kernel
theorem dX7_has_1 : decode cX7_has 1 = .ok (.istore_n 2, 1) := by decide +kernel
theorem dX7_has_2 : decode cX7_has 2 = .ok (.iload_n 2, 1) := by decide +kernel
theorem dX7_has_3 : decode cX7_has 3 = .ok (.aload_n 0, 1) := by decide +kernel
theorem dX7_has_4 : decode cX7_has 4 = .ok (.getfield 15, 3) := by decide +kernel
theorem dX7_has_7 : decode cX7_has 7 = .ok (.if_icmp .ge 20, 3) := by decide +kernel
theorem dX7_has_10 : decode cX7_has 10 = .ok (.aload_n 0, 1) := by decide +kernel
theorem dX7_has_11 : decode cX7_has 11 = .ok (.iload_n 2, 1) := by decide +kernel
theorem dX7_has_12 : decode cX7_has 12 = .ok (.invokevirtual 56, 3) := by decide +kernel
theorem dX7_has_15 : decode cX7_has 15 = .ok (.iload_n 1, 1) := by decide +kernel
theorem dX7_has_16 : decode cX7_has 16 = .ok (.if_icmp .ne 5, 3) := by decide +kernel
theorem dX7_has_19 : decode cX7_has 19 = .ok (.iconst 1, 1) := by decide +kernel
theorem dX7_has_20 : decode cX7_has 20 = .ok (.ireturn, 1) := by decide +kernel
theorem dX7_has_21 : decode cX7_has 21 = .ok (.iinc 2 1, 3) := by decide +kernel
theorem dX7_has_24 : decode cX7_has 24 = .ok (.goto (-22), 3) := by decide +kernel
theorem dX7_has_27 : decode cX7_has 27 = .ok (.iconst 0, 1) := by decide +kernel
theorem dX7_has_28 : decode cX7_has 28 = .ok (.ireturn, 1) := by decide +kernel
def f_X7_has_2 (r0 : Option Nat) (x1 : Int32) : Nat → Int32 → Mo Int32
  | 0, _ => mf
  | n + 1, x2 => mb (gI 10 1 r0) (fun v4 => (if v4 ≤ x2 then rz .boolean (0 : Int32) else mb (mo 10 r0 (f_X7_valueAt r0 x2)) (fun v12 => (if v12 = x1 then rz .boolean (1 : Int32) else (f_X7_has_2 r0 x1 n) (x2 + 1)))))
set_option maxRecDepth 100000 in
set_option maxHeartbeats 4000000 in
theorem s_X7_has_2 {X : Cg} (cx : Cx X cX7_has RX7 3) (hfr : 1 ≤ (xR X).frames) (hlo : 21 ≤ (xR X).locals) (hr : (xM X).sig.returnType = (some .boolean)) (r0 : Option Nat) (x1 : Int32) : ∀ (n : Nat) (x2 : Int32), Sim X 3 (FiM X vI) 2 [(0, va_rf r0), (1, .int x1), (2, .int x2)] [] (f_X7_has_2 r0 x1 n x2) := by
  intro n
  induction n with
  | zero =>
    intro _
    exact sm_mf
  | succ n ih =>
    intro x2
    rw [f_X7_has_2]
    refine sm_iload_n cx 2 dX7_has_2 rfl rfl ?_
    refine sm_aload_n cx 0 dX7_has_3 rfl rfl ?_
    refine sm_getI cx fl_X7_15 dX7_has_4 (fun v4 => ?_)
    refine sm_icmp_ge (tgt := 27) cx dX7_has_7 (by decide) ?_ ?_
    · refine sm_iconst (v := 0) cx dX7_has_27 (by decide) ?_
      exact sm_zret cx hr dX7_has_28
    · refine sm_aload_n cx 0 dX7_has_10 rfl rfl ?_
      refine sm_iload_n cx 2 dX7_has_11 rfl rfl ?_
      refine sm_callV (T := TX7) (N := 3) (toV := vI) cx [.int x2] rfl cv_X7_56 (fun a h => ct_X7_valueAt (xZ X) a h x2) (Nat.le_trans (by decide) hfr) (Nat.le_trans (by decide) hlo) rfl (cat_le _ (Nat.le_of_ble_eq_true rfl)) dX7_has_12 (fun v12 => ?_)
      refine sm_iload_n cx 1 dX7_has_15 rfl rfl ?_
      refine sm_icmp_ne (tgt := 21) cx dX7_has_16 (by decide) ?_ ?_
      · refine sm_iinc cx 2 [(2, .int (x2 + 1)), (0, va_rf r0), (1, .int x1)] dX7_has_21 rfl rfl (by decide) rfl (nc1 rfl) rfl ?_
        refine sm_goto (tgt := 2) cx dX7_has_24 (by decide) ?_
        exact sm_lv [1, 2, 0] rfl (ih (x2 + 1))
      · refine sm_iconst (v := 1) cx dX7_has_19 (by decide) ?_
        exact sm_zret cx hr dX7_has_20
def f_X7_has (r0 : Option Nat) (x1 : Int32) : Mo Int32 := f_X7_has_2 r0 x1 fuL (0 : Int32)
set_option maxRecDepth 100000 in
set_option maxHeartbeats 4000000 in
theorem s_X7_has {X : Cg} (cx : Cx X cX7_has RX7 3) (hfr : 1 ≤ (xR X).frames) (hlo : 21 ≤ (xR X).locals) (hr : (xM X).sig.returnType = (some .boolean)) (r0 : Option Nat) (x1 : Int32) : Sim X 3 (FiM X vI) 0 [(0, va_rf r0), (1, .int x1)] [] (f_X7_has r0 x1) := by
  unfold f_X7_has
  refine sm_iconst (v := 0) cx dX7_has_0 (by decide) ?_
  refine sm_istore_n cx [(2, .int (0 : Int32)), (0, va_rf r0), (1, .int x1)] dX7_has_1 rfl (by decide) rfl (nc1 rfl) rfl ?_
  exact sm_lv [1, 2, 0] rfl (s_X7_has_2 cx hfr hlo hr r0 x1 fuL (0 : Int32))
set_option maxRecDepth 100000 in
set_option maxHeartbeats 4000000 in
theorem ct_X7_has (Z : Nat → Nat) {r0 : Option Nat} (a0 : Nat) (h0 : r0 = some a0) (x1 : Int32) : Ct yX7_has cX7_has 3 (some .boolean) 1 21 Z [.ref a0, .int x1] vI (f_X7_has r0 x1) := by
  subst h0
  refine ct_of (lv0 := [(0, va_rf (some a0)), (1, .int x1)]) (by decide +kernel) (by simp [lg_sl, ct_i, ct_l, ct_r, rf_cat]) (by show _ = ([(0, Value.ref a0), (1, .int x1)] : List (Nat × Value)); simp [lv_args, ct_i, ct_l, ct_r, rf_cat]) (fun X cx hZ hfr hlo hr hin => ?_)
  subst hZ
  exact s_X7_has cx (Nat.le_of_eq hfr.symm) (Nat.le_of_eq hlo.symm) hr (some a0) x1
/-! PolicyTree$Outcome.take(LPolicyTree$Link;II)V -/
theorem dX7_take_0 : decode cX7_take 0 = .ok (.iload_n 3, 1) := by decide +kernel
theorem dX7_take_1 : decode cX7_take 1 = .ok (.iconst 2, 1) := by decide +kernel
theorem dX7_take_2 : decode cX7_take 2 = .ok (.if_icmp .ne 58, 3) := by decide +kernel
theorem dX7_take_5 : decode cX7_take 5 = .ok (.aload_n 0, 1) := by decide +kernel
theorem dX7_take_6 : decode cX7_take 6 = .ok (.iload_n 2, 1) := by decide +kernel
theorem dX7_take_7 : decode cX7_take 7 = .ok (.invokevirtual 59, 3) := by decide +kernel
theorem dX7_take_10 : decode cX7_take 10 = .ok (.ifCond .ne 42, 3) := by decide +kernel
theorem dX7_take_13 : decode cX7_take 13 = .ok (.aload_n 0, 1) := by decide +kernel
theorem dX7_take_14 : decode cX7_take 14 = .ok (.getfield 15, 3) := by decide +kernel
theorem dX7_take_17 : decode cX7_take 17 = .ok (.ifCond .lt 35, 3) := by decide +kernel
theorem dX7_take_20 : decode cX7_take 20 = .ok (.aload_n 0, 1) := by decide +kernel
theorem dX7_take_21 : decode cX7_take 21 = .ok (.getfield 15, 3) := by decide +kernel
theorem dX7_take_24 : decode cX7_take 24 = .ok (.aload_n 0, 1) := by decide +kernel
theorem dX7_take_25 : decode cX7_take 25 = .ok (.getfield 9, 3) := by decide +kernel
theorem dX7_take_28 : decode cX7_take 28 = .ok (.arraylength, 1) := by decide +kernel
theorem dX7_take_29 : decode cX7_take 29 = .ok (.if_icmp .ge 23, 3) := by decide +kernel
theorem dX7_take_32 : decode cX7_take 32 = .ok (.aload_n 0, 1) := by decide +kernel
theorem dX7_take_33 : decode cX7_take 33 = .ok (.getfield 9, 3) := by decide +kernel
theorem dX7_take_36 : decode cX7_take 36 = .ok (.aload_n 0, 1) := by decide +kernel
theorem dX7_take_37 : decode cX7_take 37 = .ok (.getfield 15, 3) := by decide +kernel
theorem dX7_take_40 : decode cX7_take 40 = .ok (.iload_n 2, 1) := by decide +kernel
theorem dX7_take_41 : decode cX7_take 41 = .ok (.iastore, 1) := by decide +kernel
theorem dX7_take_42 : decode cX7_take 42 = .ok (.aload_n 0, 1) := by decide +kernel
theorem dX7_take_43 : decode cX7_take 43 = .ok (.dup, 1) := by decide +kernel
theorem dX7_take_44 : decode cX7_take 44 = .ok (.getfield 15, 3) := by decide +kernel
theorem dX7_take_47 : decode cX7_take 47 = .ok (.iconst 1, 1) := by decide +kernel
theorem dX7_take_48 : decode cX7_take 48 = .ok (.iadd, 1) := by decide +kernel
theorem dX7_take_49 : decode cX7_take 49 = .ok (.putfield 15, 3) := by decide +kernel
theorem dX7_take_52 : decode cX7_take 52 = .ok (.aload_n 0, 1) := by decide +kernel
theorem dX7_take_53 : decode cX7_take 53 = .ok (.aload_n 1, 1) := by decide +kernel
theorem dX7_take_54 : decode cX7_take 54 = .ok (.putfield 19, 3) := by decide +kernel
theorem dX7_take_57 : decode cX7_take 57 = .ok (.goto 46, 3) := by decide +kernel
theorem dX7_take_60 : decode cX7_take 60 = .ok (.aload_n 0, 1) := by decide +kernel
theorem dX7_take_61 : decode cX7_take 61 = .ok (.getfield 15, 3) := by decide +kernel
theorem dX7_take_64 : decode cX7_take 64 = .ok (.ifCond .eq 22, 3) := by decide +kernel
theorem dX7_take_67 : decode cX7_take 67 = .ok (.iload_n 3, 1) := by decide +kernel
theorem dX7_take_68 : decode cX7_take 68 = .ok (.ifCond .eq 18, 3) := by decide +kernel
theorem dX7_take_71 : decode cX7_take 71 = .ok (.iload_n 3, 1) := by decide +kernel
theorem dX7_take_72 : decode cX7_take 72 = .ok (.iconst 1, 1) := by decide +kernel
theorem dX7_take_73 : decode cX7_take 73 = .ok (.if_icmp .ne 30, 3) := by decide +kernel
theorem dX7_take_76 : decode cX7_take 76 = .ok (.iload_n 2, 1) := by decide +kernel
theorem dX7_take_77 : decode cX7_take 77 = .ok (.aload_n 0, 1) := by decide +kernel
theorem dX7_take_78 : decode cX7_take 78 = .ok (.getfield 9, 3) := by decide +kernel
theorem dX7_take_81 : decode cX7_take 81 = .ok (.iconst 0, 1) := by decide +kernel
theorem dX7_take_82 : decode cX7_take 82 = .ok (.iaload, 1) := by decide +kernel
theorem dX7_take_83 : decode cX7_take 83 = .ok (.if_icmp .ge 20, 3) := by decide +kernel
theorem dX7_take_86 : decode cX7_take 86 = .ok (.aload_n 0, 1) := by decide +kernel
theorem dX7_take_87 : decode cX7_take 87 = .ok (.getfield 9, 3) := by decide +kernel
theorem dX7_take_90 : decode cX7_take 90 = .ok (.iconst 0, 1) := by decide +kernel
theorem dX7_take_91 : decode cX7_take 91 = .ok (.iload_n 2, 1) := by decide +kernel
theorem dX7_take_92 : decode cX7_take 92 = .ok (.iastore, 1) := by decide +kernel
theorem dX7_take_93 : decode cX7_take 93 = .ok (.aload_n 0, 1) := by decide +kernel
theorem dX7_take_94 : decode cX7_take 94 = .ok (.iconst 1, 1) := by decide +kernel
theorem dX7_take_95 : decode cX7_take 95 = .ok (.putfield 15, 3) := by decide +kernel
theorem dX7_take_98 : decode cX7_take 98 = .ok (.aload_n 0, 1) := by decide +kernel
theorem dX7_take_99 : decode cX7_take 99 = .ok (.aload_n 1, 1) := by decide +kernel
theorem dX7_take_100 : decode cX7_take 100 = .ok (.putfield 19, 3) := by decide +kernel
theorem dX7_take_103 : decode cX7_take 103 = .ok (.return_, 1) := by decide +kernel
def f_X7_take_103 : Mo Unit := mp ()
set_option maxRecDepth 100000 in
set_option maxHeartbeats 4000000 in
theorem s_X7_take_103 {X : Cg} (cx : Cx X cX7_take RX7 4) (hfr : 2 ≤ (xR X).frames) (hlo : 43 ≤ (xR X).locals) (hr : (xM X).sig.returnType = none) : Sim X 4 (FiM X vV) 103 [] [] (f_X7_take_103) := by
  unfold f_X7_take_103
  exact sm_vret cx hr dX7_take_103
def f_X7_take_52 (r0 : Option Nat) (r1 : Option Nat) : Mo Unit := mb (pV 10 2 r0 (va_rf r1)) (fun _ => f_X7_take_103)
set_option maxRecDepth 100000 in
set_option maxHeartbeats 4000000 in
theorem s_X7_take_52 {X : Cg} (cx : Cx X cX7_take RX7 4) (hfr : 2 ≤ (xR X).frames) (hlo : 43 ≤ (xR X).locals) (hr : (xM X).sig.returnType = none) (r0 : Option Nat) (r1 : Option Nat) : Sim X 4 (FiM X vV) 52 [(0, va_rf r0), (1, va_rf r1)] [] (f_X7_take_52 r0 r1) := by
  unfold f_X7_take_52
  refine sm_aload_n cx 0 dX7_take_52 rfl rfl ?_
  refine sm_aload_n cx 1 dX7_take_53 rfl rfl ?_
  refine sm_putV cx fl_X7_19 (nr_rf _) (ft_rf _) dX7_take_54 ?_
  refine sm_goto (tgt := 103) cx dX7_take_57 (by decide) ?_
  exact sm_lv [] rfl (s_X7_take_103 cx hfr hlo hr)
def f_X7_take_86 (r0 : Option Nat) (r1 : Option Nat) (x2 : Int32) : Mo Unit := mb (gR 10 0 r0) (fun v87 => mb (sI 1 v87 (0 : Int32) x2) (fun _ => mb (pV 10 1 r0 (.int (1 : Int32))) (fun _ => mb (pV 10 2 r0 (va_rf r1)) (fun _ => f_X7_take_103))))
set_option maxRecDepth 100000 in
set_option maxHeartbeats 4000000 in
theorem s_X7_take_86 {X : Cg} (cx : Cx X cX7_take RX7 4) (hfr : 2 ≤ (xR X).frames) (hlo : 43 ≤ (xR X).locals) (hr : (xM X).sig.returnType = none) (r0 : Option Nat) (r1 : Option Nat) (x2 : Int32) : Sim X 4 (FiM X vV) 86 [(0, va_rf r0), (1, va_rf r1), (2, .int x2)] [] (f_X7_take_86 r0 r1 x2) := by
  unfold f_X7_take_86
  refine sm_aload_n cx 0 dX7_take_86 rfl rfl ?_
  refine sm_getR cx fl_X7_9 dX7_take_87 (fun v87 => ?_)
  refine sm_iconst (v := 0) cx dX7_take_90 (by decide) ?_
  refine sm_iload_n cx 2 dX7_take_91 rfl rfl ?_
  refine sm_iast cx dX7_take_92 ?_
  refine sm_aload_n cx 0 dX7_take_93 rfl rfl ?_
  refine sm_iconst (v := 1) cx dX7_take_94 (by decide) ?_
  refine sm_putV cx fl_X7_15 rfl rfl dX7_take_95 ?_
  refine sm_aload_n cx 0 dX7_take_98 rfl rfl ?_
  refine sm_aload_n cx 1 dX7_take_99 rfl rfl ?_
  refine sm_putV cx fl_X7_19 (nr_rf _) (ft_rf _) dX7_take_100 ?_
  exact sm_lv [] rfl (s_X7_take_103 cx hfr hlo hr)
def f_X7_take (r0 : Option Nat) (r1 : Option Nat) (x2 : Int32) (x3 : Int32) : Mo Unit := (if x3 = (2 : Int32) then mb (mo 10 r0 (f_X7_has r0 x2)) (fun v7 => (if v7 = 0 then mb (gI 10 1 r0) (fun v14 => (if v14 < 0 then f_X7_take_52 r0 r1 else mb (gI 10 1 r0) (fun v21 => mb (gR 10 0 r0) (fun v25 => mb (aN 1 v25) (fun v28 => (if v28 ≤ v21 then f_X7_take_52 r0 r1 else mb (gR 10 0 r0) (fun v33 => mb (gI 10 1 r0) (fun v37 => mb (sI 1 v33 v37 x2) (fun _ => mb (gI 10 1 r0) (fun v44 => mb (pV 10 1 r0 (.int (v44 + (1 : Int32)))) (fun _ => f_X7_take_52 r0 r1))))))))))) else f_X7_take_52 r0 r1)) else mb (gI 10 1 r0) (fun v61 => (if v61 = 0 then f_X7_take_86 r0 r1 x2 else (if x3 = 0 then f_X7_take_86 r0 r1 x2 else (if x3 = (1 : Int32) then mb (gR 10 0 r0) (fun v78 => mb (aI 1 v78 (0 : Int32)) (fun v82 => (if v82 ≤ x2 then f_X7_take_103 else f_X7_take_86 r0 r1 x2))) else f_X7_take_103)))))
set_option maxRecDepth 100000 in
set_option maxHeartbeats 4000000 in
theorem s_X7_take {X : Cg} (cx : Cx X cX7_take RX7 4) (hfr : 2 ≤ (xR X).frames) (hlo : 43 ≤ (xR X).locals) (hr : (xM X).sig.returnType = none) (r0 : Option Nat) (r1 : Option Nat) (x2 : Int32) (x3 : Int32) : Sim X 4 (FiM X vV) 0 [(0, va_rf r0), (1, va_rf r1), (2, .int x2), (3, .int x3)] [] (f_X7_take r0 r1 x2 x3) := by
  unfold f_X7_take
  refine sm_iload_n cx 3 dX7_take_0 rfl rfl ?_
  refine sm_iconst (v := 2) cx dX7_take_1 (by decide) ?_
  refine sm_icmp_ne (tgt := 60) cx dX7_take_2 (by decide) ?_ ?_
  · refine sm_aload_n cx 0 dX7_take_60 rfl rfl ?_
    refine sm_getI cx fl_X7_15 dX7_take_61 (fun v61 => ?_)
    refine sm_if_eq (tgt := 86) cx dX7_take_64 (by decide) ?_ ?_
    · exact sm_lv [0, 1, 2] rfl (s_X7_take_86 cx hfr hlo hr r0 r1 x2)
    · refine sm_iload_n cx 3 dX7_take_67 rfl rfl ?_
      refine sm_if_eq (tgt := 86) cx dX7_take_68 (by decide) ?_ ?_
      · exact sm_lv [0, 1, 2] rfl (s_X7_take_86 cx hfr hlo hr r0 r1 x2)
      · refine sm_iload_n cx 3 dX7_take_71 rfl rfl ?_
        refine sm_iconst (v := 1) cx dX7_take_72 (by decide) ?_
        refine sm_icmp_ne (tgt := 103) cx dX7_take_73 (by decide) ?_ ?_
        · exact sm_lv [] rfl (s_X7_take_103 cx hfr hlo hr)
        · refine sm_iload_n cx 2 dX7_take_76 rfl rfl ?_
          refine sm_aload_n cx 0 dX7_take_77 rfl rfl ?_
          refine sm_getR cx fl_X7_9 dX7_take_78 (fun v78 => ?_)
          refine sm_iconst (v := 0) cx dX7_take_81 (by decide) ?_
          refine sm_iald cx dX7_take_82 (fun v82 => ?_)
          refine sm_icmp_ge (tgt := 103) cx dX7_take_83 (by decide) ?_ ?_
          · exact sm_lv [] rfl (s_X7_take_103 cx hfr hlo hr)
          · exact sm_lv [0, 1, 2] rfl (s_X7_take_86 cx hfr hlo hr r0 r1 x2)
  · refine sm_aload_n cx 0 dX7_take_5 rfl rfl ?_
    refine sm_iload_n cx 2 dX7_take_6 rfl rfl ?_
    refine sm_callV (T := TX7) (N := 3) (toV := vI) cx [.int x2] rfl cv_X7_59 (fun a h => ct_X7_has (xZ X) a h x2) (Nat.le_trans (by decide) hfr) (Nat.le_trans (by decide) hlo) rfl (cat_le _ (Nat.le_of_ble_eq_true rfl)) dX7_take_7 (fun v7 => ?_)
    refine sm_if_ne (tgt := 52) cx dX7_take_10 (by decide) ?_ ?_
    · exact sm_lv [0, 1] rfl (s_X7_take_52 cx hfr hlo hr r0 r1)
    · refine sm_aload_n cx 0 dX7_take_13 rfl rfl ?_
      refine sm_getI cx fl_X7_15 dX7_take_14 (fun v14 => ?_)
      refine sm_if_lt (tgt := 52) cx dX7_take_17 (by decide) ?_ ?_
      · exact sm_lv [0, 1] rfl (s_X7_take_52 cx hfr hlo hr r0 r1)
      · refine sm_aload_n cx 0 dX7_take_20 rfl rfl ?_
        refine sm_getI cx fl_X7_15 dX7_take_21 (fun v21 => ?_)
        refine sm_aload_n cx 0 dX7_take_24 rfl rfl ?_
        refine sm_getR cx fl_X7_9 dX7_take_25 (fun v25 => ?_)
        refine sm_alen cx 1 (by decide) dX7_take_28 (fun v28 => ?_)
        refine sm_icmp_ge (tgt := 52) cx dX7_take_29 (by decide) ?_ ?_
        · exact sm_lv [0, 1] rfl (s_X7_take_52 cx hfr hlo hr r0 r1)
        · refine sm_aload_n cx 0 dX7_take_32 rfl rfl ?_
          refine sm_getR cx fl_X7_9 dX7_take_33 (fun v33 => ?_)
          refine sm_aload_n cx 0 dX7_take_36 rfl rfl ?_
          refine sm_getI cx fl_X7_15 dX7_take_37 (fun v37 => ?_)
          refine sm_iload_n cx 2 dX7_take_40 rfl rfl ?_
          refine sm_iast cx dX7_take_41 ?_
          refine sm_aload_n cx 0 dX7_take_42 rfl rfl ?_
          refine sm_dup cx dX7_take_43 (rf_cat _) ?_
          refine sm_getI cx fl_X7_15 dX7_take_44 (fun v44 => ?_)
          refine sm_iconst (v := 1) cx dX7_take_47 (by decide) ?_
          refine sm_iadd cx dX7_take_48 ?_
          refine sm_putV cx fl_X7_15 rfl rfl dX7_take_49 ?_
          exact sm_lv [0, 1] rfl (s_X7_take_52 cx hfr hlo hr r0 r1)
set_option maxRecDepth 100000 in
set_option maxHeartbeats 4000000 in
theorem ct_X7_take (Z : Nat → Nat) {r0 : Option Nat} (a0 : Nat) (h0 : r0 = some a0) (r1 : Option Nat) (x2 : Int32) (x3 : Int32) : Ct yX7_take cX7_take 4 none 2 43 Z [.ref a0, va_rf r1, .int x2, .int x3] vV (f_X7_take r0 r1 x2 x3) := by
  subst h0
  refine ct_of (lv0 := [(0, va_rf (some a0)), (1, va_rf r1), (2, .int x2), (3, .int x3)]) (by decide +kernel) (by simp [lg_sl, ct_i, ct_l, ct_r, rf_cat]) (by show _ = ([(0, Value.ref a0), (1, va_rf r1), (2, .int x2), (3, .int x3)] : List (Nat × Value)); simp [lv_args, ct_i, ct_l, ct_r, rf_cat]) (fun X cx hZ hfr hlo hr hin => ?_)
  subst hZ
  exact s_X7_take cx (Nat.le_of_eq hfr.symm) (Nat.le_of_eq hlo.symm) hr (some a0) r1 x2 x3
/-! PolicyTree$Outcome.isSame(LPolicyTree$Outcome;)Z -/
theorem dX7_isSame_0 : decode cX7_isSame 0 = .ok (.aload_n 0, 1) := by decide +kernel
theorem dX7_isSame_1 : decode cX7_isSame 1 = .ok (.getfield 15, 3) := by decide +kernel
theorem dX7_isSame_4 : decode cX7_isSame 4 = .ok (.aload_n 1, 1) := by decide +kernel
theorem dX7_isSame_5 : decode cX7_isSame 5 = .ok (.getfield 15, 3) := by decide +kernel
theorem dX7_isSame_8 : decode cX7_isSame 8 = .ok (.if_icmp .eq 5, 3) := by decide +kernel
theorem dX7_isSame_11 : decode cX7_isSame 11 = .ok (.iconst 0, 1) := by decide +kernel
theorem dX7_isSame_12 : decode cX7_isSame 12 = .ok (.ireturn, 1) := by decide +kernel
theorem dX7_isSame_13 : decode cX7_isSame 13 = .ok (.iconst 0, 1) := by decide +kernel
theorem dX7_isSame_14 : decode cX7_isSame 14 = .ok (.istore_n 2, 1) := by decide +kernel
theorem dX7_isSame_15 : decode cX7_isSame 15 = .ok (.iload_n 2, 1) := by decide +kernel
theorem dX7_isSame_16 : decode cX7_isSame 16 = .ok (.aload_n 0, 1) := by decide +kernel
theorem dX7_isSame_17 : decode cX7_isSame 17 = .ok (.getfield 15, 3) := by decide +kernel
theorem dX7_isSame_20 : decode cX7_isSame 20 = .ok (.if_icmp .ge 24, 3) := by decide +kernel
theorem dX7_isSame_23 : decode cX7_isSame 23 = .ok (.aload_n 0, 1) := by decide +kernel
theorem dX7_isSame_24 : decode cX7_isSame 24 = .ok (.iload_n 2, 1) := by decide +kernel
theorem dX7_isSame_25 : decode cX7_isSame 25 = .ok (.invokevirtual 56, 3) := by decide +kernel
theorem dX7_isSame_28 : decode cX7_isSame 28 = .ok (.aload_n 1, 1) := by decide +kernel
theorem dX7_isSame_29 : decode cX7_isSame 29 = .ok (.iload_n 2, 1) := by decide +kernel
theorem dX7_isSame_30 : decode cX7_isSame 30 = .ok (.invokevirtual 56, 3) := by decide +kernel
theorem dX7_isSame_33 : decode cX7_isSame 33 = .ok (.if_icmp .eq 5, 3) := by decide +kernel
theorem dX7_isSame_36 : decode cX7_isSame 36 = .ok (.iconst 0, 1) := by decide +kernel
theorem dX7_isSame_37 : decode cX7_isSame 37 = .ok (.ireturn, 1) := by decide +kernel
theorem dX7_isSame_38 : decode cX7_isSame 38 = .ok (.iinc 2 1, 3) := by decide +kernel
theorem dX7_isSame_41 : decode cX7_isSame 41 = .ok (.goto (-26), 3) := by decide +kernel
theorem dX7_isSame_44 : decode cX7_isSame 44 = .ok (.iconst 1, 1) := by decide +kernel
theorem dX7_isSame_45 : decode cX7_isSame 45 = .ok (.ireturn, 1) := by decide +kernel
def f_X7_isSame_15 (r0 : Option Nat) (r1 : Option Nat) : Nat → Int32 → Mo Int32
  | 0, _ => mf
  | n + 1, x2 => mb (gI 10 1 r0) (fun v17 => (if v17 ≤ x2 then rz .boolean (1 : Int32) else mb (mo 10 r0 (f_X7_valueAt r0 x2)) (fun v25 => mb (mo 10 r1 (f_X7_valueAt r1 x2)) (fun v30 => (if v25 = v30 then (f_X7_isSame_15 r0 r1 n) (x2 + 1) else rz .boolean (0 : Int32))))))
set_option maxRecDepth 100000 in
set_option maxHeartbeats 4000000 in
theorem s_X7_isSame_15 {X : Cg} (cx : Cx X cX7_isSame RX7 3) (hfr : 1 ≤ (xR X).frames) (hlo : 21 ≤ (xR X).locals) (hr : (xM X).sig.returnType = (some .boolean)) (r0 : Option Nat) (r1 : Option Nat) : ∀ (n : Nat) (x2 : Int32), Sim X 3 (FiM X vI) 15 [(0, va_rf r0), (1, va_rf r1), (2, .int x2)] [] (f_X7_isSame_15 r0 r1 n x2) := by
  intro n
  induction n with
  | zero =>
    intro _
    exact sm_mf
  | succ n ih =>
    intro x2
    rw [f_X7_isSame_15]
    refine sm_iload_n cx 2 dX7_isSame_15 rfl rfl ?_
    refine sm_aload_n cx 0 dX7_isSame_16 rfl rfl ?_
    refine sm_getI cx fl_X7_15 dX7_isSame_17 (fun v17 => ?_)
    refine sm_icmp_ge (tgt := 44) cx dX7_isSame_20 (by decide) ?_ ?_
    · refine sm_iconst (v := 1) cx dX7_isSame_44 (by decide) ?_
      exact sm_zret cx hr dX7_isSame_45
    · refine sm_aload_n cx 0 dX7_isSame_23 rfl rfl ?_
      refine sm_iload_n cx 2 dX7_isSame_24 rfl rfl ?_
      refine sm_callV (T := TX7) (N := 3) (toV := vI) cx [.int x2] rfl cv_X7_56 (fun a h => ct_X7_valueAt (xZ X) a h x2) (Nat.le_trans (by decide) hfr) (Nat.le_trans (by decide) hlo) rfl (cat_le _ (Nat.le_of_ble_eq_true rfl)) dX7_isSame_25 (fun v25 => ?_)
      refine sm_aload_n cx 1 dX7_isSame_28 rfl rfl ?_
      refine sm_iload_n cx 2 dX7_isSame_29 rfl rfl ?_
      refine sm_callV (T := TX7) (N := 3) (toV := vI) cx [.int x2] rfl cv_X7_56 (fun a h => ct_X7_valueAt (xZ X) a h x2) (Nat.le_trans (by decide) hfr) (Nat.le_trans (by decide) hlo) rfl (cat_le _ (Nat.le_of_ble_eq_true rfl)) dX7_isSame_30 (fun v30 => ?_)
      refine sm_icmp_eq (tgt := 38) cx dX7_isSame_33 (by decide) ?_ ?_
      · refine sm_iinc cx 2 [(2, .int (x2 + 1)), (0, va_rf r0), (1, va_rf r1)] dX7_isSame_38 rfl rfl (by decide) rfl (nc1 (rf_cat _)) rfl ?_
        refine sm_goto (tgt := 15) cx dX7_isSame_41 (by decide) ?_
        exact sm_lv [1, 2, 0] rfl (ih (x2 + 1))
      · refine sm_iconst (v := 0) cx dX7_isSame_36 (by decide) ?_
        exact sm_zret cx hr dX7_isSame_37
def f_X7_isSame (r0 : Option Nat) (r1 : Option Nat) : Mo Int32 := mb (gI 10 1 r0) (fun v1 => mb (gI 10 1 r1) (fun v5 => (if v1 = v5 then f_X7_isSame_15 r0 r1 fuL (0 : Int32) else rz .boolean (0 : Int32))))
set_option maxRecDepth 100000 in
set_option maxHeartbeats 4000000 in
theorem s_X7_isSame {X : Cg} (cx : Cx X cX7_isSame RX7 3) (hfr : 1 ≤ (xR X).frames) (hlo : 21 ≤ (xR X).locals) (hr : (xM X).sig.returnType = (some .boolean)) (r0 : Option Nat) (r1 : Option Nat) : Sim X 3 (FiM X vI) 0 [(0, va_rf r0), (1, va_rf r1)] [] (f_X7_isSame r0 r1) := by
  unfold f_X7_isSame
  refine sm_aload_n cx 0 dX7_isSame_0 rfl rfl ?_
  refine sm_getI cx fl_X7_15 dX7_isSame_1 (fun v1 => ?_)
  refine sm_aload_n cx 1 dX7_isSame_4 rfl rfl ?_
  refine sm_getI cx fl_X7_15 dX7_isSame_5 (fun v5 => ?_)
  refine sm_icmp_eq (tgt := 13) cx dX7_isSame_8 (by decide) ?_ ?_
  · refine sm_iconst (v := 0) cx dX7_isSame_13 (by decide) ?_
    refine sm_istore_n cx [(2, .int (0 : Int32)), (0, va_rf r0), (1, va_rf r1)] dX7_isSame_14 rfl (by decide) rfl (nc1 (rf_cat _)) rfl ?_
    exact sm_lv [1, 2, 0] rfl (s_X7_isSame_15 cx hfr hlo hr r0 r1 fuL (0 : Int32))
  · refine sm_iconst (v := 0) cx dX7_isSame_11 (by decide) ?_
    exact sm_zret cx hr dX7_isSame_12
set_option maxRecDepth 100000 in
set_option maxHeartbeats 4000000 in
theorem ct_X7_isSame (Z : Nat → Nat) {r0 : Option Nat} (a0 : Nat) (h0 : r0 = some a0) (r1 : Option Nat) : Ct yX7_isSame cX7_isSame 3 (some .boolean) 1 21 Z [.ref a0, va_rf r1] vI (f_X7_isSame r0 r1) := by
  subst h0
  refine ct_of (lv0 := [(0, va_rf (some a0)), (1, va_rf r1)]) (by decide +kernel) (by simp [lg_sl, ct_i, ct_l, ct_r, rf_cat]) (by show _ = ([(0, Value.ref a0), (1, va_rf r1)] : List (Nat × Value)); simp [lv_args, ct_i, ct_l, ct_r, rf_cat]) (fun X cx hZ hfr hlo hr hin => ?_)
  subst hZ
  exact s_X7_isSame cx (Nat.le_of_eq hfr.symm) (Nat.le_of_eq hlo.symm) hr (some a0) r1
/-! PolicyTree$Outcome.read(LPolicyTree$Row;IIILPolicyTree$Link;)V -/
theorem dX7_read_0 : decode cX7_read 0 = .ok (.aload_n 0, 1) := by decide +kernel
theorem dX7_read_1 : decode cX7_read 1 = .ok (.iconst 0, 1) := by decide +kernel
theorem dX7_read_2 : decode cX7_read 2 = .ok (.putfield 15, 3) := by decide +kernel
theorem dX7_read_5 : decode cX7_read 5 = .ok (.aload_n 0, 1) := by decide +kernel
theorem dX7_read_6 : decode cX7_read 6 = .ok (.aconst_null, 1) := by decide +kernel
theorem dX7_read_7 : decode cX7_read 7 = .ok (.putfield 19, 3) := by decide +kernel
theorem dX7_read_10 : decode cX7_read 10 = .ok (.iconst 0, 1) := by decide +kernel
theorem dX7_read_11 : decode cX7_read 11 = .ok (.istore 6, 2) := by decide +kernel
theorem dX7_read_13 : decode cX7_read 13 = .ok (.iload 6, 2) := by decide +kernel
theorem dX7_read_15 : decode cX7_read 15 = .ok (.aload_n 1, 1) := by decide +kernel
theorem dX7_read_16 : decode cX7_read 16 = .ok (.invokevirtual 23, 3) := by decide +kernel
theorem dX7_read_19 : decode cX7_read 19 = .ok (.if_icmp .ge 68, 3) := by decide +kernel
theorem dX7_read_22 : decode cX7_read 22 = .ok (.aload_n 1, 1) := by decide +kernel
theorem dX7_read_23 : decode cX7_read 23 = .ok (.iload 6, 2) := by decide +kernel
theorem dX7_read_25 : decode cX7_read 25 = .ok (.invokevirtual 28, 3) := by decide +kernel
theorem dX7_read_28 : decode cX7_read 28 = .ok (.astore 7, 2) := by decide +kernel
theorem dX7_read_30 : decode cX7_read 30 = .ok (.aload 7, 2) := by decide +kernel
theorem dX7_read_32 : decode cX7_read 32 = .ok (.ifnull 49, 3) := by decide +kernel
theorem dX7_read_35 : decode cX7_read 35 = .ok (.aload 7, 2) := by decide +kernel
theorem dX7_read_37 : decode cX7_read 37 = .ok (.aload 5, 2) := by decide +kernel
theorem dX7_read_39 : decode cX7_read 39 = .ok (.if_acmp .eq 42, 3) := by decide +kernel
theorem dX7_read_42 : decode cX7_read 42 = .ok (.aload_n 1, 1) := by decide +kernel
theorem dX7_read_43 : decode cX7_read 43 = .ok (.iload 6, 2) := by decide +kernel
theorem dX7_read_45 : decode cX7_read 45 = .ok (.iload 4, 2) := by decide +kernel
theorem dX7_read_47 : decode cX7_read 47 = .ok (.invokevirtual 32, 3) := by decide +kernel
theorem dX7_read_50 : decode cX7_read 50 = .ok (.ifCond .eq 31, 3) := by decide +kernel
theorem dX7_read_53 : decode cX7_read 53 = .ok (.aload 7, 2) := by decide +kernel
theorem dX7_read_55 : decode cX7_read 55 = .ok (.getfield 36, 3) := by decide +kernel
theorem dX7_read_58 : decode cX7_read 58 = .ok (.iload_n 2, 1) := by decide +kernel
theorem dX7_read_59 : decode cX7_read 59 = .ok (.invokevirtual 42, 3) := by decide +kernel
theorem dX7_read_62 : decode cX7_read 62 = .ok (.ifCond .eq 19, 3) := by decide +kernel
theorem dX7_read_65 : decode cX7_read 65 = .ok (.aload_n 0, 1) := by decide +kernel
theorem dX7_read_66 : decode cX7_read 66 = .ok (.aload 7, 2) := by decide +kernel
theorem dX7_read_68 : decode cX7_read 68 = .ok (.aload 7, 2) := by decide +kernel
theorem dX7_read_70 : decode cX7_read 70 = .ok (.getfield 36, 3) := by decide +kernel
theorem dX7_read_73 : decode cX7_read 73 = .ok (.iload_n 2, 1) := by decide +kernel
theorem dX7_read_74 : decode cX7_read 74 = .ok (.invokevirtual 48, 3) := by decide +kernel
theorem dX7_read_77 : decode cX7_read 77 = .ok (.iload_n 3, 1) := by decide +kernel
theorem dX7_read_78 : decode cX7_read 78 = .ok (.invokevirtual 52, 3) := by decide +kernel
theorem dX7_read_81 : decode cX7_read 81 = .ok (.iinc 6 1, 3) := by decide +kernel
theorem dX7_read_84 : decode cX7_read 84 = .ok (.goto (-71), 3) := by decide +kernel
theorem dX7_read_87 : decode cX7_read 87 = .ok (.return_, 1) := by decide +kernel
def f_X7_read_81 (k13 : Int32 → Mo Unit) (r0 : Option Nat) (r1 : Option Nat) (x2 : Int32) (x3 : Int32) (x4 : Int32) (r5 : Option Nat) (x6 : Int32) : Mo Unit := k13 (x6 + 1)
set_option maxRecDepth 100000 in
set_option maxHeartbeats 4000000 in
theorem s_X7_read_81 {X : Cg} (cx : Cx X cX7_read RX7 8) (hfr : 4 ≤ (xR X).frames) (hlo : 85 ≤ (xR X).locals) (hr : (xM X).sig.returnType = none) (r0 : Option Nat) (r1 : Option Nat) (x2 : Int32) (x3 : Int32) (x4 : Int32) (r5 : Option Nat) (x6 : Int32) {k13 : Int32 → Mo Unit} (hk13 : ∀ (x6 : Int32), Sim X 8 (FiM X vV) 13 [(0, va_rf r0), (1, va_rf r1), (2, .int x2), (3, .int x3), (4, .int x4), (5, va_rf r5), (6, .int x6)] [] (k13 x6)) : Sim X 8 (FiM X vV) 81 [(0, va_rf r0), (1, va_rf r1), (2, .int x2), (3, .int x3), (4, .int x4), (5, va_rf r5), (6, .int x6)] [] (f_X7_read_81 k13 r0 r1 x2 x3 x4 r5 x6) := by
  unfold f_X7_read_81
  refine sm_iinc cx 6 [(6, .int (x6 + 1)), (0, va_rf r0), (1, va_rf r1), (2, .int x2), (3, .int x3), (4, .int x4), (5, va_rf r5)] dX7_read_81 rfl rfl (by decide) rfl (nc1 (rf_cat _)) rfl ?_
  refine sm_goto (tgt := 13) cx dX7_read_84 (by decide) ?_
  exact sm_lv [1, 2, 3, 4, 5, 6, 0] rfl (hk13 (x6 + 1))
def f_X7_read_13 (r0 : Option Nat) (r1 : Option Nat) (x2 : Int32) (x3 : Int32) (x4 : Int32) (r5 : Option Nat) : Nat → Int32 → Mo Unit
  | 0, _ => mf
  | n + 1, x6 => mb (mo 11 r1 (f_X8_size r1)) (fun v16 => (if v16 ≤ x6 then mp () else mb (mo 11 r1 (f_X8_linkAt r1 x6)) (fun v25 => (if v25 = none then f_X7_read_81 (f_X7_read_13 r0 r1 x2 x3 x4 r5 n) r0 r1 x2 x3 x4 r5 x6 else (if v25 = r5 then f_X7_read_81 (f_X7_read_13 r0 r1 x2 x3 x4 r5 n) r0 r1 x2 x3 x4 r5 x6 else mb (mo 11 r1 (f_X8_holds r1 x6 x4)) (fun v47 => (if v47 = 0 then f_X7_read_81 (f_X7_read_13 r0 r1 x2 x3 x4 r5 n) r0 r1 x2 x3 x4 r5 x6 else mb (gR 7 2 v25) (fun v55 => mb (mo 3 v55 (f_X0_tells v55 x2)) (fun v59 => (if v59 = 0 then f_X7_read_81 (f_X7_read_13 r0 r1 x2 x3 x4 r5 n) r0 r1 x2 x3 x4 r5 x6 else mb (gR 7 2 v25) (fun v70 => mb (mo 3 v70 (f_X0_valueOf v70 x2)) (fun v74 => mb (mo 10 r0 (f_X7_take r0 v25 v74 x3)) (fun _ => f_X7_read_81 (f_X7_read_13 r0 r1 x2 x3 x4 r5 n) r0 r1 x2 x3 x4 r5 x6)))))))))))))
set_option maxRecDepth 100000 in
set_option maxHeartbeats 4000000 in
theorem s_X7_read_13 {X : Cg} (cx : Cx X cX7_read RX7 8) (hfr : 4 ≤ (xR X).frames) (hlo : 85 ≤ (xR X).locals) (hr : (xM X).sig.returnType = none) (r0 : Option Nat) (r1 : Option Nat) (x2 : Int32) (x3 : Int32) (x4 : Int32) (r5 : Option Nat) : ∀ (n : Nat) (x6 : Int32), Sim X 8 (FiM X vV) 13 [(0, va_rf r0), (1, va_rf r1), (2, .int x2), (3, .int x3), (4, .int x4), (5, va_rf r5), (6, .int x6)] [] (f_X7_read_13 r0 r1 x2 x3 x4 r5 n x6) := by
  intro n
  induction n with
  | zero =>
    intro _
    exact sm_mf
  | succ n ih =>
    intro x6
    rw [f_X7_read_13]
    refine sm_iload cx 6 dX7_read_13 rfl ?_
    refine sm_aload_n cx 1 dX7_read_15 rfl rfl ?_
    refine sm_callV (T := TX8) (N := 4) (toV := vI) cx [] rfl cv_X7_23 (fun a h => ct_X8_size (xZ X) a h) (Nat.le_trans (by decide) hfr) (Nat.le_trans (by decide) hlo) rfl (cat_le _ (Nat.le_of_ble_eq_true rfl)) dX7_read_16 (fun v16 => ?_)
    refine sm_icmp_ge (tgt := 87) cx dX7_read_19 (by decide) ?_ ?_
    · exact sm_vret cx hr dX7_read_87
    · refine sm_aload_n cx 1 dX7_read_22 rfl rfl ?_
      refine sm_iload cx 6 dX7_read_23 rfl ?_
      refine sm_callV (T := TX8) (N := 4) (toV := vR) cx [.int x6] rfl cv_X7_28 (fun a h => ct_X8_linkAt (xZ X) a h x6) (Nat.le_trans (by decide) hfr) (Nat.le_trans (by decide) hlo) rfl (cat_le _ (Nat.le_of_ble_eq_true rfl)) dX7_read_25 (fun v25 => ?_)
      refine sm_astore cx [(7, va_rf v25), (0, va_rf r0), (1, va_rf r1), (2, .int x2), (3, .int x3), (4, .int x4), (5, va_rf r5), (6, .int x6)] dX7_read_28 (by decide) rfl (nc1 rfl) rfl ?_
      refine sm_aload cx 0 dX7_read_30 rfl ?_
      refine sm_ifnull (tgt := 81) cx dX7_read_32 (by decide) ?_ ?_
      · exact sm_lv [1, 2, 3, 4, 5, 6, 7] rfl (s_X7_read_81 cx hfr hlo hr r0 r1 x2 x3 x4 r5 x6 ih)
      · refine sm_aload cx 0 dX7_read_35 rfl ?_
        refine sm_aload cx 6 dX7_read_37 rfl ?_
        refine sm_acmp_eq (tgt := 81) cx dX7_read_39 (by decide) ?_ ?_
        · exact sm_lv [1, 2, 3, 4, 5, 6, 7] rfl (s_X7_read_81 cx hfr hlo hr r0 r1 x2 x3 x4 r5 x6 ih)
        · refine sm_aload_n cx 2 dX7_read_42 rfl rfl ?_
          refine sm_iload cx 7 dX7_read_43 rfl ?_
          refine sm_iload cx 5 dX7_read_45 rfl ?_
          refine sm_callV (T := TX8) (N := 4) (toV := vI) cx [.int x6, .int x4] rfl cv_X7_32 (fun a h => ct_X8_holds (xZ X) a h x6 x4) (Nat.le_trans (by decide) hfr) (Nat.le_trans (by decide) hlo) rfl (cat_le _ (Nat.le_of_ble_eq_true rfl)) dX7_read_47 (fun v47 => ?_)
          refine sm_if_eq (tgt := 81) cx dX7_read_50 (by decide) ?_ ?_
          · exact sm_lv [1, 2, 3, 4, 5, 6, 7] rfl (s_X7_read_81 cx hfr hlo hr r0 r1 x2 x3 x4 r5 x6 ih)
          · refine sm_aload cx 0 dX7_read_53 rfl ?_
            refine sm_getR cx fl_X7_36 dX7_read_55 (fun v55 => ?_)
            refine sm_iload_n cx 3 dX7_read_58 rfl rfl ?_
            refine sm_callV (T := TX0) (N := 2) (toV := vI) cx [.int x2] rfl cv_X7_42 (fun a h => ct_X0_tells (xZ X) a h x2) (Nat.le_trans (by decide) hfr) (Nat.le_trans (by decide) hlo) rfl (cat_le _ (Nat.le_of_ble_eq_true rfl)) dX7_read_59 (fun v59 => ?_)
            refine sm_if_eq (tgt := 81) cx dX7_read_62 (by decide) ?_ ?_
            · exact sm_lv [1, 2, 3, 4, 5, 6, 7] rfl (s_X7_read_81 cx hfr hlo hr r0 r1 x2 x3 x4 r5 x6 ih)
            · refine sm_aload_n cx 1 dX7_read_65 rfl rfl ?_
              refine sm_aload cx 0 dX7_read_66 rfl ?_
              refine sm_aload cx 0 dX7_read_68 rfl ?_
              refine sm_getR cx fl_X7_36 dX7_read_70 (fun v70 => ?_)
              refine sm_iload_n cx 3 dX7_read_73 rfl rfl ?_
              refine sm_callV (T := TX0) (N := 2) (toV := vI) cx [.int x2] rfl cv_X7_48 (fun a h => ct_X0_valueOf (xZ X) a h x2) (Nat.le_trans (by decide) hfr) (Nat.le_trans (by decide) hlo) rfl (cat_le _ (Nat.le_of_ble_eq_true rfl)) dX7_read_74 (fun v74 => ?_)
              refine sm_iload_n cx 4 dX7_read_77 rfl rfl ?_
              refine sm_callV (T := TX7) (N := 3) (toV := vV) cx [va_rf v25, .int v74, .int x3] rfl cv_X7_52 (fun a h => ct_X7_take (xZ X) a h v25 v74 x3) (Nat.le_trans (by decide) hfr) (Nat.le_trans (by decide) hlo) rfl (cat_le _ (Nat.le_of_ble_eq_true rfl)) dX7_read_78 (fun _ => ?_)
              exact sm_lv [1, 2, 3, 4, 5, 6, 7] rfl (s_X7_read_81 cx hfr hlo hr r0 r1 x2 x3 x4 r5 x6 ih)
def f_X7_read (r0 : Option Nat) (r1 : Option Nat) (x2 : Int32) (x3 : Int32) (x4 : Int32) (r5 : Option Nat) : Mo Unit := mb (pV 10 1 r0 (.int (0 : Int32))) (fun _ => mb (pV 10 2 r0 (va_rf none)) (fun _ => f_X7_read_13 r0 r1 x2 x3 x4 r5 fuL (0 : Int32)))
set_option maxRecDepth 100000 in
set_option maxHeartbeats 4000000 in
theorem s_X7_read {X : Cg} (cx : Cx X cX7_read RX7 8) (hfr : 4 ≤ (xR X).frames) (hlo : 85 ≤ (xR X).locals) (hr : (xM X).sig.returnType = none) (r0 : Option Nat) (r1 : Option Nat) (x2 : Int32) (x3 : Int32) (x4 : Int32) (r5 : Option Nat) : Sim X 8 (FiM X vV) 0 [(0, va_rf r0), (1, va_rf r1), (2, .int x2), (3, .int x3), (4, .int x4), (5, va_rf r5)] [] (f_X7_read r0 r1 x2 x3 x4 r5) := by
  unfold f_X7_read
  refine sm_aload_n cx 0 dX7_read_0 rfl rfl ?_
  refine sm_iconst (v := 0) cx dX7_read_1 (by decide) ?_
  refine sm_putV cx fl_X7_15 rfl rfl dX7_read_2 ?_
  refine sm_aload_n cx 0 dX7_read_5 rfl rfl ?_
  refine sm_null cx dX7_read_6 ?_
  refine sm_putV cx fl_X7_19 (nr_rf _) (ft_rf _) dX7_read_7 ?_
  refine sm_iconst (v := 0) cx dX7_read_10 (by decide) ?_
  refine sm_istore cx [(6, .int (0 : Int32)), (0, va_rf r0), (1, va_rf r1), (2, .int x2), (3, .int x3), (4, .int x4), (5, va_rf r5)] dX7_read_11 (by decide) rfl (nc1 (rf_cat _)) rfl ?_
  exact sm_lv [1, 2, 3, 4, 5, 6, 0] rfl (s_X7_read_13 cx hfr hlo hr r0 r1 x2 x3 x4 r5 fuL (0 : Int32))
set_option maxRecDepth 100000 in
set_option maxHeartbeats 4000000 in
theorem ct_X7_read (Z : Nat → Nat) {r0 : Option Nat} (a0 : Nat) (h0 : r0 = some a0) (r1 : Option Nat) (x2 : Int32) (x3 : Int32) (x4 : Int32) (r5 : Option Nat) : Ct yX7_read cX7_read 8 none 4 85 Z [.ref a0, va_rf r1, .int x2, .int x3, .int x4, va_rf r5] vV (f_X7_read r0 r1 x2 x3 x4 r5) := by
  subst h0
  refine ct_of (lv0 := [(0, va_rf (some a0)), (1, va_rf r1), (2, .int x2), (3, .int x3), (4, .int x4), (5, va_rf r5)]) (by decide +kernel) (by simp [lg_sl, ct_i, ct_l, ct_r, rf_cat]) (by show _ = ([(0, Value.ref a0), (1, va_rf r1), (2, .int x2), (3, .int x3), (4, .int x4), (5, va_rf r5)] : List (Nat × Value)); simp [lv_args, ct_i, ct_l, ct_r, rf_cat]) (fun X cx hZ hfr hlo hr hin => ?_)
  subst hZ
  exact s_X7_read cx (Nat.le_of_eq hfr.symm) (Nat.le_of_eq hlo.symm) hr (some a0) r1 x2 x3 x4 r5
