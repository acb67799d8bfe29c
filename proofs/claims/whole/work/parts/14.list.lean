theorem inT_Jx4a65c : ∀ w ∈ u_ws RJx4a65c TJx4a65c 3, w ∈ TB := by
  intro w h
  obtain ⟨k, hk, rfl⟩ := List.mem_map.mp h
  have hk := List.mem_range.mp hk
  match k, hk with
  | 0, _ => exact wd_1_66
  | 1, _ => exact wd_1_62
  | 2, _ => exact wd_1_64
  | k + 3, hk => exact absurd hk (by omega)
theorem fl_Jxc12de_7 : FldOk RJxc12de 7 2 0 .int false true := ⟨RJx4a65c, TJx4a65c, 3, "java/util/AbstractList", tyJx4a65c, rfl, by decide, inT_Jx4a65c, tyJx4a65c_ok, nmJx4a65c, wd_1_59, Or.inl rfl, tyJx4a65c_ok 0 (by decide), rfl, fun _ => rfl⟩
theorem fl_Jx4a65c_9 : FldOk RJx4a65c 9 2 1 (.array (.object "java/lang/Object")) false true := ⟨RJx4a65c, TJx4a65c, 3, "java/util/ArrayList", tyJx4a65c, rfl, by decide, inT_Jx4a65c, tyJx4a65c_ok, nmJx4a65c, wd_1_57, Or.inl rfl, tyJx4a65c_ok 1 (by decide), rfl, fun _ => rfl⟩
theorem fl_Jx4a65c_48 : FldOk RJx4a65c 48 2 2 .int false true := ⟨RJx4a65c, TJx4a65c, 3, "java/util/ArrayList", tyJx4a65c, rfl, by decide, inT_Jx4a65c, tyJx4a65c_ok, nmJx4a65c, wd_1_58, Or.inl rfl, tyJx4a65c_ok 2 (by decide), rfl, fun _ => rfl⟩
theorem fl_Jx4a65c_63 : FldOk RJx4a65c 63 2 0 .int false false := ⟨RJx4a65c, TJx4a65c, 3, "java/util/ArrayList", tyJx4a65c, rfl, by decide, inT_Jx4a65c, tyJx4a65c_ok, nmJx4a65c, wd_1_60, Or.inr wd_1_61, tyJx4a65c_ok 0 (by decide), rfl, fun h => nomatch h⟩
theorem ci_Jxc12de_1 : CalI RJxc12de 1 yJxa1e45_init_da8c8 cJxa1e45_init_da8c8 1 0 := ⟨⟨wd_1_2, wd_1_52, wd_1_53⟩, Or.inl wd_1_51, rfl, by decide +kernel, by decide +kernel, by decide +kernel⟩
theorem ci_Jx4a65c_1 : CalI RJx4a65c 1 yJxc12de_init_da8c8 cJxc12de_init_da8c8 1 0 := ⟨⟨wd_1_3, wd_1_49, wd_1_50⟩, Or.inl wd_1_48, rfl, by decide +kernel, by decide +kernel, by decide +kernel⟩
theorem cs_J7_300 : CalS RJ7 300 yJ7_copyOf_6403c cJ7_copyOf_6403c 4 (some (.array (.object "java/lang/Object"))) 3 := ⟨wd_S wd_2_35 wd_2_36 wd_1_14 wd_2_37, by decide +kernel, by decide +kernel, by decide +kernel⟩
theorem cs_Jx4a65c_73 : CalS RJx4a65c 73 yJ8_newLength_cabcc cJ8_newLength_cabcc 4 (some .int) 3 := ⟨wd_S wd_1_239 wd_2_0 wd_1_12 wd_2_1, by decide +kernel, by decide +kernel, by decide +kernel⟩
theorem cs_Jx4a65c_66 : CalS RJx4a65c 66 yJ7_copyOf_1904c cJ7_copyOf_1904c 2 (some (.array (.object "java/lang/Object"))) 2 := ⟨wd_S wd_2_9 wd_2_10 wd_1_14 wd_2_11, by decide +kernel, by decide +kernel, by decide +kernel⟩
theorem cv_Jx4a65c_69 : CalV RJx4a65c 69 RJx4a65c yJx4a65c_grow_92f84 cJx4a65c_grow_92f84 4 (some (.array (.object "java/lang/Object"))) 1 := ⟨wd_V wd_1_235 wd_1_237 wp_1_2 wd_1_4 wd_1_238, rfl, by decide +kernel, by decide +kernel, by decide +kernel⟩
theorem cs_J15_105 : CalS RJ15 105 yJ3_checkIndex_8e157 cJ3_checkIndex_8e157 3 (some .int) 3 := ⟨wd_S wd_2_135 wd_2_136 wd_1_23 wd_2_137, by decide +kernel, by decide +kernel, by decide +kernel⟩
theorem cs_Jx4a65c_118 : CalS RJx4a65c 118 yJ15_checkIndex_7cf53 cJ15_checkIndex_7cf53 2 (some .int) 2 := ⟨wd_S wd_2_132 wd_2_133 wd_1_22 wd_2_134, by decide +kernel, by decide +kernel, by decide +kernel⟩
theorem cv_Jx4a65c_123 : CalV RJx4a65c 123 RJx4a65c yJx4a65c_elementData_915e3 cJx4a65c_elementData_915e3 2 (some (.object "java/lang/Object")) 1 := ⟨wd_V wd_2_138 wd_2_139 wd_2_140 wd_1_4 wd_2_141, rfl, by decide +kernel, by decide +kernel, by decide +kernel⟩
theorem cv_Jx4a65c_129 : CalV RJx4a65c 129 RJx4a65c yJx4a65c_grow_d5877 cJx4a65c_grow_d5877 1 (some (.array (.object "java/lang/Object"))) 0 := ⟨wd_V wd_1_231 wd_1_233 wp_1_1 wd_1_4 wd_1_234, rfl, by decide +kernel, by decide +kernel, by decide +kernel⟩
theorem cv_Jx4a65c_131 : CalV RJx4a65c 131 RJx4a65c yJx4a65c_add_72be8 cJx4a65c_add_72be8 4 none 3 := ⟨wd_V wd_1_227 wd_1_229 wp_1_0 wd_1_4 wd_1_230, rfl, by decide +kernel, by decide +kernel, by decide +kernel⟩
theorem cv_Jx4a65c_135 : CalV RJx4a65c 135 RJx4a65c yJx4a65c_rangeCheckForAdd_d00df cJx4a65c_rangeCheckForAdd_d00df 2 none 1 := ⟨wd_V wd_5_23 wd_5_25 wp_2_7 wd_1_4 wd_5_26, rfl, by decide +kernel, by decide +kernel, by decide +kernel⟩
theorem cv_Jx4a65c_144 : CalV RJx4a65c 144 RJx4a65c yJx4a65c_fastRemove_b59b0 cJx4a65c_fastRemove_b59b0 4 none 2 := ⟨wd_V wd_6_15 wd_6_17 wp_2_9 wd_1_4 wd_6_18, rfl, by decide +kernel, by decide +kernel, by decide +kernel⟩
/-! java/util/AbstractCollection.<init>()V -/
theorem dJxa1e45_init_da8c8_0 : decode cJxa1e45_init_da8c8 0 = .ok (.aload_n 0, 1) := by decide +kernel
theorem dJxa1e45_init_da8c8_1 : decode cJxa1e45_init_da8c8 1 = .ok (.invokespecial 1, 3) := by decide +kernel
theorem dJxa1e45_init_da8c8_4 : decode cJxa1e45_init_da8c8 4 = .ok (.return_, 1) := by decide +kernel
def f_Jxa1e45_init_da8c8 (r0 : Option Nat) : Mo Unit := mb (mo 2 r0 (mp ())) (fun _ => mp ())
set_option maxRecDepth 100000 in
set_option maxHeartbeats 4000000 in
theorem s_Jxa1e45_init_da8c8 {X : Cg} (cx : Cx X cJxa1e45_init_da8c8 RJxa1e45 1) (hfr : 1 ≤ (xR X).frames) (hlo : 12 ≤ (xR X).locals) (hr : (xM X).sig.returnType = none) (hin : (xM X).name = "<init>") (r0 : Option Nat) : Sim X 1 (FiM X vV) 0 [(0, va_rf r0)] [] (f_Jxa1e45_init_da8c8 r0) := by
  unfold f_Jxa1e45_init_da8c8
  refine sm_aload_n cx 0 dJxa1e45_init_da8c8_0 rfl rfl ?_
  refine sm_obj (ci := 2) cx wd_1_54 wd_1_41 wd_1_42 (Nat.le_trans (by decide) hfr) (Nat.le_trans (by decide) hlo) dJxa1e45_init_da8c8_1 rfl ?_
  exact sm_vret cx hr dJxa1e45_init_da8c8_4
set_option maxRecDepth 100000 in
set_option maxHeartbeats 4000000 in
theorem ct_Jxa1e45_init_da8c8 (Z : Nat → Nat) {r0 : Option Nat} (a0 : Nat) (h0 : r0 = some a0) : Ct yJxa1e45_init_da8c8 cJxa1e45_init_da8c8 1 none 1 12 Z [.ref a0] vV (f_Jxa1e45_init_da8c8 r0) := by
  subst h0
  refine ct_of (lv0 := [(0, va_rf (some a0))]) (by decide +kernel) (by simp [lg_sl, ct_i, ct_l, ct_r, rf_cat]) (by show _ = ([(0, Value.ref a0)] : List (Nat × Value)); simp [lv_args, ct_i, ct_l, ct_r, rf_cat]) (fun X cx hZ hfr hlo hr hin => ?_)
  subst hZ
  exact s_Jxa1e45_init_da8c8 cx (Nat.le_of_eq hfr.symm) (Nat.le_of_eq hlo.symm) hr hin (some a0)
/-! java/util/AbstractList.<init>()V -/
theorem dJxc12de_init_da8c8_0 : decode cJxc12de_init_da8c8 0 = .ok (.aload_n 0, 1) := by decide +kernel
theorem dJxc12de_init_da8c8_1 : decode cJxc12de_init_da8c8 1 = .ok (.invokespecial 1, 3) := by decide +kernel
theorem dJxc12de_init_da8c8_4 : decode cJxc12de_init_da8c8 4 = .ok (.aload_n 0, 1) := by decide +kernel
theorem dJxc12de_init_da8c8_5 : decode cJxc12de_init_da8c8 5 = .ok (.iconst 0, 1) := by decide +kernel
theorem dJxc12de_init_da8c8_6 : decode cJxc12de_init_da8c8 6 = .ok (.putfield 7, 3) := by decide +kernel
theorem dJxc12de_init_da8c8_9 : decode cJxc12de_init_da8c8 9 = .ok (.return_, 1) := by decide +kernel
def f_Jxc12de_init_da8c8 (r0 : Option Nat) : Mo Unit := mb (mo 2 r0 (f_Jxa1e45_init_da8c8 r0)) (fun _ => mb (pV 2 0 r0 (.int (0 : Int32))) (fun _ => mp ()))
set_option maxRecDepth 100000 in
set_option maxHeartbeats 4000000 in
theorem s_Jxc12de_init_da8c8 {X : Cg} (cx : Cx X cJxc12de_init_da8c8 RJxc12de 1) (hfr : 2 ≤ (xR X).frames) (hlo : 32 ≤ (xR X).locals) (hr : (xM X).sig.returnType = none) (hin : (xM X).name = "<init>") (r0 : Option Nat) : Sim X 1 (FiM X vV) 0 [(0, va_rf r0)] [] (f_Jxc12de_init_da8c8 r0) := by
  unfold f_Jxc12de_init_da8c8
  refine sm_aload_n cx 0 dJxc12de_init_da8c8_0 rfl rfl ?_
  refine sm_callI (ci := 2) (toV := vV) cx [] ci_Jxc12de_1 (fun a h => ct_Jxa1e45_init_da8c8 (xZ X) a h) (Nat.le_trans (by decide) hfr) (Nat.le_trans (by decide) hlo) rfl (cat_le _ (Nat.le_of_ble_eq_true rfl)) dJxc12de_init_da8c8_1 (fun _ => ?_)
  refine sm_aload_n cx 0 dJxc12de_init_da8c8_4 rfl rfl ?_
  refine sm_iconst (v := 0) cx dJxc12de_init_da8c8_5 (by decide) ?_
  refine sm_putV cx fl_Jxc12de_7 rfl rfl dJxc12de_init_da8c8_6 ?_
  exact sm_vret cx hr dJxc12de_init_da8c8_9
set_option maxRecDepth 100000 in
set_option maxHeartbeats 4000000 in
theorem ct_Jxc12de_init_da8c8 (Z : Nat → Nat) {r0 : Option Nat} (a0 : Nat) (h0 : r0 = some a0) : Ct yJxc12de_init_da8c8 cJxc12de_init_da8c8 1 none 2 32 Z [.ref a0] vV (f_Jxc12de_init_da8c8 r0) := by
  subst h0
  refine ct_of (lv0 := [(0, va_rf (some a0))]) (by decide +kernel) (by simp [lg_sl, ct_i, ct_l, ct_r, rf_cat]) (by show _ = ([(0, Value.ref a0)] : List (Nat × Value)); simp [lv_args, ct_i, ct_l, ct_r, rf_cat]) (fun X cx hZ hfr hlo hr hin => ?_)
  subst hZ
  exact s_Jxc12de_init_da8c8 cx (Nat.le_of_eq hfr.symm) (Nat.le_of_eq hlo.symm) hr hin (some a0)
/-! java/util/ArrayList.<init>()V -/
theorem dJx4a65c_init_da8c8_0 : decode cJx4a65c_init_da8c8 0 = .ok (.aload_n 0, 1) := by decide +kernel
theorem dJx4a65c_init_da8c8_1 : decode cJx4a65c_init_da8c8 1 = .ok (.invokespecial 1, 3) := by decide +kernel
theorem dJx4a65c_init_da8c8_4 : decode cJx4a65c_init_da8c8 4 = .ok (.aload_n 0, 1) := by decide +kernel
theorem dJx4a65c_init_da8c8_5 : decode cJx4a65c_init_da8c8 5 = .ok (.getstatic 39, 3) := by decide +kernel
theorem dJx4a65c_init_da8c8_8 : decode cJx4a65c_init_da8c8 8 = .ok (.putfield 9, 3) := by decide +kernel
theorem dJx4a65c_init_da8c8_11 : decode cJx4a65c_init_da8c8 11 = .ok (.return_, 1) := by decide +kernel
def f_Jx4a65c_init_da8c8 (Z : Nat → Nat) (r0 : Option Nat) : Mo Unit := mb (mo 2 r0 (f_Jxc12de_init_da8c8 r0)) (fun _ => mb (pV 2 1 r0 (va_rf (some (Z 0)))) (fun _ => mp ()))
set_option maxRecDepth 100000 in
set_option maxHeartbeats 4000000 in
theorem s_Jx4a65c_init_da8c8 {X : Cg} (cx : Cx X cJx4a65c_init_da8c8 RJx4a65c 1) (hfr : 3 ≤ (xR X).frames) (hlo : 52 ≤ (xR X).locals) (hr : (xM X).sig.returnType = none) (hin : (xM X).name = "<init>") (r0 : Option Nat) : Sim X 1 (FiM X vV) 0 [(0, va_rf r0)] [] (f_Jx4a65c_init_da8c8 (xZ X) r0) := by
  unfold f_Jx4a65c_init_da8c8
  refine sm_aload_n cx 0 dJx4a65c_init_da8c8_0 rfl rfl ?_
  refine sm_callI (ci := 2) (toV := vV) cx [] ci_Jx4a65c_1 (fun a h => ct_Jxc12de_init_da8c8 (xZ X) a h) (Nat.le_trans (by decide) hfr) (Nat.le_trans (by decide) hlo) rfl (cat_le _ (Nat.le_of_ble_eq_true rfl)) dJx4a65c_init_da8c8_1 (fun _ => ?_)
  refine sm_aload_n cx 0 dJx4a65c_init_da8c8_4 rfl rfl ?_
  refine sm_gsE cx wd_1_55 dJx4a65c_init_da8c8_5 ?_
  refine sm_putV cx fl_Jx4a65c_9 (nr_ra _) (ft_ra _) dJx4a65c_init_da8c8_8 ?_
  exact sm_vret cx hr dJx4a65c_init_da8c8_11
set_option maxRecDepth 100000 in
set_option maxHeartbeats 4000000 in
theorem ct_Jx4a65c_init_da8c8 (Z : Nat → Nat) {r0 : Option Nat} (a0 : Nat) (h0 : r0 = some a0) : Ct yJx4a65c_init_da8c8 cJx4a65c_init_da8c8 1 none 3 52 Z [.ref a0] vV (f_Jx4a65c_init_da8c8 Z r0) := by
  subst h0
  refine ct_of (lv0 := [(0, va_rf (some a0))]) (by decide +kernel) (by simp [lg_sl, ct_i, ct_l, ct_r, rf_cat]) (by show _ = ([(0, Value.ref a0)] : List (Nat × Value)); simp [lv_args, ct_i, ct_l, ct_r, rf_cat]) (fun X cx hZ hfr hlo hr hin => ?_)
  subst hZ
  exact s_Jx4a65c_init_da8c8 cx (Nat.le_of_eq hfr.symm) (Nat.le_of_eq hlo.symm) hr hin (some a0)
/-! jdk/internal/util/ArraysSupport.newLength(III)I -/
theorem dJ8_newLength_cabcc_0 : decode cJ8_newLength_cabcc 0 = .ok (.iload_n 0, 1) := by decide +kernel
theorem dJ8_newLength_cabcc_1 : decode cJ8_newLength_cabcc 1 = .ok (.iload_n 1, 1) := by decide +kernel
theorem dJ8_newLength_cabcc_2 : decode cJ8_newLength_cabcc 2 = .ok (.iload_n 2, 1) := by decide +kernel
theorem dJ8_newLength_cabcc_3 : decode cJ8_newLength_cabcc 3 = .ok (.invokestatic 194, 3) := by decide +kernel
theorem dJ8_newLength_cabcc_6 : decode cJ8_newLength_cabcc 6 = .ok (.iadd, 1) := by decide +kernel
theorem dJ8_newLength_cabcc_7 : decode cJ8_newLength_cabcc 7 = .ok (.istore_n 3, 1) := by decide +kernel
theorem dJ8_newLength_cabcc_8 : decode cJ8_newLength_cabcc 8 = .ok (.iconst 0, 1) := by decide +kernel
theorem dJ8_newLength_cabcc_9 : decode cJ8_newLength_cabcc 9 = .ok (.iload_n 3, 1) := by decide +kernel
theorem dJ8_newLength_cabcc_10 : decode cJ8_newLength_cabcc 10 = .ok (.if_icmp .ge 11, 3) := by decide +kernel
theorem dJ8_newLength_cabcc_13 : decode cJ8_newLength_cabcc 13 = .ok (.iload_n 3, 1) := by decide +kernel
theorem dJ8_newLength_cabcc_14 : decode cJ8_newLength_cabcc 14 = .ok (.ldc 200, 2) := by decide +kernel
theorem dJ8_newLength_cabcc_16 : decode cJ8_newLength_cabcc 16 = .ok (.if_icmp .gt 5, 3) := by decide +kernel
theorem dJ8_newLength_cabcc_19 : decode cJ8_newLength_cabcc 19 = .ok (.iload_n 3, 1) := by decide +kernel
theorem dJ8_newLength_cabcc_20 : decode cJ8_newLength_cabcc 20 = .ok (.ireturn, 1) := by decide +kernel
theorem dJ8_newLength_cabcc_21 : decode cJ8_newLength_cabcc 21 = .ok (.iload_n 0, 1) := by decide +kernel
theorem dJ8_newLength_cabcc_22 : decode cJ8_newLength_cabcc 22 = .ok (.iload_n 1, 1) := by decide +kernel
theorem dJ8_newLength_cabcc_23 : decode cJ8_newLength_cabcc 23 = .ok (.invokestatic 201, 3) := by decide +kernel
theorem dJ8_newLength_cabcc_26 : decode cJ8_newLength_cabcc 26 = .ok (.ireturn, 1) := by decide +kernel
def f_J8_newLength_cabcc_21 (x0 : Int32) (x1 : Int32) : Mo Int32 := mf
set_option maxRecDepth 100000 in
set_option maxHeartbeats 4000000 in
theorem s_J8_newLength_cabcc_21 {X : Cg} (cx : Cx X cJ8_newLength_cabcc RJ8 4) (hfr : 1 ≤ (xR X).frames) (hlo : 21 ≤ (xR X).locals) (hr : (xM X).sig.returnType = (some .int)) (x0 : Int32) (x1 : Int32) : Sim X 4 (FiM X vI) 21 [(0, .int x0), (1, .int x1)] [] (f_J8_newLength_cabcc_21 x0 x1) := by
  unfold f_J8_newLength_cabcc_21
  refine sm_iload_n cx 0 dJ8_newLength_cabcc_21 rfl rfl ?_
  refine sm_iload_n cx 1 dJ8_newLength_cabcc_22 rfl rfl ?_
  exact sm_mf
def f_J8_newLength_cabcc (x0 : Int32) (x1 : Int32) (x2 : Int32) : Mo Int32 := (if (x0 + (jMx x1 x2)) ≤ (0 : Int32) then f_J8_newLength_cabcc_21 x0 x1 else (if (2147483639 : Int32) < (x0 + (jMx x1 x2)) then f_J8_newLength_cabcc_21 x0 x1 else mp (x0 + (jMx x1 x2))))
set_option maxRecDepth 100000 in
set_option maxHeartbeats 4000000 in
theorem s_J8_newLength_cabcc {X : Cg} (cx : Cx X cJ8_newLength_cabcc RJ8 4) (hfr : 1 ≤ (xR X).frames) (hlo : 21 ≤ (xR X).locals) (hr : (xM X).sig.returnType = (some .int)) (x0 : Int32) (x1 : Int32) (x2 : Int32) : Sim X 4 (FiM X vI) 0 [(0, .int x0), (1, .int x1), (2, .int x2)] [] (f_J8_newLength_cabcc x0 x1 x2) := by
  unfold f_J8_newLength_cabcc
  refine sm_iload_n cx 0 dJ8_newLength_cabcc_0 rfl rfl ?_
  refine sm_iload_n cx 1 dJ8_newLength_cabcc_1 rfl rfl ?_
  refine sm_iload_n cx 2 dJ8_newLength_cabcc_2 rfl rfl ?_
  refine sm_mmax cx wd_2_2 wd_2_3 wd_1_13 wd_2_4 (Nat.le_trans (by decide) hfr) (Nat.le_trans (Nat.add_le_add_right (cat_le _ (Nat.le_of_ble_eq_true rfl)) 13) (Nat.le_trans (by decide) hlo)) dJ8_newLength_cabcc_3 ?_
  refine sm_iadd cx dJ8_newLength_cabcc_6 ?_
  refine sm_istore_n cx [(3, .int (x0 + (jMx x1 x2))), (0, .int x0), (1, .int x1), (2, .int x2)] dJ8_newLength_cabcc_7 rfl (by decide) rfl (nc1 rfl) rfl ?_
  refine sm_iconst (v := 0) cx dJ8_newLength_cabcc_8 (by decide) ?_
  refine sm_iload_n cx 0 dJ8_newLength_cabcc_9 rfl rfl ?_
  refine sm_icmp_ge (tgt := 21) cx dJ8_newLength_cabcc_10 (by decide) ?_ ?_
  · exact sm_lv [1, 2] rfl (s_J8_newLength_cabcc_21 cx hfr hlo hr x0 x1)
  · refine sm_iload_n cx 0 dJ8_newLength_cabcc_13 rfl rfl ?_
    refine sm_ldc (v := 2147483639) cx dJ8_newLength_cabcc_14 wd_2_5 ?_
    refine sm_icmp_gt (tgt := 21) cx dJ8_newLength_cabcc_16 (by decide) ?_ ?_
    · exact sm_lv [1, 2] rfl (s_J8_newLength_cabcc_21 cx hfr hlo hr x0 x1)
    · refine sm_iload_n cx 0 dJ8_newLength_cabcc_19 rfl rfl ?_
      exact sm_iret cx hr dJ8_newLength_cabcc_20
set_option maxRecDepth 100000 in
set_option maxHeartbeats 4000000 in
theorem ct_J8_newLength_cabcc (Z : Nat → Nat) (x0 : Int32) (x1 : Int32) (x2 : Int32) : Ct yJ8_newLength_cabcc cJ8_newLength_cabcc 4 (some .int) 1 21 Z [.int x0, .int x1, .int x2] vI (f_J8_newLength_cabcc x0 x1 x2) := by
  refine ct_of (lv0 := [(0, .int x0), (1, .int x1), (2, .int x2)]) (by decide +kernel) (by simp [lg_sl, ct_i, ct_l, ct_r, rf_cat]) (by show _ = ([(0, .int x0), (1, .int x1), (2, .int x2)] : List (Nat × Value)); simp [lv_args, ct_i, ct_l, ct_r, rf_cat]) (fun X cx hZ hfr hlo hr hin => ?_)
  subst hZ
  exact s_J8_newLength_cabcc cx (Nat.le_of_eq hfr.symm) (Nat.le_of_eq hlo.symm) hr x0 x1 x2
/-! java/util/Arrays.copyOf([Ljava/lang/Object;ILjava/lang/Class;)[Ljava/lang/Object; -/
theorem dJ7_copyOf_6403c_0 : decode cJ7_copyOf_6403c 0 = .ok (.aload_n 2, 1) := by decide +kernel
theorem dJ7_copyOf_6403c_1 : decode cJ7_copyOf_6403c 1 = .ok (.ldc 110, 2) := by decide +kernel
theorem dJ7_copyOf_6403c_3 : decode cJ7_copyOf_6403c 3 = .ok (.if_acmp .ne 10, 3) := by decide +kernel
theorem dJ7_copyOf_6403c_6 : decode cJ7_copyOf_6403c 6 = .ok (.iload_n 1, 1) := by decide +kernel
theorem dJ7_copyOf_6403c_7 : decode cJ7_copyOf_6403c 7 = .ok (.anewarray 2, 3) := by decide +kernel
theorem dJ7_copyOf_6403c_10 : decode cJ7_copyOf_6403c 10 = .ok (.goto 14, 3) := by decide +kernel
theorem dJ7_copyOf_6403c_13 : decode cJ7_copyOf_6403c 13 = .ok (.aload_n 2, 1) := by decide +kernel
theorem dJ7_copyOf_6403c_14 : decode cJ7_copyOf_6403c 14 = .ok (.invokevirtual 90, 3) := by decide +kernel
theorem dJ7_copyOf_6403c_17 : decode cJ7_copyOf_6403c 17 = .ok (.iload_n 1, 1) := by decide +kernel
theorem dJ7_copyOf_6403c_18 : decode cJ7_copyOf_6403c 18 = .ok (.invokestatic 95, 3) := by decide +kernel
theorem dJ7_copyOf_6403c_21 : decode cJ7_copyOf_6403c 21 = .ok (.checkcast 110, 3) := by decide +kernel
theorem dJ7_copyOf_6403c_24 : decode cJ7_copyOf_6403c 24 = .ok (.astore_n 3, 1) := by decide +kernel
theorem dJ7_copyOf_6403c_25 : decode cJ7_copyOf_6403c 25 = .ok (.aload_n 0, 1) := by decide +kernel
theorem dJ7_copyOf_6403c_26 : decode cJ7_copyOf_6403c 26 = .ok (.iconst 0, 1) := by decide +kernel
theorem dJ7_copyOf_6403c_27 : decode cJ7_copyOf_6403c 27 = .ok (.aload_n 3, 1) := by decide +kernel
theorem dJ7_copyOf_6403c_28 : decode cJ7_copyOf_6403c 28 = .ok (.iconst 0, 1) := by decide +kernel
theorem dJ7_copyOf_6403c_29 : decode cJ7_copyOf_6403c 29 = .ok (.aload_n 0, 1) := by decide +kernel
theorem dJ7_copyOf_6403c_30 : decode cJ7_copyOf_6403c 30 = .ok (.arraylength, 1) := by decide +kernel
theorem dJ7_copyOf_6403c_31 : decode cJ7_copyOf_6403c 31 = .ok (.iload_n 1, 1) := by decide +kernel
theorem dJ7_copyOf_6403c_32 : decode cJ7_copyOf_6403c 32 = .ok (.invokestatic 304, 3) := by decide +kernel
theorem dJ7_copyOf_6403c_35 : decode cJ7_copyOf_6403c 35 = .ok (.invokestatic 150, 3) := by decide +kernel
theorem dJ7_copyOf_6403c_38 : decode cJ7_copyOf_6403c 38 = .ok (.aload_n 3, 1) := by decide +kernel
theorem dJ7_copyOf_6403c_39 : decode cJ7_copyOf_6403c 39 = .ok (.areturn, 1) := by decide +kernel
def f_J7_copyOf_6403c_24 (Z : Nat → Nat) (r0 : Option Nat) (x1 : Int32) (sr0 : Option Nat) : Mo (Option Nat) := mb (aNq Z r0) (fun v30 => mb (cpR r0 (0 : Int32) sr0 (0 : Int32) (jMn v30 x1)) (fun _ => mp sr0))
set_option maxRecDepth 100000 in
set_option maxHeartbeats 4000000 in
theorem s_J7_copyOf_6403c_24 {X : Cg} (cx : Cx X cJ7_copyOf_6403c RJ7 4) (hfr : 1 ≤ (xR X).frames) (hlo : 39 ≤ (xR X).locals) (hr : (xM X).sig.returnType = (some (.array (.object "java/lang/Object")))) (r0 : Option Nat) (x1 : Int32) (sr0 : Option Nat) : Sim X 4 (FiM X vR) 24 [(0, va_rf r0), (1, .int x1)] [va_rf sr0] (f_J7_copyOf_6403c_24 (xZ X) r0 x1 sr0) := by
  unfold f_J7_copyOf_6403c_24
  refine sm_astore_n cx [(3, va_rf sr0), (0, va_rf r0), (1, .int x1)] dJ7_copyOf_6403c_24 rfl (by decide) rfl nc0 rfl ?_
  refine sm_aload_n cx 1 dJ7_copyOf_6403c_25 rfl rfl ?_
  refine sm_iconst (v := 0) cx dJ7_copyOf_6403c_26 (by decide) ?_
  refine sm_aload_n cx 0 dJ7_copyOf_6403c_27 rfl rfl ?_
  refine sm_iconst (v := 0) cx dJ7_copyOf_6403c_28 (by decide) ?_
  refine sm_aload_n cx 1 dJ7_copyOf_6403c_29 rfl rfl ?_
  refine sm_aNq cx dJ7_copyOf_6403c_30 (fun v30 => ?_)
  refine sm_iload_n cx 2 dJ7_copyOf_6403c_31 rfl rfl ?_
  refine sm_mmin cx wd_2_41 wd_2_42 wd_1_13 wd_2_43 (Nat.le_trans (by decide) hfr) (Nat.le_trans (Nat.add_le_add_right (cat_le _ (Nat.le_of_ble_eq_true rfl)) 13) (Nat.le_trans (by decide) hlo)) dJ7_copyOf_6403c_32 ?_
  refine sm_cpR cx wd_2_44 wd_2_46 wd_2_45 wd_1_15 (Nat.le_trans (by decide) hfr) (cat_le _ (Nat.le_of_ble_eq_true rfl)) (Nat.le_trans (by decide) hlo) dJ7_copyOf_6403c_35 ?_
  refine sm_aload_n cx 0 dJ7_copyOf_6403c_38 rfl rfl ?_
  exact sm_aret cx hr (Or.inr ⟨_, rfl⟩) dJ7_copyOf_6403c_39
def f_J7_copyOf_6403c (Z : Nat → Nat) (r0 : Option Nat) (x1 : Int32) (r2 : Option Nat) : Mo (Option Nat) := (if r2 = (some (Z 2)) then mb (nA 4 x1) (fun v7 => f_J7_copyOf_6403c_24 Z r0 x1 v7) else mf)
set_option maxRecDepth 100000 in
set_option maxHeartbeats 4000000 in
theorem s_J7_copyOf_6403c {X : Cg} (cx : Cx X cJ7_copyOf_6403c RJ7 4) (hfr : 1 ≤ (xR X).frames) (hlo : 39 ≤ (xR X).locals) (hr : (xM X).sig.returnType = (some (.array (.object "java/lang/Object")))) (r0 : Option Nat) (x1 : Int32) (r2 : Option Nat) : Sim X 4 (FiM X vR) 0 [(0, va_rf r0), (1, .int x1), (2, va_rf r2)] [] (f_J7_copyOf_6403c (xZ X) r0 x1 r2) := by
  unfold f_J7_copyOf_6403c
  refine sm_aload_n cx 2 dJ7_copyOf_6403c_0 rfl rfl ?_
  refine sm_ldcM cx wd_2_38 dJ7_copyOf_6403c_1 ?_
  refine sm_acmp_ne (tgt := 13) cx dJ7_copyOf_6403c_3 (by decide) ?_ ?_
  · refine sm_aload_n cx 2 dJ7_copyOf_6403c_13 rfl rfl ?_
    exact sm_mf
  · refine sm_iload_n cx 1 dJ7_copyOf_6403c_6 rfl rfl ?_
    refine sm_anew cx wd_2_40 dJ7_copyOf_6403c_7 (fun v7 => ?_)
    refine sm_goto (tgt := 24) cx dJ7_copyOf_6403c_10 (by decide) ?_
    exact sm_lv [0, 1] rfl (s_J7_copyOf_6403c_24 cx hfr hlo hr r0 x1 v7)
set_option maxRecDepth 100000 in
set_option maxHeartbeats 4000000 in
theorem ct_J7_copyOf_6403c (Z : Nat → Nat) (r0 : Option Nat) (x1 : Int32) (r2 : Option Nat) : Ct yJ7_copyOf_6403c cJ7_copyOf_6403c 4 (some (.array (.object "java/lang/Object"))) 1 39 Z [va_rf r0, .int x1, va_rf r2] vR (f_J7_copyOf_6403c Z r0 x1 r2) := by
  refine ct_of (lv0 := [(0, va_rf r0), (1, .int x1), (2, va_rf r2)]) (by decide +kernel) (by simp [lg_sl, ct_i, ct_l, ct_r, rf_cat]) (by show _ = ([(0, va_rf r0), (1, .int x1), (2, va_rf r2)] : List (Nat × Value)); simp [lv_args, ct_i, ct_l, ct_r, rf_cat]) (fun X cx hZ hfr hlo hr hin => ?_)
  subst hZ
  exact s_J7_copyOf_6403c cx (Nat.le_of_eq hfr.symm) (Nat.le_of_eq hlo.symm) hr r0 x1 r2
/-! java/util/Arrays.copyOf([Ljava/lang/Object;I)[Ljava/lang/Object; -/
theorem dJ7_copyOf_1904c_0 : decode cJ7_copyOf_1904c 0 = .ok (.aload_n 0, 1) := by decide +kernel
theorem dJ7_copyOf_1904c_1 : decode cJ7_copyOf_1904c 1 = .ok (.iload_n 1, 1) := by decide +kernel
theorem dJ7_copyOf_1904c_2 : decode cJ7_copyOf_1904c 2 = .ok (.aload_n 0, 1) := by decide +kernel
theorem dJ7_copyOf_1904c_3 : decode cJ7_copyOf_1904c 3 = .ok (.invokevirtual 86, 3) := by decide +kernel
theorem dJ7_copyOf_1904c_6 : decode cJ7_copyOf_1904c 6 = .ok (.invokestatic 300, 3) := by decide +kernel
theorem dJ7_copyOf_1904c_9 : decode cJ7_copyOf_1904c 9 = .ok (.areturn, 1) := by decide +kernel
def f_J7_copyOf_1904c (Z : Nat → Nat) (r0 : Option Nat) (x1 : Int32) : Mo (Option Nat) := mb (gC Z r0) (fun v3 => mb (f_J7_copyOf_6403c Z r0 x1 v3) (fun v6 => mp v6))
set_option maxRecDepth 100000 in
set_option maxHeartbeats 4000000 in
theorem s_J7_copyOf_1904c {X : Cg} (cx : Cx X cJ7_copyOf_1904c RJ7 2) (hfr : 2 ≤ (xR X).frames) (hlo : 62 ≤ (xR X).locals) (hr : (xM X).sig.returnType = (some (.array (.object "java/lang/Object")))) (r0 : Option Nat) (x1 : Int32) : Sim X 2 (FiM X vR) 0 [(0, va_rf r0), (1, .int x1)] [] (f_J7_copyOf_1904c (xZ X) r0 x1) := by
  unfold f_J7_copyOf_1904c
  refine sm_aload_n cx 0 dJ7_copyOf_1904c_0 rfl rfl ?_
  refine sm_iload_n cx 1 dJ7_copyOf_1904c_1 rfl rfl ?_
  refine sm_aload_n cx 0 dJ7_copyOf_1904c_2 rfl rfl ?_
  refine sm_gC cx wd_2_12 wd_8_60 wd_2_13 wd_2_34 (Nat.le_trans (by decide) hfr) (cat_le _ (Nat.le_of_ble_eq_true rfl)) (Nat.le_trans (by decide) hlo) dJ7_copyOf_1904c_3 (fun v3 => ?_)
  refine sm_callS (toV := vR) cx [va_rf r0, .int x1, va_rf v3] cs_J7_300 (ct_J7_copyOf_6403c (xZ X) r0 x1 v3) (Nat.le_trans (by decide) hfr) (Nat.le_trans (by decide) hlo) rfl (cat_le _ (Nat.le_of_ble_eq_true rfl)) dJ7_copyOf_1904c_6 (fun v6 => ?_)
  exact sm_aret cx hr (Or.inr ⟨_, rfl⟩) dJ7_copyOf_1904c_9
set_option maxRecDepth 100000 in
set_option maxHeartbeats 4000000 in
theorem ct_J7_copyOf_1904c (Z : Nat → Nat) (r0 : Option Nat) (x1 : Int32) : Ct yJ7_copyOf_1904c cJ7_copyOf_1904c 2 (some (.array (.object "java/lang/Object"))) 2 62 Z [va_rf r0, .int x1] vR (f_J7_copyOf_1904c Z r0 x1) := by
  refine ct_of (lv0 := [(0, va_rf r0), (1, .int x1)]) (by decide +kernel) (by simp [lg_sl, ct_i, ct_l, ct_r, rf_cat]) (by show _ = ([(0, va_rf r0), (1, .int x1)] : List (Nat × Value)); simp [lv_args, ct_i, ct_l, ct_r, rf_cat]) (fun X cx hZ hfr hlo hr hin => ?_)
  subst hZ
  exact s_J7_copyOf_1904c cx (Nat.le_of_eq hfr.symm) (Nat.le_of_eq hlo.symm) hr r0 x1
/-! java/util/Arrays.copyOf([II)[I -/
theorem dJ7_copyOf_59c91_0 : decode cJ7_copyOf_59c91 0 = .ok (.iload_n 1, 1) := by decide +kernel
theorem dJ7_copyOf_59c91_1 : decode cJ7_copyOf_59c91 1 = .ok (.aload_n 0, 1) := by decide +kernel
theorem dJ7_copyOf_59c91_2 : decode cJ7_copyOf_59c91 2 = .ok (.arraylength, 1) := by decide +kernel
theorem dJ7_copyOf_59c91_3 : decode cJ7_copyOf_59c91 3 = .ok (.if_icmp .ne 11, 3) := by decide +kernel
theorem dJ7_copyOf_59c91_6 : decode cJ7_copyOf_59c91 6 = .ok (.aload_n 0, 1) := by decide +kernel
theorem dJ7_copyOf_59c91_7 : decode cJ7_copyOf_59c91 7 = .ok (.invokevirtual 316, 3) := by decide +kernel
theorem dJ7_copyOf_59c91_10 : decode cJ7_copyOf_59c91 10 = .ok (.checkcast 317, 3) := by decide +kernel
theorem dJ7_copyOf_59c91_13 : decode cJ7_copyOf_59c91 13 = .ok (.areturn, 1) := by decide +kernel
theorem dJ7_copyOf_59c91_14 : decode cJ7_copyOf_59c91 14 = .ok (.iload_n 1, 1) := by decide +kernel
theorem dJ7_copyOf_59c91_15 : decode cJ7_copyOf_59c91 15 = .ok (.newarray .int, 2) := by decide +kernel
theorem dJ7_copyOf_59c91_17 : decode cJ7_copyOf_59c91 17 = .ok (.astore_n 2, 1) := by decide +kernel
theorem dJ7_copyOf_59c91_18 : decode cJ7_copyOf_59c91 18 = .ok (.aload_n 0, 1) := by decide +kernel
theorem dJ7_copyOf_59c91_19 : decode cJ7_copyOf_59c91 19 = .ok (.iconst 0, 1) := by decide +kernel
theorem dJ7_copyOf_59c91_20 : decode cJ7_copyOf_59c91 20 = .ok (.aload_n 2, 1) := by decide +kernel
theorem dJ7_copyOf_59c91_21 : decode cJ7_copyOf_59c91 21 = .ok (.iconst 0, 1) := by decide +kernel
theorem dJ7_copyOf_59c91_22 : decode cJ7_copyOf_59c91 22 = .ok (.aload_n 0, 1) := by decide +kernel
theorem dJ7_copyOf_59c91_23 : decode cJ7_copyOf_59c91 23 = .ok (.arraylength, 1) := by decide +kernel
theorem dJ7_copyOf_59c91_24 : decode cJ7_copyOf_59c91 24 = .ok (.iload_n 1, 1) := by decide +kernel
theorem dJ7_copyOf_59c91_25 : decode cJ7_copyOf_59c91 25 = .ok (.invokestatic 304, 3) := by decide +kernel
theorem dJ7_copyOf_59c91_28 : decode cJ7_copyOf_59c91 28 = .ok (.invokestatic 150, 3) := by decide +kernel
theorem dJ7_copyOf_59c91_31 : decode cJ7_copyOf_59c91 31 = .ok (.aload_n 2, 1) := by decide +kernel
theorem dJ7_copyOf_59c91_32 : decode cJ7_copyOf_59c91 32 = .ok (.areturn, 1) := by decide +kernel
def f_J7_copyOf_59c91 (r0 : Option Nat) (x1 : Int32) : Mo (Option Nat) := mb (aN 1 r0) (fun v2 => (if x1 = v2 then mf else mb (nA 1 x1) (fun v15 => mb (aN 1 r0) (fun v23 => mb (cpI r0 (0 : Int32) v15 (0 : Int32) (jMn v23 x1)) (fun _ => mp v15)))))
set_option maxRecDepth 100000 in
set_option maxHeartbeats 4000000 in
theorem s_J7_copyOf_59c91 {X : Cg} (cx : Cx X cJ7_copyOf_59c91 RJ7 3) (hfr : 1 ≤ (xR X).frames) (hlo : 39 ≤ (xR X).locals) (hr : (xM X).sig.returnType = (some (.array .int))) (r0 : Option Nat) (x1 : Int32) : Sim X 3 (FiM X vR) 0 [(0, va_rf r0), (1, .int x1)] [] (f_J7_copyOf_59c91 r0 x1) := by
  unfold f_J7_copyOf_59c91
  refine sm_iload_n cx 1 dJ7_copyOf_59c91_0 rfl rfl ?_
  refine sm_aload_n cx 0 dJ7_copyOf_59c91_1 rfl rfl ?_
  refine sm_alen cx 1 (by decide) dJ7_copyOf_59c91_2 (fun v2 => ?_)
  refine sm_icmp_ne (tgt := 14) cx dJ7_copyOf_59c91_3 (by decide) ?_ ?_
  · refine sm_iload_n cx 1 dJ7_copyOf_59c91_14 rfl rfl ?_
    refine sm_newa1 cx dJ7_copyOf_59c91_15 (fun v15 => ?_)
    refine sm_astore_n cx [(2, va_rf v15), (0, va_rf r0), (1, .int x1)] dJ7_copyOf_59c91_17 rfl (by decide) rfl (nc1 rfl) rfl ?_
    refine sm_aload_n cx 1 dJ7_copyOf_59c91_18 rfl rfl ?_
    refine sm_iconst (v := 0) cx dJ7_copyOf_59c91_19 (by decide) ?_
    refine sm_aload_n cx 0 dJ7_copyOf_59c91_20 rfl rfl ?_
    refine sm_iconst (v := 0) cx dJ7_copyOf_59c91_21 (by decide) ?_
    refine sm_aload_n cx 1 dJ7_copyOf_59c91_22 rfl rfl ?_
    refine sm_alen cx 1 (by decide) dJ7_copyOf_59c91_23 (fun v23 => ?_)
    refine sm_iload_n cx 2 dJ7_copyOf_59c91_24 rfl rfl ?_
    refine sm_mmin cx wd_2_41 wd_2_42 wd_1_13 wd_2_43 (Nat.le_trans (by decide) hfr) (Nat.le_trans (Nat.add_le_add_right (cat_le _ (Nat.le_of_ble_eq_true rfl)) 13) (Nat.le_trans (by decide) hlo)) dJ7_copyOf_59c91_25 ?_
    refine sm_cpI cx wd_2_44 wd_2_46 wd_2_45 wd_1_15 (Nat.le_trans (by decide) hfr) (cat_le _ (Nat.le_of_ble_eq_true rfl)) (Nat.le_trans (by decide) hlo) dJ7_copyOf_59c91_28 ?_
    refine sm_aload_n cx 0 dJ7_copyOf_59c91_31 rfl rfl ?_
    exact sm_aret cx hr (Or.inr ⟨_, rfl⟩) dJ7_copyOf_59c91_32
  · refine sm_aload_n cx 0 dJ7_copyOf_59c91_6 rfl rfl ?_
    exact sm_mf
set_option maxRecDepth 100000 in
set_option maxHeartbeats 4000000 in
theorem ct_J7_copyOf_59c91 (Z : Nat → Nat) (r0 : Option Nat) (x1 : Int32) : Ct yJ7_copyOf_59c91 cJ7_copyOf_59c91 3 (some (.array .int)) 1 39 Z [va_rf r0, .int x1] vR (f_J7_copyOf_59c91 r0 x1) := by
  refine ct_of (lv0 := [(0, va_rf r0), (1, .int x1)]) (by decide +kernel) (by simp [lg_sl, ct_i, ct_l, ct_r, rf_cat]) (by show _ = ([(0, va_rf r0), (1, .int x1)] : List (Nat × Value)); simp [lv_args, ct_i, ct_l, ct_r, rf_cat]) (fun X cx hZ hfr hlo hr hin => ?_)
  subst hZ
  exact s_J7_copyOf_59c91 cx (Nat.le_of_eq hfr.symm) (Nat.le_of_eq hlo.symm) hr r0 x1
/-! java/util/ArrayList.grow(I)[Ljava/lang/Object; -/
theorem dJx4a65c_grow_92f84_0 : decode cJx4a65c_grow_92f84 0 = .ok (.aload_n 0, 1) := by decide +kernel
theorem dJx4a65c_grow_92f84_1 : decode cJx4a65c_grow_92f84 1 = .ok (.getfield 9, 3) := by decide +kernel
theorem dJx4a65c_grow_92f84_4 : decode cJx4a65c_grow_92f84 4 = .ok (.arraylength, 1) := by decide +kernel
theorem dJx4a65c_grow_92f84_5 : decode cJx4a65c_grow_92f84 5 = .ok (.istore_n 2, 1) := by decide +kernel
theorem dJx4a65c_grow_92f84_6 : decode cJx4a65c_grow_92f84 6 = .ok (.iload_n 2, 1) := by decide +kernel
theorem dJx4a65c_grow_92f84_7 : decode cJx4a65c_grow_92f84 7 = .ok (.ifCond .gt 13, 3) := by decide +kernel
theorem dJx4a65c_grow_92f84_10 : decode cJx4a65c_grow_92f84 10 = .ok (.aload_n 0, 1) := by decide +kernel
theorem dJx4a65c_grow_92f84_11 : decode cJx4a65c_grow_92f84 11 = .ok (.getfield 9, 3) := by decide +kernel
theorem dJx4a65c_grow_92f84_14 : decode cJx4a65c_grow_92f84 14 = .ok (.getstatic 39, 3) := by decide +kernel
theorem dJx4a65c_grow_92f84_17 : decode cJx4a65c_grow_92f84 17 = .ok (.if_acmp .eq 28, 3) := by decide +kernel
theorem dJx4a65c_grow_92f84_20 : decode cJx4a65c_grow_92f84 20 = .ok (.iload_n 2, 1) := by decide +kernel
theorem dJx4a65c_grow_92f84_21 : decode cJx4a65c_grow_92f84 21 = .ok (.iload_n 1, 1) := by decide +kernel
theorem dJx4a65c_grow_92f84_22 : decode cJx4a65c_grow_92f84 22 = .ok (.iload_n 2, 1) := by decide +kernel
theorem dJx4a65c_grow_92f84_23 : decode cJx4a65c_grow_92f84 23 = .ok (.isub, 1) := by decide +kernel
theorem dJx4a65c_grow_92f84_24 : decode cJx4a65c_grow_92f84 24 = .ok (.iload_n 2, 1) := by decide +kernel
theorem dJx4a65c_grow_92f84_25 : decode cJx4a65c_grow_92f84 25 = .ok (.iconst 1, 1) := by decide +kernel
theorem dJx4a65c_grow_92f84_26 : decode cJx4a65c_grow_92f84 26 = .ok (.ishr, 1) := by decide +kernel
theorem dJx4a65c_grow_92f84_27 : decode cJx4a65c_grow_92f84 27 = .ok (.invokestatic 73, 3) := by decide +kernel
theorem dJx4a65c_grow_92f84_30 : decode cJx4a65c_grow_92f84 30 = .ok (.istore_n 3, 1) := by decide +kernel
theorem dJx4a65c_grow_92f84_31 : decode cJx4a65c_grow_92f84 31 = .ok (.aload_n 0, 1) := by decide +kernel
theorem dJx4a65c_grow_92f84_32 : decode cJx4a65c_grow_92f84 32 = .ok (.aload_n 0, 1) := by decide +kernel
theorem dJx4a65c_grow_92f84_33 : decode cJx4a65c_grow_92f84 33 = .ok (.getfield 9, 3) := by decide +kernel
theorem dJx4a65c_grow_92f84_36 : decode cJx4a65c_grow_92f84 36 = .ok (.iload_n 3, 1) := by decide +kernel
theorem dJx4a65c_grow_92f84_37 : decode cJx4a65c_grow_92f84 37 = .ok (.invokestatic 66, 3) := by decide +kernel
theorem dJx4a65c_grow_92f84_40 : decode cJx4a65c_grow_92f84 40 = .ok (.dup_x1, 1) := by decide +kernel
theorem dJx4a65c_grow_92f84_41 : decode cJx4a65c_grow_92f84 41 = .ok (.putfield 9, 3) := by decide +kernel
theorem dJx4a65c_grow_92f84_44 : decode cJx4a65c_grow_92f84 44 = .ok (.areturn, 1) := by decide +kernel
theorem dJx4a65c_grow_92f84_45 : decode cJx4a65c_grow_92f84 45 = .ok (.aload_n 0, 1) := by decide +kernel
theorem dJx4a65c_grow_92f84_46 : decode cJx4a65c_grow_92f84 46 = .ok (.bipush 10, 2) := by decide +kernel
theorem dJx4a65c_grow_92f84_48 : decode cJx4a65c_grow_92f84 48 = .ok (.iload_n 1, 1) := by decide +kernel
theorem dJx4a65c_grow_92f84_49 : decode cJx4a65c_grow_92f84 49 = .ok (.invokestatic 79, 3) := by decide +kernel
theorem dJx4a65c_grow_92f84_52 : decode cJx4a65c_grow_92f84 52 = .ok (.anewarray 7, 3) := by decide +kernel
theorem dJx4a65c_grow_92f84_55 : decode cJx4a65c_grow_92f84 55 = .ok (.dup_x1, 1) := by decide +kernel
theorem dJx4a65c_grow_92f84_56 : decode cJx4a65c_grow_92f84 56 = .ok (.putfield 9, 3) := by decide +kernel
theorem dJx4a65c_grow_92f84_59 : decode cJx4a65c_grow_92f84 59 = .ok (.areturn, 1) := by decide +kernel
def f_Jx4a65c_grow_92f84_20 (Z : Nat → Nat) (r0 : Option Nat) (x1 : Int32) (x2 : Int32) : Mo (Option Nat) := mb (f_J8_newLength_cabcc x2 (x1 - x2) (x2 >>> ((1 : Int32) &&& 31))) (fun v27 => mb (gR 2 1 r0) (fun v33 => mb (f_J7_copyOf_1904c Z v33 v27) (fun v37 => mb (pV 2 1 r0 (va_rf v37)) (fun _ => mp v37))))
set_option maxRecDepth 100000 in
set_option maxHeartbeats 4000000 in
theorem s_Jx4a65c_grow_92f84_20 {X : Cg} (cx : Cx X cJx4a65c_grow_92f84 RJx4a65c 4) (hfr : 3 ≤ (xR X).frames) (hlo : 83 ≤ (xR X).locals) (hr : (xM X).sig.returnType = (some (.array (.object "java/lang/Object")))) (r0 : Option Nat) (x1 : Int32) (x2 : Int32) : Sim X 4 (FiM X vR) 20 [(0, va_rf r0), (1, .int x1), (2, .int x2)] [] (f_Jx4a65c_grow_92f84_20 (xZ X) r0 x1 x2) := by
  unfold f_Jx4a65c_grow_92f84_20
  refine sm_iload_n cx 2 dJx4a65c_grow_92f84_20 rfl rfl ?_
  refine sm_iload_n cx 1 dJx4a65c_grow_92f84_21 rfl rfl ?_
  refine sm_iload_n cx 2 dJx4a65c_grow_92f84_22 rfl rfl ?_
  refine sm_isub cx dJx4a65c_grow_92f84_23 ?_
  refine sm_iload_n cx 2 dJx4a65c_grow_92f84_24 rfl rfl ?_
  refine sm_iconst (v := 1) cx dJx4a65c_grow_92f84_25 (by decide) ?_
  refine sm_ishr cx dJx4a65c_grow_92f84_26 ?_
  refine sm_callS (toV := vI) cx [.int x2, .int (x1 - x2), .int (x2 >>> ((1 : Int32) &&& 31))] cs_Jx4a65c_73 (ct_J8_newLength_cabcc (xZ X) x2 (x1 - x2) (x2 >>> ((1 : Int32) &&& 31))) (Nat.le_trans (by decide) hfr) (Nat.le_trans (by decide) hlo) rfl (cat_le _ (Nat.le_of_ble_eq_true rfl)) dJx4a65c_grow_92f84_27 (fun v27 => ?_)
  refine sm_istore_n cx [(3, .int v27), (0, va_rf r0), (1, .int x1), (2, .int x2)] dJx4a65c_grow_92f84_30 rfl (by decide) rfl (nc1 rfl) rfl ?_
  refine sm_aload_n cx 1 dJx4a65c_grow_92f84_31 rfl rfl ?_
  refine sm_aload_n cx 1 dJx4a65c_grow_92f84_32 rfl rfl ?_
  refine sm_getR cx fl_Jx4a65c_9 dJx4a65c_grow_92f84_33 (fun v33 => ?_)
  refine sm_iload_n cx 0 dJx4a65c_grow_92f84_36 rfl rfl ?_
  refine sm_callS (toV := vR) cx [va_rf v33, .int v27] cs_Jx4a65c_66 (ct_J7_copyOf_1904c (xZ X) v33 v27) (Nat.le_trans (by decide) hfr) (Nat.le_trans (by decide) hlo) rfl (cat_le _ (Nat.le_of_ble_eq_true rfl)) dJx4a65c_grow_92f84_37 (fun v37 => ?_)
  refine sm_dupx1 cx dJx4a65c_grow_92f84_40 (rf_cat _) (rf_cat _) ?_
  refine sm_putV cx fl_Jx4a65c_9 (nr_ra _) (ft_ra _) dJx4a65c_grow_92f84_41 ?_
  exact sm_aret cx hr (Or.inr ⟨_, rfl⟩) dJx4a65c_grow_92f84_44
def f_Jx4a65c_grow_92f84 (Z : Nat → Nat) (r0 : Option Nat) (x1 : Int32) : Mo (Option Nat) := mb (gR 2 1 r0) (fun v1 => mb (aNq Z v1) (fun v4 => (if 0 < v4 then f_Jx4a65c_grow_92f84_20 Z r0 x1 v4 else mb (gR 2 1 r0) (fun v11 => (if v11 = (some (Z 0)) then mb (nA 4 (jMx (10 : Int32) x1)) (fun v52 => mb (pV 2 1 r0 (va_rf v52)) (fun _ => mp v52)) else f_Jx4a65c_grow_92f84_20 Z r0 x1 v4)))))
set_option maxRecDepth 100000 in
set_option maxHeartbeats 4000000 in
theorem s_Jx4a65c_grow_92f84 {X : Cg} (cx : Cx X cJx4a65c_grow_92f84 RJx4a65c 4) (hfr : 3 ≤ (xR X).frames) (hlo : 83 ≤ (xR X).locals) (hr : (xM X).sig.returnType = (some (.array (.object "java/lang/Object")))) (r0 : Option Nat) (x1 : Int32) : Sim X 4 (FiM X vR) 0 [(0, va_rf r0), (1, .int x1)] [] (f_Jx4a65c_grow_92f84 (xZ X) r0 x1) := by
  unfold f_Jx4a65c_grow_92f84
  refine sm_aload_n cx 0 dJx4a65c_grow_92f84_0 rfl rfl ?_
  refine sm_getR cx fl_Jx4a65c_9 dJx4a65c_grow_92f84_1 (fun v1 => ?_)
  refine sm_aNq cx dJx4a65c_grow_92f84_4 (fun v4 => ?_)
  refine sm_istore_n cx [(2, .int v4), (0, va_rf r0), (1, .int x1)] dJx4a65c_grow_92f84_5 rfl (by decide) rfl (nc1 rfl) rfl ?_
  refine sm_iload_n cx 0 dJx4a65c_grow_92f84_6 rfl rfl ?_
  refine sm_if_gt (tgt := 20) cx dJx4a65c_grow_92f84_7 (by decide) ?_ ?_
  · exact sm_lv [1, 2, 0] rfl (s_Jx4a65c_grow_92f84_20 cx hfr hlo hr r0 x1 v4)
  · refine sm_aload_n cx 1 dJx4a65c_grow_92f84_10 rfl rfl ?_
    refine sm_getR cx fl_Jx4a65c_9 dJx4a65c_grow_92f84_11 (fun v11 => ?_)
    refine sm_gsE cx wd_1_55 dJx4a65c_grow_92f84_14 ?_
    refine sm_acmp_eq (tgt := 45) cx dJx4a65c_grow_92f84_17 (by decide) ?_ ?_
    · refine sm_aload_n cx 1 dJx4a65c_grow_92f84_45 rfl rfl ?_
      refine sm_bipush (v := 10) cx dJx4a65c_grow_92f84_46 (by decide) ?_
      refine sm_iload_n cx 2 dJx4a65c_grow_92f84_48 rfl rfl ?_
      refine sm_mmax cx wd_2_47 wd_2_3 wd_1_13 wd_2_4 (Nat.le_trans (by decide) hfr) (Nat.le_trans (Nat.add_le_add_right (cat_le _ (Nat.le_of_ble_eq_true rfl)) 13) (Nat.le_trans (by decide) hlo)) dJx4a65c_grow_92f84_49 ?_
      refine sm_anew cx wd_2_48 dJx4a65c_grow_92f84_52 (fun v52 => ?_)
      refine sm_dupx1 cx dJx4a65c_grow_92f84_55 (rf_cat _) (rf_cat _) ?_
      refine sm_putV cx fl_Jx4a65c_9 (nr_ra _) (ft_ra _) dJx4a65c_grow_92f84_56 ?_
      exact sm_aret cx hr (Or.inr ⟨_, rfl⟩) dJx4a65c_grow_92f84_59
    · exact sm_lv [1, 2, 0] rfl (s_Jx4a65c_grow_92f84_20 cx hfr hlo hr r0 x1 v4)
set_option maxRecDepth 100000 in
set_option maxHeartbeats 4000000 in
theorem ct_Jx4a65c_grow_92f84 (Z : Nat → Nat) {r0 : Option Nat} (a0 : Nat) (h0 : r0 = some a0) (x1 : Int32) : Ct yJx4a65c_grow_92f84 cJx4a65c_grow_92f84 4 (some (.array (.object "java/lang/Object"))) 3 83 Z [.ref a0, .int x1] vR (f_Jx4a65c_grow_92f84 Z r0 x1) := by
  subst h0
  refine ct_of (lv0 := [(0, va_rf (some a0)), (1, .int x1)]) (by decide +kernel) (by simp [lg_sl, ct_i, ct_l, ct_r, rf_cat]) (by show _ = ([(0, Value.ref a0), (1, .int x1)] : List (Nat × Value)); simp [lv_args, ct_i, ct_l, ct_r, rf_cat]) (fun X cx hZ hfr hlo hr hin => ?_)
  subst hZ
  exact s_Jx4a65c_grow_92f84 cx (Nat.le_of_eq hfr.symm) (Nat.le_of_eq hlo.symm) hr (some a0) x1
/-! java/util/ArrayList.grow()[Ljava/lang/Object; -/
theorem dJx4a65c_grow_d5877_0 : decode cJx4a65c_grow_d5877 0 = .ok (.aload_n 0, 1) := by decide +kernel
theorem dJx4a65c_grow_d5877_1 : decode cJx4a65c_grow_d5877 1 = .ok (.aload_n 0, 1) := by decide +kernel
theorem dJx4a65c_grow_d5877_2 : decode cJx4a65c_grow_d5877 2 = .ok (.getfield 48, 3) := by decide +kernel
theorem dJx4a65c_grow_d5877_5 : decode cJx4a65c_grow_d5877 5 = .ok (.iconst 1, 1) := by decide +kernel
theorem dJx4a65c_grow_d5877_6 : decode cJx4a65c_grow_d5877 6 = .ok (.iadd, 1) := by decide +kernel
theorem dJx4a65c_grow_d5877_7 : decode cJx4a65c_grow_d5877 7 = .ok (.invokevirtual 69, 3) := by decide +kernel
theorem dJx4a65c_grow_d5877_10 : decode cJx4a65c_grow_d5877 10 = .ok (.areturn, 1) := by decide +kernel
def f_Jx4a65c_grow_d5877 (Z : Nat → Nat) (r0 : Option Nat) : Mo (Option Nat) := mb (gI 2 2 r0) (fun v2 => mb (mo 2 r0 (f_Jx4a65c_grow_92f84 Z r0 (v2 + (1 : Int32)))) (fun v7 => mp v7))
set_option maxRecDepth 100000 in
set_option maxHeartbeats 4000000 in
theorem s_Jx4a65c_grow_d5877 {X : Cg} (cx : Cx X cJx4a65c_grow_d5877 RJx4a65c 1) (hfr : 4 ≤ (xR X).frames) (hlo : 106 ≤ (xR X).locals) (hr : (xM X).sig.returnType = (some (.array (.object "java/lang/Object")))) (r0 : Option Nat) : Sim X 1 (FiM X vR) 0 [(0, va_rf r0)] [] (f_Jx4a65c_grow_d5877 (xZ X) r0) := by
  unfold f_Jx4a65c_grow_d5877
  refine sm_aload_n cx 0 dJx4a65c_grow_d5877_0 rfl rfl ?_
  refine sm_aload_n cx 0 dJx4a65c_grow_d5877_1 rfl rfl ?_
  refine sm_getI cx fl_Jx4a65c_48 dJx4a65c_grow_d5877_2 (fun v2 => ?_)
  refine sm_iconst (v := 1) cx dJx4a65c_grow_d5877_5 (by decide) ?_
  refine sm_iadd cx dJx4a65c_grow_d5877_6 ?_
  refine sm_callV (T := TJx4a65c) (N := 3) (toV := vR) cx [.int (v2 + (1 : Int32))] rfl cv_Jx4a65c_69 (fun a h => ct_Jx4a65c_grow_92f84 (xZ X) a h (v2 + (1 : Int32))) (Nat.le_trans (by decide) hfr) (Nat.le_trans (by decide) hlo) rfl (cat_le _ (Nat.le_of_ble_eq_true rfl)) dJx4a65c_grow_d5877_7 (fun v7 => ?_)
  exact sm_aret cx hr (Or.inr ⟨_, rfl⟩) dJx4a65c_grow_d5877_10
set_option maxRecDepth 100000 in
set_option maxHeartbeats 4000000 in
theorem ct_Jx4a65c_grow_d5877 (Z : Nat → Nat) {r0 : Option Nat} (a0 : Nat) (h0 : r0 = some a0) : Ct yJx4a65c_grow_d5877 cJx4a65c_grow_d5877 1 (some (.array (.object "java/lang/Object"))) 4 106 Z [.ref a0] vR (f_Jx4a65c_grow_d5877 Z r0) := by
  subst h0
  refine ct_of (lv0 := [(0, va_rf (some a0))]) (by decide +kernel) (by simp [lg_sl, ct_i, ct_l, ct_r, rf_cat]) (by show _ = ([(0, Value.ref a0)] : List (Nat × Value)); simp [lv_args, ct_i, ct_l, ct_r, rf_cat]) (fun X cx hZ hfr hlo hr hin => ?_)
  subst hZ
  exact s_Jx4a65c_grow_d5877 cx (Nat.le_of_eq hfr.symm) (Nat.le_of_eq hlo.symm) hr (some a0)
/-! java/util/ArrayList.size()I -/
theorem dJx4a65c_size_8abf5_0 : decode cJx4a65c_size_8abf5 0 = .ok (.aload_n 0, 1) := by decide +kernel
theorem dJx4a65c_size_8abf5_1 : decode cJx4a65c_size_8abf5 1 = .ok (.getfield 48, 3) := by decide +kernel
theorem dJx4a65c_size_8abf5_4 : decode cJx4a65c_size_8abf5 4 = .ok (.ireturn, 1) := by decide +kernel
def f_Jx4a65c_size_8abf5 (r0 : Option Nat) : Mo Int32 := mb (gI 2 2 r0) (fun v1 => mp v1)
set_option maxRecDepth 100000 in
set_option maxHeartbeats 4000000 in
theorem s_Jx4a65c_size_8abf5 {X : Cg} (cx : Cx X cJx4a65c_size_8abf5 RJx4a65c 1) (hfr : 0 ≤ (xR X).frames) (hlo : 0 ≤ (xR X).locals) (hr : (xM X).sig.returnType = (some .int)) (r0 : Option Nat) : Sim X 1 (FiM X vI) 0 [(0, va_rf r0)] [] (f_Jx4a65c_size_8abf5 r0) := by
  unfold f_Jx4a65c_size_8abf5
  refine sm_aload_n cx 0 dJx4a65c_size_8abf5_0 rfl rfl ?_
  refine sm_getI cx fl_Jx4a65c_48 dJx4a65c_size_8abf5_1 (fun v1 => ?_)
  exact sm_iret cx hr dJx4a65c_size_8abf5_4
set_option maxRecDepth 100000 in
set_option maxHeartbeats 4000000 in
theorem ct_Jx4a65c_size_8abf5 (Z : Nat → Nat) {r0 : Option Nat} (a0 : Nat) (h0 : r0 = some a0) : Ct yJx4a65c_size_8abf5 cJx4a65c_size_8abf5 1 (some .int) 0 0 Z [.ref a0] vI (f_Jx4a65c_size_8abf5 r0) := by
  subst h0
  refine ct_of (lv0 := [(0, va_rf (some a0))]) (by decide +kernel) (by simp [lg_sl, ct_i, ct_l, ct_r, rf_cat]) (by show _ = ([(0, Value.ref a0)] : List (Nat × Value)); simp [lv_args, ct_i, ct_l, ct_r, rf_cat]) (fun X cx hZ hfr hlo hr hin => ?_)
  subst hZ
  exact s_Jx4a65c_size_8abf5 cx (Nat.le_of_eq hfr.symm) (Nat.le_of_eq hlo.symm) hr (some a0)
/-! java/util/ArrayList.elementData(I)Ljava/lang/Object; -/
theorem dJx4a65c_elementData_915e3_0 : decode cJx4a65c_elementData_915e3 0 = .ok (.aload_n 0, 1) := by decide +kernel
theorem dJx4a65c_elementData_915e3_1 : decode cJx4a65c_elementData_915e3 1 = .ok (.getfield 9, 3) := by decide +kernel
theorem dJx4a65c_elementData_915e3_4 : decode cJx4a65c_elementData_915e3 4 = .ok (.iload_n 1, 1) := by decide +kernel
theorem dJx4a65c_elementData_915e3_5 : decode cJx4a65c_elementData_915e3 5 = .ok (.aaload, 1) := by decide +kernel
theorem dJx4a65c_elementData_915e3_6 : decode cJx4a65c_elementData_915e3 6 = .ok (.areturn, 1) := by decide +kernel
def f_Jx4a65c_elementData_915e3 (r0 : Option Nat) (x1 : Int32) : Mo (Option Nat) := mb (gR 2 1 r0) (fun v1 => mb (aR v1 x1) (fun v5 => mp v5))
set_option maxRecDepth 100000 in
set_option maxHeartbeats 4000000 in
theorem s_Jx4a65c_elementData_915e3 {X : Cg} (cx : Cx X cJx4a65c_elementData_915e3 RJx4a65c 2) (hfr : 0 ≤ (xR X).frames) (hlo : 0 ≤ (xR X).locals) (hr : (xM X).sig.returnType = (some (.object "java/lang/Object"))) (r0 : Option Nat) (x1 : Int32) : Sim X 2 (FiM X vR) 0 [(0, va_rf r0), (1, .int x1)] [] (f_Jx4a65c_elementData_915e3 r0 x1) := by
  unfold f_Jx4a65c_elementData_915e3
  refine sm_aload_n cx 0 dJx4a65c_elementData_915e3_0 rfl rfl ?_
  refine sm_getR cx fl_Jx4a65c_9 dJx4a65c_elementData_915e3_1 (fun v1 => ?_)
  refine sm_iload_n cx 1 dJx4a65c_elementData_915e3_4 rfl rfl ?_
  refine sm_aald cx dJx4a65c_elementData_915e3_5 (fun v5 => ?_)
  exact sm_aret cx hr (Or.inl ⟨_, rfl⟩) dJx4a65c_elementData_915e3_6
set_option maxRecDepth 100000 in
set_option maxHeartbeats 4000000 in
theorem ct_Jx4a65c_elementData_915e3 (Z : Nat → Nat) {r0 : Option Nat} (a0 : Nat) (h0 : r0 = some a0) (x1 : Int32) : Ct yJx4a65c_elementData_915e3 cJx4a65c_elementData_915e3 2 (some (.object "java/lang/Object")) 0 0 Z [.ref a0, .int x1] vR (f_Jx4a65c_elementData_915e3 r0 x1) := by
  subst h0
  refine ct_of (lv0 := [(0, va_rf (some a0)), (1, .int x1)]) (by decide +kernel) (by simp [lg_sl, ct_i, ct_l, ct_r, rf_cat]) (by show _ = ([(0, Value.ref a0), (1, .int x1)] : List (Nat × Value)); simp [lv_args, ct_i, ct_l, ct_r, rf_cat]) (fun X cx hZ hfr hlo hr hin => ?_)
  subst hZ
  exact s_Jx4a65c_elementData_915e3 cx (Nat.le_of_eq hfr.symm) (Nat.le_of_eq hlo.symm) hr (some a0) x1
/-! java/util/Objects.checkIndex(II)I -/
theorem dJ15_checkIndex_7cf53_0 : decode cJ15_checkIndex_7cf53 0 = .ok (.iload_n 0, 1) := by decide +kernel
theorem dJ15_checkIndex_7cf53_1 : decode cJ15_checkIndex_7cf53 1 = .ok (.iload_n 1, 1) := by decide +kernel
theorem dJ15_checkIndex_7cf53_2 : decode cJ15_checkIndex_7cf53 2 = .ok (.aconst_null, 1) := by decide +kernel
theorem dJ15_checkIndex_7cf53_3 : decode cJ15_checkIndex_7cf53 3 = .ok (.invokestatic 105, 3) := by decide +kernel
theorem dJ15_checkIndex_7cf53_6 : decode cJ15_checkIndex_7cf53 6 = .ok (.ireturn, 1) := by decide +kernel
def f_J15_checkIndex_7cf53 (x0 : Int32) (x1 : Int32) : Mo Int32 := mb (f_J3_checkIndex_8e157 x0 x1 none) (fun v3 => mp v3)
set_option maxRecDepth 100000 in
set_option maxHeartbeats 4000000 in
theorem s_J15_checkIndex_7cf53 {X : Cg} (cx : Cx X cJ15_checkIndex_7cf53 RJ15 2) (hfr : 1 ≤ (xR X).frames) (hlo : 22 ≤ (xR X).locals) (hr : (xM X).sig.returnType = (some .int)) (x0 : Int32) (x1 : Int32) : Sim X 2 (FiM X vI) 0 [(0, .int x0), (1, .int x1)] [] (f_J15_checkIndex_7cf53 x0 x1) := by
  unfold f_J15_checkIndex_7cf53
  refine sm_iload_n cx 0 dJ15_checkIndex_7cf53_0 rfl rfl ?_
  refine sm_iload_n cx 1 dJ15_checkIndex_7cf53_1 rfl rfl ?_
  refine sm_null cx dJ15_checkIndex_7cf53_2 ?_
  refine sm_callS (toV := vI) cx [.int x0, .int x1, va_rf none] cs_J15_105 (ct_J3_checkIndex_8e157 (xZ X) x0 x1 none) (Nat.le_trans (by decide) hfr) (Nat.le_trans (by decide) hlo) rfl (cat_le _ (Nat.le_of_ble_eq_true rfl)) dJ15_checkIndex_7cf53_3 (fun v3 => ?_)
  exact sm_iret cx hr dJ15_checkIndex_7cf53_6
set_option maxRecDepth 100000 in
set_option maxHeartbeats 4000000 in
theorem ct_J15_checkIndex_7cf53 (Z : Nat → Nat) (x0 : Int32) (x1 : Int32) : Ct yJ15_checkIndex_7cf53 cJ15_checkIndex_7cf53 2 (some .int) 1 22 Z [.int x0, .int x1] vI (f_J15_checkIndex_7cf53 x0 x1) := by
  refine ct_of (lv0 := [(0, .int x0), (1, .int x1)]) (by decide +kernel) (by simp [lg_sl, ct_i, ct_l, ct_r, rf_cat]) (by show _ = ([(0, .int x0), (1, .int x1)] : List (Nat × Value)); simp [lv_args, ct_i, ct_l, ct_r, rf_cat]) (fun X cx hZ hfr hlo hr hin => ?_)
  subst hZ
  exact s_J15_checkIndex_7cf53 cx (Nat.le_of_eq hfr.symm) (Nat.le_of_eq hlo.symm) hr x0 x1
/-! java/util/ArrayList.get(I)Ljava/lang/Object; -/
theorem dJx4a65c_get_915e3_0 : decode cJx4a65c_get_915e3 0 = .ok (.iload_n 1, 1) := by decide +kernel
theorem dJx4a65c_get_915e3_1 : decode cJx4a65c_get_915e3 1 = .ok (.aload_n 0, 1) := by decide +kernel
theorem dJx4a65c_get_915e3_2 : decode cJx4a65c_get_915e3 2 = .ok (.getfield 48, 3) := by decide +kernel
theorem dJx4a65c_get_915e3_5 : decode cJx4a65c_get_915e3 5 = .ok (.invokestatic 118, 3) := by decide +kernel
theorem dJx4a65c_get_915e3_8 : decode cJx4a65c_get_915e3 8 = .ok (.pop, 1) := by decide +kernel
theorem dJx4a65c_get_915e3_9 : decode cJx4a65c_get_915e3 9 = .ok (.aload_n 0, 1) := by decide +kernel
theorem dJx4a65c_get_915e3_10 : decode cJx4a65c_get_915e3 10 = .ok (.iload_n 1, 1) := by decide +kernel
theorem dJx4a65c_get_915e3_11 : decode cJx4a65c_get_915e3 11 = .ok (.invokevirtual 123, 3) := by decide +kernel
theorem dJx4a65c_get_915e3_14 : decode cJx4a65c_get_915e3 14 = .ok (.areturn, 1) := by decide +kernel
def f_Jx4a65c_get_915e3 (r0 : Option Nat) (x1 : Int32) : Mo (Option Nat) := mb (gI 2 2 r0) (fun v2 => mb (f_J15_checkIndex_7cf53 x1 v2) (fun v5 => mb (mo 2 r0 (f_Jx4a65c_elementData_915e3 r0 x1)) (fun v11 => mp v11)))
set_option maxRecDepth 100000 in
set_option maxHeartbeats 4000000 in
theorem s_Jx4a65c_get_915e3 {X : Cg} (cx : Cx X cJx4a65c_get_915e3 RJx4a65c 2) (hfr : 2 ≤ (xR X).frames) (hlo : 43 ≤ (xR X).locals) (hr : (xM X).sig.returnType = (some (.object "java/lang/Object"))) (r0 : Option Nat) (x1 : Int32) : Sim X 2 (FiM X vR) 0 [(0, va_rf r0), (1, .int x1)] [] (f_Jx4a65c_get_915e3 r0 x1) := by
  unfold f_Jx4a65c_get_915e3
  refine sm_iload_n cx 1 dJx4a65c_get_915e3_0 rfl rfl ?_
  refine sm_aload_n cx 0 dJx4a65c_get_915e3_1 rfl rfl ?_
  refine sm_getI cx fl_Jx4a65c_48 dJx4a65c_get_915e3_2 (fun v2 => ?_)
  refine sm_callS (toV := vI) cx [.int x1, .int v2] cs_Jx4a65c_118 (ct_J15_checkIndex_7cf53 (xZ X) x1 v2) (Nat.le_trans (by decide) hfr) (Nat.le_trans (by decide) hlo) rfl (cat_le _ (Nat.le_of_ble_eq_true rfl)) dJx4a65c_get_915e3_5 (fun v5 => ?_)
  refine sm_pop cx dJx4a65c_get_915e3_8 rfl ?_
  refine sm_aload_n cx 0 dJx4a65c_get_915e3_9 rfl rfl ?_
  refine sm_iload_n cx 1 dJx4a65c_get_915e3_10 rfl rfl ?_
  refine sm_callV (T := TJx4a65c) (N := 3) (toV := vR) cx [.int x1] rfl cv_Jx4a65c_123 (fun a h => ct_Jx4a65c_elementData_915e3 (xZ X) a h x1) (Nat.le_trans (by decide) hfr) (Nat.le_trans (by decide) hlo) rfl (cat_le _ (Nat.le_of_ble_eq_true rfl)) dJx4a65c_get_915e3_11 (fun v11 => ?_)
  exact sm_aret cx hr (Or.inl ⟨_, rfl⟩) dJx4a65c_get_915e3_14
set_option maxRecDepth 100000 in
set_option maxHeartbeats 4000000 in
theorem ct_Jx4a65c_get_915e3 (Z : Nat → Nat) {r0 : Option Nat} (a0 : Nat) (h0 : r0 = some a0) (x1 : Int32) : Ct yJx4a65c_get_915e3 cJx4a65c_get_915e3 2 (some (.object "java/lang/Object")) 2 43 Z [.ref a0, .int x1] vR (f_Jx4a65c_get_915e3 r0 x1) := by
  subst h0
  refine ct_of (lv0 := [(0, va_rf (some a0)), (1, .int x1)]) (by decide +kernel) (by simp [lg_sl, ct_i, ct_l, ct_r, rf_cat]) (by show _ = ([(0, Value.ref a0), (1, .int x1)] : List (Nat × Value)); simp [lv_args, ct_i, ct_l, ct_r, rf_cat]) (fun X cx hZ hfr hlo hr hin => ?_)
  subst hZ
  exact s_Jx4a65c_get_915e3 cx (Nat.le_of_eq hfr.symm) (Nat.le_of_eq hlo.symm) hr (some a0) x1
/-! java/util/ArrayList.add(Ljava/lang/Object;[Ljava/lang/Object;I)V -/
theorem dJx4a65c_add_72be8_0 : decode cJx4a65c_add_72be8 0 = .ok (.iload_n 3, 1) := by decide +kernel
theorem dJx4a65c_add_72be8_1 : decode cJx4a65c_add_72be8 1 = .ok (.aload_n 2, 1) := by decide +kernel
theorem dJx4a65c_add_72be8_2 : decode cJx4a65c_add_72be8 2 = .ok (.arraylength, 1) := by decide +kernel
theorem dJx4a65c_add_72be8_3 : decode cJx4a65c_add_72be8 3 = .ok (.if_icmp .ne 8, 3) := by decide +kernel
theorem dJx4a65c_add_72be8_6 : decode cJx4a65c_add_72be8 6 = .ok (.aload_n 0, 1) := by decide +kernel
theorem dJx4a65c_add_72be8_7 : decode cJx4a65c_add_72be8 7 = .ok (.invokevirtual 129, 3) := by decide +kernel
theorem dJx4a65c_add_72be8_10 : decode cJx4a65c_add_72be8 10 = .ok (.astore_n 2, 1) := by decide +kernel
theorem dJx4a65c_add_72be8_11 : decode cJx4a65c_add_72be8 11 = .ok (.aload_n 2, 1) := by decide +kernel
theorem dJx4a65c_add_72be8_12 : decode cJx4a65c_add_72be8 12 = .ok (.iload_n 3, 1) := by decide +kernel
theorem dJx4a65c_add_72be8_13 : decode cJx4a65c_add_72be8 13 = .ok (.aload_n 1, 1) := by decide +kernel
theorem dJx4a65c_add_72be8_14 : decode cJx4a65c_add_72be8 14 = .ok (.aastore, 1) := by decide +kernel
theorem dJx4a65c_add_72be8_15 : decode cJx4a65c_add_72be8 15 = .ok (.aload_n 0, 1) := by decide +kernel
theorem dJx4a65c_add_72be8_16 : decode cJx4a65c_add_72be8 16 = .ok (.iload_n 3, 1) := by decide +kernel
theorem dJx4a65c_add_72be8_17 : decode cJx4a65c_add_72be8 17 = .ok (.iconst 1, 1) := by decide +kernel
theorem dJx4a65c_add_72be8_18 : decode cJx4a65c_add_72be8 18 = .ok (.iadd, 1) := by decide +kernel
theorem dJx4a65c_add_72be8_19 : decode cJx4a65c_add_72be8 19 = .ok (.putfield 48, 3) := by decide +kernel
theorem dJx4a65c_add_72be8_22 : decode cJx4a65c_add_72be8 22 = .ok (.return_, 1) := by decide +kernel
def f_Jx4a65c_add_72be8_11 (Z : Nat → Nat) (r0 : Option Nat) (r1 : Option Nat) (r2 : Option Nat) (x3 : Int32) : Mo Unit := mb (sR r2 x3 r1) (fun _ => mb (pV 2 2 r0 (.int (x3 + (1 : Int32)))) (fun _ => mp ()))
set_option maxRecDepth 100000 in
set_option maxHeartbeats 4000000 in
theorem s_Jx4a65c_add_72be8_11 {X : Cg} (cx : Cx X cJx4a65c_add_72be8 RJx4a65c 4) (hfr : 5 ≤ (xR X).frames) (hlo : 126 ≤ (xR X).locals) (hr : (xM X).sig.returnType = none) (r0 : Option Nat) (r1 : Option Nat) (r2 : Option Nat) (x3 : Int32) : Sim X 4 (FiM X vV) 11 [(0, va_rf r0), (1, va_rf r1), (2, va_rf r2), (3, .int x3)] [] (f_Jx4a65c_add_72be8_11 (xZ X) r0 r1 r2 x3) := by
  unfold f_Jx4a65c_add_72be8_11
  refine sm_aload_n cx 2 dJx4a65c_add_72be8_11 rfl rfl ?_
  refine sm_iload_n cx 3 dJx4a65c_add_72be8_12 rfl rfl ?_
  refine sm_aload_n cx 1 dJx4a65c_add_72be8_13 rfl rfl ?_
  refine sm_aast cx dJx4a65c_add_72be8_14 ?_
  refine sm_aload_n cx 0 dJx4a65c_add_72be8_15 rfl rfl ?_
  refine sm_iload_n cx 3 dJx4a65c_add_72be8_16 rfl rfl ?_
  refine sm_iconst (v := 1) cx dJx4a65c_add_72be8_17 (by decide) ?_
  refine sm_iadd cx dJx4a65c_add_72be8_18 ?_
  refine sm_putV cx fl_Jx4a65c_48 rfl rfl dJx4a65c_add_72be8_19 ?_
  exact sm_vret cx hr dJx4a65c_add_72be8_22
def f_Jx4a65c_add_72be8 (Z : Nat → Nat) (r0 : Option Nat) (r1 : Option Nat) (r2 : Option Nat) (x3 : Int32) : Mo Unit := mb (aNq Z r2) (fun v2 => (if x3 = v2 then mb (mo 2 r0 (f_Jx4a65c_grow_d5877 Z r0)) (fun v7 => f_Jx4a65c_add_72be8_11 Z r0 r1 v7 x3) else f_Jx4a65c_add_72be8_11 Z r0 r1 r2 x3))
set_option maxRecDepth 100000 in
set_option maxHeartbeats 4000000 in
theorem s_Jx4a65c_add_72be8 {X : Cg} (cx : Cx X cJx4a65c_add_72be8 RJx4a65c 4) (hfr : 5 ≤ (xR X).frames) (hlo : 126 ≤ (xR X).locals) (hr : (xM X).sig.returnType = none) (r0 : Option Nat) (r1 : Option Nat) (r2 : Option Nat) (x3 : Int32) : Sim X 4 (FiM X vV) 0 [(0, va_rf r0), (1, va_rf r1), (2, va_rf r2), (3, .int x3)] [] (f_Jx4a65c_add_72be8 (xZ X) r0 r1 r2 x3) := by
  unfold f_Jx4a65c_add_72be8
  refine sm_iload_n cx 3 dJx4a65c_add_72be8_0 rfl rfl ?_
  refine sm_aload_n cx 2 dJx4a65c_add_72be8_1 rfl rfl ?_
  refine sm_aNq cx dJx4a65c_add_72be8_2 (fun v2 => ?_)
  refine sm_icmp_ne (tgt := 11) cx dJx4a65c_add_72be8_3 (by decide) ?_ ?_
  · exact sm_lv [0, 1, 2, 3] rfl (s_Jx4a65c_add_72be8_11 cx hfr hlo hr r0 r1 r2 x3)
  · refine sm_aload_n cx 0 dJx4a65c_add_72be8_6 rfl rfl ?_
    refine sm_callV (T := TJx4a65c) (N := 3) (toV := vR) cx [] rfl cv_Jx4a65c_129 (fun a h => ct_Jx4a65c_grow_d5877 (xZ X) a h) (Nat.le_trans (by decide) hfr) (Nat.le_trans (by decide) hlo) rfl (cat_le _ (Nat.le_of_ble_eq_true rfl)) dJx4a65c_add_72be8_7 (fun v7 => ?_)
    refine sm_astore_n cx [(2, va_rf v7), (0, va_rf r0), (1, va_rf r1), (3, .int x3)] dJx4a65c_add_72be8_10 rfl (by decide) rfl (nc1 (rf_cat _)) rfl ?_
    exact sm_lv [1, 2, 0, 3] rfl (s_Jx4a65c_add_72be8_11 cx hfr hlo hr r0 r1 v7 x3)
set_option maxRecDepth 100000 in
set_option maxHeartbeats 4000000 in
theorem ct_Jx4a65c_add_72be8 (Z : Nat → Nat) {r0 : Option Nat} (a0 : Nat) (h0 : r0 = some a0) (r1 : Option Nat) (r2 : Option Nat) (x3 : Int32) : Ct yJx4a65c_add_72be8 cJx4a65c_add_72be8 4 none 5 126 Z [.ref a0, va_rf r1, va_rf r2, .int x3] vV (f_Jx4a65c_add_72be8 Z r0 r1 r2 x3) := by
  subst h0
  refine ct_of (lv0 := [(0, va_rf (some a0)), (1, va_rf r1), (2, va_rf r2), (3, .int x3)]) (by decide +kernel) (by simp [lg_sl, ct_i, ct_l, ct_r, rf_cat]) (by show _ = ([(0, Value.ref a0), (1, va_rf r1), (2, va_rf r2), (3, .int x3)] : List (Nat × Value)); simp [lv_args, ct_i, ct_l, ct_r, rf_cat]) (fun X cx hZ hfr hlo hr hin => ?_)
  subst hZ
  exact s_Jx4a65c_add_72be8 cx (Nat.le_of_eq hfr.symm) (Nat.le_of_eq hlo.symm) hr (some a0) r1 r2 x3
/-! java/util/ArrayList.add(Ljava/lang/Object;)Z -/
theorem dJx4a65c_add_9ea2d_0 : decode cJx4a65c_add_9ea2d 0 = .ok (.aload_n 0, 1) := by decide +kernel
theorem dJx4a65c_add_9ea2d_1 : decode cJx4a65c_add_9ea2d 1 = .ok (.dup, 1) := by decide +kernel
theorem dJx4a65c_add_9ea2d_2 : decode cJx4a65c_add_9ea2d 2 = .ok (.getfield 63, 3) := by decide +kernel
theorem dJx4a65c_add_9ea2d_5 : decode cJx4a65c_add_9ea2d 5 = .ok (.iconst 1, 1) := by decide +kernel
theorem dJx4a65c_add_9ea2d_6 : decode cJx4a65c_add_9ea2d 6 = .ok (.iadd, 1) := by decide +kernel
theorem dJx4a65c_add_9ea2d_7 : decode cJx4a65c_add_9ea2d 7 = .ok (.putfield 63, 3) := by decide +kernel
theorem dJx4a65c_add_9ea2d_10 : decode cJx4a65c_add_9ea2d 10 = .ok (.aload_n 0, 1) := by decide +kernel
theorem dJx4a65c_add_9ea2d_11 : decode cJx4a65c_add_9ea2d 11 = .ok (.aload_n 1, 1) := by decide +kernel
theorem dJx4a65c_add_9ea2d_12 : decode cJx4a65c_add_9ea2d 12 = .ok (.aload_n 0, 1) := by decide +kernel
theorem dJx4a65c_add_9ea2d_13 : decode cJx4a65c_add_9ea2d 13 = .ok (.getfield 9, 3) := by decide +kernel
theorem dJx4a65c_add_9ea2d_16 : decode cJx4a65c_add_9ea2d 16 = .ok (.aload_n 0, 1) := by decide +kernel
theorem dJx4a65c_add_9ea2d_17 : decode cJx4a65c_add_9ea2d 17 = .ok (.getfield 48, 3) := by decide +kernel
theorem dJx4a65c_add_9ea2d_20 : decode cJx4a65c_add_9ea2d 20 = .ok (.invokevirtual 131, 3) := by decide +kernel
theorem dJx4a65c_add_9ea2d_23 : decode cJx4a65c_add_9ea2d 23 = .ok (.iconst 1, 1) := by decide +kernel
theorem dJx4a65c_add_9ea2d_24 : decode cJx4a65c_add_9ea2d 24 = .ok (.ireturn, 1) := by decide +kernel
def f_Jx4a65c_add_9ea2d (Z : Nat → Nat) (r0 : Option Nat) (r1 : Option Nat) : Mo Int32 := mb (gI 2 0 r0) (fun v2 => mb (pV 2 0 r0 (.int (v2 + (1 : Int32)))) (fun _ => mb (gR 2 1 r0) (fun v13 => mb (gI 2 2 r0) (fun v17 => mb (mo 2 r0 (f_Jx4a65c_add_72be8 Z r0 r1 v13 v17)) (fun _ => rz .boolean (1 : Int32))))))
set_option maxRecDepth 100000 in
set_option maxHeartbeats 4000000 in
theorem s_Jx4a65c_add_9ea2d {X : Cg} (cx : Cx X cJx4a65c_add_9ea2d RJx4a65c 2) (hfr : 6 ≤ (xR X).frames) (hlo : 149 ≤ (xR X).locals) (hr : (xM X).sig.returnType = (some .boolean)) (r0 : Option Nat) (r1 : Option Nat) : Sim X 2 (FiM X vI) 0 [(0, va_rf r0), (1, va_rf r1)] [] (f_Jx4a65c_add_9ea2d (xZ X) r0 r1) := by
  unfold f_Jx4a65c_add_9ea2d
  refine sm_aload_n cx 0 dJx4a65c_add_9ea2d_0 rfl rfl ?_
  refine sm_dup cx dJx4a65c_add_9ea2d_1 (rf_cat _) ?_
  refine sm_getI cx fl_Jx4a65c_63 dJx4a65c_add_9ea2d_2 (fun v2 => ?_)
  refine sm_iconst (v := 1) cx dJx4a65c_add_9ea2d_5 (by decide) ?_
  refine sm_iadd cx dJx4a65c_add_9ea2d_6 ?_
  refine sm_putV cx fl_Jx4a65c_63 rfl rfl dJx4a65c_add_9ea2d_7 ?_
  refine sm_aload_n cx 0 dJx4a65c_add_9ea2d_10 rfl rfl ?_
  refine sm_aload_n cx 1 dJx4a65c_add_9ea2d_11 rfl rfl ?_
  refine sm_aload_n cx 0 dJx4a65c_add_9ea2d_12 rfl rfl ?_
  refine sm_getR cx fl_Jx4a65c_9 dJx4a65c_add_9ea2d_13 (fun v13 => ?_)
  refine sm_aload_n cx 0 dJx4a65c_add_9ea2d_16 rfl rfl ?_
  refine sm_getI cx fl_Jx4a65c_48 dJx4a65c_add_9ea2d_17 (fun v17 => ?_)
  refine sm_callV (T := TJx4a65c) (N := 3) (toV := vV) cx [va_rf r1, va_rf v13, .int v17] rfl cv_Jx4a65c_131 (fun a h => ct_Jx4a65c_add_72be8 (xZ X) a h r1 v13 v17) (Nat.le_trans (by decide) hfr) (Nat.le_trans (by decide) hlo) rfl (cat_le _ (Nat.le_of_ble_eq_true rfl)) dJx4a65c_add_9ea2d_20 (fun _ => ?_)
  refine sm_iconst (v := 1) cx dJx4a65c_add_9ea2d_23 (by decide) ?_
  exact sm_zret cx hr dJx4a65c_add_9ea2d_24
set_option maxRecDepth 100000 in
set_option maxHeartbeats 4000000 in
theorem ct_Jx4a65c_add_9ea2d (Z : Nat → Nat) {r0 : Option Nat} (a0 : Nat) (h0 : r0 = some a0) (r1 : Option Nat) : Ct yJx4a65c_add_9ea2d cJx4a65c_add_9ea2d 2 (some .boolean) 6 149 Z [.ref a0, va_rf r1] vI (f_Jx4a65c_add_9ea2d Z r0 r1) := by
  subst h0
  refine ct_of (lv0 := [(0, va_rf (some a0)), (1, va_rf r1)]) (by decide +kernel) (by simp [lg_sl, ct_i, ct_l, ct_r, rf_cat]) (by show _ = ([(0, Value.ref a0), (1, va_rf r1)] : List (Nat × Value)); simp [lv_args, ct_i, ct_l, ct_r, rf_cat]) (fun X cx hZ hfr hlo hr hin => ?_)
  subst hZ
  exact s_Jx4a65c_add_9ea2d cx (Nat.le_of_eq hfr.symm) (Nat.le_of_eq hlo.symm) hr (some a0) r1
/-! java/util/ArrayList.rangeCheckForAdd(I)V -/
theorem dJx4a65c_rangeCheckForAdd_d00df_0 : decode cJx4a65c_rangeCheckForAdd_d00df 0 = .ok (.iload_n 1, 1) := by decide +kernel
theorem dJx4a65c_rangeCheckForAdd_d00df_1 : decode cJx4a65c_rangeCheckForAdd_d00df 1 = .ok (.aload_n 0, 1) := by decide +kernel
theorem dJx4a65c_rangeCheckForAdd_d00df_2 : decode cJx4a65c_rangeCheckForAdd_d00df 2 = .ok (.getfield 48, 3) := by decide +kernel
theorem dJx4a65c_rangeCheckForAdd_d00df_5 : decode cJx4a65c_rangeCheckForAdd_d00df 5 = .ok (.if_icmp .gt 7, 3) := by decide +kernel
theorem dJx4a65c_rangeCheckForAdd_d00df_8 : decode cJx4a65c_rangeCheckForAdd_d00df 8 = .ok (.iload_n 1, 1) := by decide +kernel
theorem dJx4a65c_rangeCheckForAdd_d00df_9 : decode cJx4a65c_rangeCheckForAdd_d00df 9 = .ok (.ifCond .ge 16, 3) := by decide +kernel
theorem dJx4a65c_rangeCheckForAdd_d00df_12 : decode cJx4a65c_rangeCheckForAdd_d00df 12 = .ok (.new 187, 3) := by decide +kernel
theorem dJx4a65c_rangeCheckForAdd_d00df_15 : decode cJx4a65c_rangeCheckForAdd_d00df 15 = .ok (.dup, 1) := by decide +kernel
theorem dJx4a65c_rangeCheckForAdd_d00df_16 : decode cJx4a65c_rangeCheckForAdd_d00df 16 = .ok (.aload_n 0, 1) := by decide +kernel
theorem dJx4a65c_rangeCheckForAdd_d00df_17 : decode cJx4a65c_rangeCheckForAdd_d00df 17 = .ok (.iload_n 1, 1) := by decide +kernel
theorem dJx4a65c_rangeCheckForAdd_d00df_18 : decode cJx4a65c_rangeCheckForAdd_d00df 18 = .ok (.invokevirtual 198, 3) := by decide +kernel
theorem dJx4a65c_rangeCheckForAdd_d00df_21 : decode cJx4a65c_rangeCheckForAdd_d00df 21 = .ok (.invokespecial 193, 3) := by decide +kernel
theorem dJx4a65c_rangeCheckForAdd_d00df_24 : decode cJx4a65c_rangeCheckForAdd_d00df 24 = .ok (.athrow, 1) := by decide +kernel
theorem dJx4a65c_rangeCheckForAdd_d00df_25 : decode cJx4a65c_rangeCheckForAdd_d00df 25 = .ok (.return_, 1) := by decide +kernel
def f_Jx4a65c_rangeCheckForAdd_d00df_12 (r0 : Option Nat) (x1 : Int32) : Mo Unit := mf
set_option maxRecDepth 100000 in
set_option maxHeartbeats 4000000 in
theorem s_Jx4a65c_rangeCheckForAdd_d00df_12 {X : Cg} (cx : Cx X cJx4a65c_rangeCheckForAdd_d00df RJx4a65c 2) (hfr : 0 ≤ (xR X).frames) (hlo : 0 ≤ (xR X).locals) (hr : (xM X).sig.returnType = none) (r0 : Option Nat) (x1 : Int32) : Sim X 2 (FiM X vV) 12 [(0, va_rf r0), (1, .int x1)] [] (f_Jx4a65c_rangeCheckForAdd_d00df_12 r0 x1) := by
  unfold f_Jx4a65c_rangeCheckForAdd_d00df_12
  exact sm_mf
def f_Jx4a65c_rangeCheckForAdd_d00df (r0 : Option Nat) (x1 : Int32) : Mo Unit := mb (gI 2 2 r0) (fun v2 => (if v2 < x1 then f_Jx4a65c_rangeCheckForAdd_d00df_12 r0 x1 else (if 0 ≤ x1 then mp () else f_Jx4a65c_rangeCheckForAdd_d00df_12 r0 x1)))
set_option maxRecDepth 100000 in
set_option maxHeartbeats 4000000 in
theorem s_Jx4a65c_rangeCheckForAdd_d00df {X : Cg} (cx : Cx X cJx4a65c_rangeCheckForAdd_d00df RJx4a65c 2) (hfr : 0 ≤ (xR X).frames) (hlo : 0 ≤ (xR X).locals) (hr : (xM X).sig.returnType = none) (r0 : Option Nat) (x1 : Int32) : Sim X 2 (FiM X vV) 0 [(0, va_rf r0), (1, .int x1)] [] (f_Jx4a65c_rangeCheckForAdd_d00df r0 x1) := by
  unfold f_Jx4a65c_rangeCheckForAdd_d00df
  refine sm_iload_n cx 1 dJx4a65c_rangeCheckForAdd_d00df_0 rfl rfl ?_
  refine sm_aload_n cx 0 dJx4a65c_rangeCheckForAdd_d00df_1 rfl rfl ?_
  refine sm_getI cx fl_Jx4a65c_48 dJx4a65c_rangeCheckForAdd_d00df_2 (fun v2 => ?_)
  refine sm_icmp_gt (tgt := 12) cx dJx4a65c_rangeCheckForAdd_d00df_5 (by decide) ?_ ?_
  · exact sm_lv [0, 1] rfl (s_Jx4a65c_rangeCheckForAdd_d00df_12 cx hfr hlo hr r0 x1)
  · refine sm_iload_n cx 1 dJx4a65c_rangeCheckForAdd_d00df_8 rfl rfl ?_
    refine sm_if_ge (tgt := 25) cx dJx4a65c_rangeCheckForAdd_d00df_9 (by decide) ?_ ?_
    · exact sm_vret cx hr dJx4a65c_rangeCheckForAdd_d00df_25
    · exact sm_lv [0, 1] rfl (s_Jx4a65c_rangeCheckForAdd_d00df_12 cx hfr hlo hr r0 x1)
set_option maxRecDepth 100000 in
set_option maxHeartbeats 4000000 in
theorem ct_Jx4a65c_rangeCheckForAdd_d00df (Z : Nat → Nat) {r0 : Option Nat} (a0 : Nat) (h0 : r0 = some a0) (x1 : Int32) : Ct yJx4a65c_rangeCheckForAdd_d00df cJx4a65c_rangeCheckForAdd_d00df 2 none 0 0 Z [.ref a0, .int x1] vV (f_Jx4a65c_rangeCheckForAdd_d00df r0 x1) := by
  subst h0
  refine ct_of (lv0 := [(0, va_rf (some a0)), (1, .int x1)]) (by decide +kernel) (by simp [lg_sl, ct_i, ct_l, ct_r, rf_cat]) (by show _ = ([(0, Value.ref a0), (1, .int x1)] : List (Nat × Value)); simp [lv_args, ct_i, ct_l, ct_r, rf_cat]) (fun X cx hZ hfr hlo hr hin => ?_)
  subst hZ
  exact s_Jx4a65c_rangeCheckForAdd_d00df cx (Nat.le_of_eq hfr.symm) (Nat.le_of_eq hlo.symm) hr (some a0) x1
/-! java/util/ArrayList.add(ILjava/lang/Object;)V -/
theorem dJx4a65c_add_7a177_0 : decode cJx4a65c_add_7a177 0 = .ok (.aload_n 0, 1) := by decide +kernel
theorem dJx4a65c_add_7a177_1 : decode cJx4a65c_add_7a177 1 = .ok (.iload_n 1, 1) := by decide +kernel
theorem dJx4a65c_add_7a177_2 : decode cJx4a65c_add_7a177 2 = .ok (.invokevirtual 135, 3) := by decide +kernel
theorem dJx4a65c_add_7a177_5 : decode cJx4a65c_add_7a177 5 = .ok (.aload_n 0, 1) := by decide +kernel
theorem dJx4a65c_add_7a177_6 : decode cJx4a65c_add_7a177 6 = .ok (.dup, 1) := by decide +kernel
theorem dJx4a65c_add_7a177_7 : decode cJx4a65c_add_7a177 7 = .ok (.getfield 63, 3) := by decide +kernel
theorem dJx4a65c_add_7a177_10 : decode cJx4a65c_add_7a177 10 = .ok (.iconst 1, 1) := by decide +kernel
theorem dJx4a65c_add_7a177_11 : decode cJx4a65c_add_7a177 11 = .ok (.iadd, 1) := by decide +kernel
theorem dJx4a65c_add_7a177_12 : decode cJx4a65c_add_7a177 12 = .ok (.putfield 63, 3) := by decide +kernel
theorem dJx4a65c_add_7a177_15 : decode cJx4a65c_add_7a177 15 = .ok (.aload_n 0, 1) := by decide +kernel
theorem dJx4a65c_add_7a177_16 : decode cJx4a65c_add_7a177 16 = .ok (.getfield 48, 3) := by decide +kernel
theorem dJx4a65c_add_7a177_19 : decode cJx4a65c_add_7a177 19 = .ok (.dup, 1) := by decide +kernel
theorem dJx4a65c_add_7a177_20 : decode cJx4a65c_add_7a177 20 = .ok (.istore_n 3, 1) := by decide +kernel
theorem dJx4a65c_add_7a177_21 : decode cJx4a65c_add_7a177 21 = .ok (.aload_n 0, 1) := by decide +kernel
theorem dJx4a65c_add_7a177_22 : decode cJx4a65c_add_7a177 22 = .ok (.getfield 9, 3) := by decide +kernel
theorem dJx4a65c_add_7a177_25 : decode cJx4a65c_add_7a177 25 = .ok (.dup, 1) := by decide +kernel
theorem dJx4a65c_add_7a177_26 : decode cJx4a65c_add_7a177 26 = .ok (.astore 4, 2) := by decide +kernel
theorem dJx4a65c_add_7a177_28 : decode cJx4a65c_add_7a177 28 = .ok (.arraylength, 1) := by decide +kernel
theorem dJx4a65c_add_7a177_29 : decode cJx4a65c_add_7a177 29 = .ok (.if_icmp .ne 9, 3) := by decide +kernel
theorem dJx4a65c_add_7a177_32 : decode cJx4a65c_add_7a177 32 = .ok (.aload_n 0, 1) := by decide +kernel
theorem dJx4a65c_add_7a177_33 : decode cJx4a65c_add_7a177 33 = .ok (.invokevirtual 129, 3) := by decide +kernel
theorem dJx4a65c_add_7a177_36 : decode cJx4a65c_add_7a177 36 = .ok (.astore 4, 2) := by decide +kernel
theorem dJx4a65c_add_7a177_38 : decode cJx4a65c_add_7a177 38 = .ok (.aload 4, 2) := by decide +kernel
theorem dJx4a65c_add_7a177_40 : decode cJx4a65c_add_7a177 40 = .ok (.iload_n 1, 1) := by decide +kernel
theorem dJx4a65c_add_7a177_41 : decode cJx4a65c_add_7a177 41 = .ok (.aload 4, 2) := by decide +kernel
theorem dJx4a65c_add_7a177_43 : decode cJx4a65c_add_7a177 43 = .ok (.iload_n 1, 1) := by decide +kernel
theorem dJx4a65c_add_7a177_44 : decode cJx4a65c_add_7a177 44 = .ok (.iconst 1, 1) := by decide +kernel
theorem dJx4a65c_add_7a177_45 : decode cJx4a65c_add_7a177 45 = .ok (.iadd, 1) := by decide +kernel
theorem dJx4a65c_add_7a177_46 : decode cJx4a65c_add_7a177 46 = .ok (.iload_n 3, 1) := by decide +kernel
theorem dJx4a65c_add_7a177_47 : decode cJx4a65c_add_7a177 47 = .ok (.iload_n 1, 1) := by decide +kernel
theorem dJx4a65c_add_7a177_48 : decode cJx4a65c_add_7a177 48 = .ok (.isub, 1) := by decide +kernel
theorem dJx4a65c_add_7a177_49 : decode cJx4a65c_add_7a177 49 = .ok (.invokestatic 112, 3) := by decide +kernel
theorem dJx4a65c_add_7a177_52 : decode cJx4a65c_add_7a177 52 = .ok (.aload 4, 2) := by decide +kernel
theorem dJx4a65c_add_7a177_54 : decode cJx4a65c_add_7a177 54 = .ok (.iload_n 1, 1) := by decide +kernel
theorem dJx4a65c_add_7a177_55 : decode cJx4a65c_add_7a177 55 = .ok (.aload_n 2, 1) := by decide +kernel
theorem dJx4a65c_add_7a177_56 : decode cJx4a65c_add_7a177 56 = .ok (.aastore, 1) := by decide +kernel
theorem dJx4a65c_add_7a177_57 : decode cJx4a65c_add_7a177 57 = .ok (.aload_n 0, 1) := by decide +kernel
theorem dJx4a65c_add_7a177_58 : decode cJx4a65c_add_7a177 58 = .ok (.iload_n 3, 1) := by decide +kernel
theorem dJx4a65c_add_7a177_59 : decode cJx4a65c_add_7a177 59 = .ok (.iconst 1, 1) := by decide +kernel
theorem dJx4a65c_add_7a177_60 : decode cJx4a65c_add_7a177 60 = .ok (.iadd, 1) := by decide +kernel
theorem dJx4a65c_add_7a177_61 : decode cJx4a65c_add_7a177 61 = .ok (.putfield 48, 3) := by decide +kernel
theorem dJx4a65c_add_7a177_64 : decode cJx4a65c_add_7a177 64 = .ok (.return_, 1) := by decide +kernel
def f_Jx4a65c_add_7a177_38 (Z : Nat → Nat) (r0 : Option Nat) (x1 : Int32) (r2 : Option Nat) (x3 : Int32) (r4 : Option Nat) : Mo Unit := mb (cpR r4 x1 r4 (x1 + (1 : Int32)) (x3 - x1)) (fun _ => mb (sR r4 x1 r2) (fun _ => mb (pV 2 2 r0 (.int (x3 + (1 : Int32)))) (fun _ => mp ())))
set_option maxRecDepth 100000 in
set_option maxHeartbeats 4000000 in
theorem s_Jx4a65c_add_7a177_38 {X : Cg} (cx : Cx X cJx4a65c_add_7a177 RJx4a65c 5) (hfr : 5 ≤ (xR X).frames) (hlo : 126 ≤ (xR X).locals) (hr : (xM X).sig.returnType = none) (r0 : Option Nat) (x1 : Int32) (r2 : Option Nat) (x3 : Int32) (r4 : Option Nat) : Sim X 5 (FiM X vV) 38 [(0, va_rf r0), (1, .int x1), (2, va_rf r2), (3, .int x3), (4, va_rf r4)] [] (f_Jx4a65c_add_7a177_38 (xZ X) r0 x1 r2 x3 r4) := by
  unfold f_Jx4a65c_add_7a177_38
  refine sm_aload cx 4 dJx4a65c_add_7a177_38 rfl ?_
  refine sm_iload_n cx 1 dJx4a65c_add_7a177_40 rfl rfl ?_
  refine sm_aload cx 4 dJx4a65c_add_7a177_41 rfl ?_
  refine sm_iload_n cx 1 dJx4a65c_add_7a177_43 rfl rfl ?_
  refine sm_iconst (v := 1) cx dJx4a65c_add_7a177_44 (by decide) ?_
  refine sm_iadd cx dJx4a65c_add_7a177_45 ?_
  refine sm_iload_n cx 3 dJx4a65c_add_7a177_46 rfl rfl ?_
  refine sm_iload_n cx 1 dJx4a65c_add_7a177_47 rfl rfl ?_
  refine sm_isub cx dJx4a65c_add_7a177_48 ?_
  refine sm_cpR cx wd_5_239 wd_2_46 wd_2_45 wd_1_15 (Nat.le_trans (by decide) hfr) (cat_le _ (Nat.le_of_ble_eq_true rfl)) (Nat.le_trans (by decide) hlo) dJx4a65c_add_7a177_49 ?_
  refine sm_aload cx 4 dJx4a65c_add_7a177_52 rfl ?_
  refine sm_iload_n cx 1 dJx4a65c_add_7a177_54 rfl rfl ?_
  refine sm_aload_n cx 2 dJx4a65c_add_7a177_55 rfl rfl ?_
  refine sm_aast cx dJx4a65c_add_7a177_56 ?_
  refine sm_aload_n cx 0 dJx4a65c_add_7a177_57 rfl rfl ?_
  refine sm_iload_n cx 3 dJx4a65c_add_7a177_58 rfl rfl ?_
  refine sm_iconst (v := 1) cx dJx4a65c_add_7a177_59 (by decide) ?_
  refine sm_iadd cx dJx4a65c_add_7a177_60 ?_
  refine sm_putV cx fl_Jx4a65c_48 rfl rfl dJx4a65c_add_7a177_61 ?_
  exact sm_vret cx hr dJx4a65c_add_7a177_64
def f_Jx4a65c_add_7a177 (Z : Nat → Nat) (r0 : Option Nat) (x1 : Int32) (r2 : Option Nat) : Mo Unit := mb (mo 2 r0 (f_Jx4a65c_rangeCheckForAdd_d00df r0 x1)) (fun _ => mb (gI 2 0 r0) (fun v7 => mb (pV 2 0 r0 (.int (v7 + (1 : Int32)))) (fun _ => mb (gI 2 2 r0) (fun v16 => mb (gR 2 1 r0) (fun v22 => mb (aNq Z v22) (fun v28 => (if v16 = v28 then mb (mo 2 r0 (f_Jx4a65c_grow_d5877 Z r0)) (fun v33 => f_Jx4a65c_add_7a177_38 Z r0 x1 r2 v16 v33) else f_Jx4a65c_add_7a177_38 Z r0 x1 r2 v16 v22)))))))
set_option maxRecDepth 100000 in
set_option maxHeartbeats 4000000 in
theorem s_Jx4a65c_add_7a177 {X : Cg} (cx : Cx X cJx4a65c_add_7a177 RJx4a65c 5) (hfr : 5 ≤ (xR X).frames) (hlo : 126 ≤ (xR X).locals) (hr : (xM X).sig.returnType = none) (r0 : Option Nat) (x1 : Int32) (r2 : Option Nat) : Sim X 5 (FiM X vV) 0 [(0, va_rf r0), (1, .int x1), (2, va_rf r2)] [] (f_Jx4a65c_add_7a177 (xZ X) r0 x1 r2) := by
  unfold f_Jx4a65c_add_7a177
  refine sm_aload_n cx 0 dJx4a65c_add_7a177_0 rfl rfl ?_
  refine sm_iload_n cx 1 dJx4a65c_add_7a177_1 rfl rfl ?_
  refine sm_callV (T := TJx4a65c) (N := 3) (toV := vV) cx [.int x1] rfl cv_Jx4a65c_135 (fun a h => ct_Jx4a65c_rangeCheckForAdd_d00df (xZ X) a h x1) (Nat.le_trans (by decide) hfr) (Nat.le_trans (by decide) hlo) rfl (cat_le _ (Nat.le_of_ble_eq_true rfl)) dJx4a65c_add_7a177_2 (fun _ => ?_)
  refine sm_aload_n cx 0 dJx4a65c_add_7a177_5 rfl rfl ?_
  refine sm_dup cx dJx4a65c_add_7a177_6 (rf_cat _) ?_
  refine sm_getI cx fl_Jx4a65c_63 dJx4a65c_add_7a177_7 (fun v7 => ?_)
  refine sm_iconst (v := 1) cx dJx4a65c_add_7a177_10 (by decide) ?_
  refine sm_iadd cx dJx4a65c_add_7a177_11 ?_
  refine sm_putV cx fl_Jx4a65c_63 rfl rfl dJx4a65c_add_7a177_12 ?_
  refine sm_aload_n cx 0 dJx4a65c_add_7a177_15 rfl rfl ?_
  refine sm_getI cx fl_Jx4a65c_48 dJx4a65c_add_7a177_16 (fun v16 => ?_)
  refine sm_dup cx dJx4a65c_add_7a177_19 rfl ?_
  refine sm_istore_n cx [(3, .int v16), (0, va_rf r0), (1, .int x1), (2, va_rf r2)] dJx4a65c_add_7a177_20 rfl (by decide) rfl (nc1 (rf_cat _)) rfl ?_
  refine sm_aload_n cx 1 dJx4a65c_add_7a177_21 rfl rfl ?_
  refine sm_getR cx fl_Jx4a65c_9 dJx4a65c_add_7a177_22 (fun v22 => ?_)
  refine sm_dup cx dJx4a65c_add_7a177_25 (rf_cat _) ?_
  refine sm_astore cx [(4, va_rf v22), (3, .int v16), (0, va_rf r0), (1, .int x1), (2, va_rf r2)] dJx4a65c_add_7a177_26 (by decide) rfl (nc1 rfl) rfl ?_
  refine sm_aNq cx dJx4a65c_add_7a177_28 (fun v28 => ?_)
  refine sm_icmp_ne (tgt := 38) cx dJx4a65c_add_7a177_29 (by decide) ?_ ?_
  · exact sm_lv [2, 3, 4, 1, 0] rfl (s_Jx4a65c_add_7a177_38 cx hfr hlo hr r0 x1 r2 v16 v22)
  · refine sm_aload_n cx 2 dJx4a65c_add_7a177_32 rfl rfl ?_
    refine sm_callV (T := TJx4a65c) (N := 3) (toV := vR) cx [] rfl cv_Jx4a65c_129 (fun a h => ct_Jx4a65c_grow_d5877 (xZ X) a h) (Nat.le_trans (by decide) hfr) (Nat.le_trans (by decide) hlo) rfl (cat_le _ (Nat.le_of_ble_eq_true rfl)) dJx4a65c_add_7a177_33 (fun v33 => ?_)
    refine sm_astore cx [(4, va_rf v33), (3, .int v16), (0, va_rf r0), (1, .int x1), (2, va_rf r2)] dJx4a65c_add_7a177_36 (by decide) rfl (nc1 rfl) rfl ?_
    exact sm_lv [2, 3, 4, 1, 0] rfl (s_Jx4a65c_add_7a177_38 cx hfr hlo hr r0 x1 r2 v16 v33)
set_option maxRecDepth 100000 in
set_option maxHeartbeats 4000000 in
theorem ct_Jx4a65c_add_7a177 (Z : Nat → Nat) {r0 : Option Nat} (a0 : Nat) (h0 : r0 = some a0) (x1 : Int32) (r2 : Option Nat) : Ct yJx4a65c_add_7a177 cJx4a65c_add_7a177 5 none 5 126 Z [.ref a0, .int x1, va_rf r2] vV (f_Jx4a65c_add_7a177 Z r0 x1 r2) := by
  subst h0
  refine ct_of (lv0 := [(0, va_rf (some a0)), (1, .int x1), (2, va_rf r2)]) (by decide +kernel) (by simp [lg_sl, ct_i, ct_l, ct_r, rf_cat]) (by show _ = ([(0, Value.ref a0), (1, .int x1), (2, va_rf r2)] : List (Nat × Value)); simp [lv_args, ct_i, ct_l, ct_r, rf_cat]) (fun X cx hZ hfr hlo hr hin => ?_)
  subst hZ
  exact s_Jx4a65c_add_7a177 cx (Nat.le_of_eq hfr.symm) (Nat.le_of_eq hlo.symm) hr (some a0) x1 r2
/-! java/util/ArrayList.fastRemove([Ljava/lang/Object;I)V -/
theorem dJx4a65c_fastRemove_b59b0_0 : decode cJx4a65c_fastRemove_b59b0 0 = .ok (.aload_n 0, 1) := by decide +kernel
theorem dJx4a65c_fastRemove_b59b0_1 : decode cJx4a65c_fastRemove_b59b0 1 = .ok (.dup, 1) := by decide +kernel
theorem dJx4a65c_fastRemove_b59b0_2 : decode cJx4a65c_fastRemove_b59b0 2 = .ok (.getfield 63, 3) := by decide +kernel
theorem dJx4a65c_fastRemove_b59b0_5 : decode cJx4a65c_fastRemove_b59b0 5 = .ok (.iconst 1, 1) := by decide +kernel
theorem dJx4a65c_fastRemove_b59b0_6 : decode cJx4a65c_fastRemove_b59b0 6 = .ok (.iadd, 1) := by decide +kernel
theorem dJx4a65c_fastRemove_b59b0_7 : decode cJx4a65c_fastRemove_b59b0 7 = .ok (.putfield 63, 3) := by decide +kernel
theorem dJx4a65c_fastRemove_b59b0_10 : decode cJx4a65c_fastRemove_b59b0 10 = .ok (.aload_n 0, 1) := by decide +kernel
theorem dJx4a65c_fastRemove_b59b0_11 : decode cJx4a65c_fastRemove_b59b0 11 = .ok (.getfield 48, 3) := by decide +kernel
theorem dJx4a65c_fastRemove_b59b0_14 : decode cJx4a65c_fastRemove_b59b0 14 = .ok (.iconst 1, 1) := by decide +kernel
theorem dJx4a65c_fastRemove_b59b0_15 : decode cJx4a65c_fastRemove_b59b0 15 = .ok (.isub, 1) := by decide +kernel
theorem dJx4a65c_fastRemove_b59b0_16 : decode cJx4a65c_fastRemove_b59b0 16 = .ok (.dup, 1) := by decide +kernel
theorem dJx4a65c_fastRemove_b59b0_17 : decode cJx4a65c_fastRemove_b59b0 17 = .ok (.istore_n 3, 1) := by decide +kernel
theorem dJx4a65c_fastRemove_b59b0_18 : decode cJx4a65c_fastRemove_b59b0 18 = .ok (.iload_n 2, 1) := by decide +kernel
theorem dJx4a65c_fastRemove_b59b0_19 : decode cJx4a65c_fastRemove_b59b0 19 = .ok (.if_icmp .le 15, 3) := by decide +kernel
theorem dJx4a65c_fastRemove_b59b0_22 : decode cJx4a65c_fastRemove_b59b0 22 = .ok (.aload_n 1, 1) := by decide +kernel
theorem dJx4a65c_fastRemove_b59b0_23 : decode cJx4a65c_fastRemove_b59b0 23 = .ok (.iload_n 2, 1) := by decide +kernel
theorem dJx4a65c_fastRemove_b59b0_24 : decode cJx4a65c_fastRemove_b59b0 24 = .ok (.iconst 1, 1) := by decide +kernel
theorem dJx4a65c_fastRemove_b59b0_25 : decode cJx4a65c_fastRemove_b59b0 25 = .ok (.iadd, 1) := by decide +kernel
theorem dJx4a65c_fastRemove_b59b0_26 : decode cJx4a65c_fastRemove_b59b0 26 = .ok (.aload_n 1, 1) := by decide +kernel
theorem dJx4a65c_fastRemove_b59b0_27 : decode cJx4a65c_fastRemove_b59b0 27 = .ok (.iload_n 2, 1) := by decide +kernel
theorem dJx4a65c_fastRemove_b59b0_28 : decode cJx4a65c_fastRemove_b59b0 28 = .ok (.iload_n 3, 1) := by decide +kernel
theorem dJx4a65c_fastRemove_b59b0_29 : decode cJx4a65c_fastRemove_b59b0 29 = .ok (.iload_n 2, 1) := by decide +kernel
theorem dJx4a65c_fastRemove_b59b0_30 : decode cJx4a65c_fastRemove_b59b0 30 = .ok (.isub, 1) := by decide +kernel
theorem dJx4a65c_fastRemove_b59b0_31 : decode cJx4a65c_fastRemove_b59b0 31 = .ok (.invokestatic 112, 3) := by decide +kernel
theorem dJx4a65c_fastRemove_b59b0_34 : decode cJx4a65c_fastRemove_b59b0 34 = .ok (.aload_n 1, 1) := by decide +kernel
theorem dJx4a65c_fastRemove_b59b0_35 : decode cJx4a65c_fastRemove_b59b0 35 = .ok (.aload_n 0, 1) := by decide +kernel
theorem dJx4a65c_fastRemove_b59b0_36 : decode cJx4a65c_fastRemove_b59b0 36 = .ok (.iload_n 3, 1) := by decide +kernel
theorem dJx4a65c_fastRemove_b59b0_37 : decode cJx4a65c_fastRemove_b59b0 37 = .ok (.dup_x1, 1) := by decide +kernel
theorem dJx4a65c_fastRemove_b59b0_38 : decode cJx4a65c_fastRemove_b59b0 38 = .ok (.putfield 48, 3) := by decide +kernel
theorem dJx4a65c_fastRemove_b59b0_41 : decode cJx4a65c_fastRemove_b59b0 41 = .ok (.aconst_null, 1) := by decide +kernel
theorem dJx4a65c_fastRemove_b59b0_42 : decode cJx4a65c_fastRemove_b59b0 42 = .ok (.aastore, 1) := by decide +kernel
theorem dJx4a65c_fastRemove_b59b0_43 : decode cJx4a65c_fastRemove_b59b0 43 = .ok (.return_, 1) := by decide +kernel
def f_Jx4a65c_fastRemove_b59b0_34 (r0 : Option Nat) (r1 : Option Nat) (x3 : Int32) : Mo Unit := mb (pV 2 2 r0 (.int x3)) (fun _ => mb (sR r1 x3 none) (fun _ => mp ()))
set_option maxRecDepth 100000 in
set_option maxHeartbeats 4000000 in
theorem s_Jx4a65c_fastRemove_b59b0_34 {X : Cg} (cx : Cx X cJx4a65c_fastRemove_b59b0 RJx4a65c 4) (hfr : 1 ≤ (xR X).frames) (hlo : 39 ≤ (xR X).locals) (hr : (xM X).sig.returnType = none) (r0 : Option Nat) (r1 : Option Nat) (x3 : Int32) : Sim X 4 (FiM X vV) 34 [(0, va_rf r0), (1, va_rf r1), (3, .int x3)] [] (f_Jx4a65c_fastRemove_b59b0_34 r0 r1 x3) := by
  unfold f_Jx4a65c_fastRemove_b59b0_34
  refine sm_aload_n cx 1 dJx4a65c_fastRemove_b59b0_34 rfl rfl ?_
  refine sm_aload_n cx 0 dJx4a65c_fastRemove_b59b0_35 rfl rfl ?_
  refine sm_iload_n cx 2 dJx4a65c_fastRemove_b59b0_36 rfl rfl ?_
  refine sm_dupx1 cx dJx4a65c_fastRemove_b59b0_37 rfl (rf_cat _) ?_
  refine sm_putV cx fl_Jx4a65c_48 rfl rfl dJx4a65c_fastRemove_b59b0_38 ?_
  refine sm_null cx dJx4a65c_fastRemove_b59b0_41 ?_
  refine sm_aast cx dJx4a65c_fastRemove_b59b0_42 ?_
  exact sm_vret cx hr dJx4a65c_fastRemove_b59b0_43
def f_Jx4a65c_fastRemove_b59b0 (r0 : Option Nat) (r1 : Option Nat) (x2 : Int32) : Mo Unit := mb (gI 2 0 r0) (fun v2 => mb (pV 2 0 r0 (.int (v2 + (1 : Int32)))) (fun _ => mb (gI 2 2 r0) (fun v11 => (if (v11 - (1 : Int32)) ≤ x2 then f_Jx4a65c_fastRemove_b59b0_34 r0 r1 (v11 - (1 : Int32)) else mb (cpR r1 (x2 + (1 : Int32)) r1 x2 ((v11 - (1 : Int32)) - x2)) (fun _ => f_Jx4a65c_fastRemove_b59b0_34 r0 r1 (v11 - (1 : Int32)))))))
set_option maxRecDepth 100000 in
set_option maxHeartbeats 4000000 in
theorem s_Jx4a65c_fastRemove_b59b0 {X : Cg} (cx : Cx X cJx4a65c_fastRemove_b59b0 RJx4a65c 4) (hfr : 1 ≤ (xR X).frames) (hlo : 39 ≤ (xR X).locals) (hr : (xM X).sig.returnType = none) (r0 : Option Nat) (r1 : Option Nat) (x2 : Int32) : Sim X 4 (FiM X vV) 0 [(0, va_rf r0), (1, va_rf r1), (2, .int x2)] [] (f_Jx4a65c_fastRemove_b59b0 r0 r1 x2) := by
  unfold f_Jx4a65c_fastRemove_b59b0
  refine sm_aload_n cx 0 dJx4a65c_fastRemove_b59b0_0 rfl rfl ?_
  refine sm_dup cx dJx4a65c_fastRemove_b59b0_1 (rf_cat _) ?_
  refine sm_getI cx fl_Jx4a65c_63 dJx4a65c_fastRemove_b59b0_2 (fun v2 => ?_)
  refine sm_iconst (v := 1) cx dJx4a65c_fastRemove_b59b0_5 (by decide) ?_
  refine sm_iadd cx dJx4a65c_fastRemove_b59b0_6 ?_
  refine sm_putV cx fl_Jx4a65c_63 rfl rfl dJx4a65c_fastRemove_b59b0_7 ?_
  refine sm_aload_n cx 0 dJx4a65c_fastRemove_b59b0_10 rfl rfl ?_
  refine sm_getI cx fl_Jx4a65c_48 dJx4a65c_fastRemove_b59b0_11 (fun v11 => ?_)
  refine sm_iconst (v := 1) cx dJx4a65c_fastRemove_b59b0_14 (by decide) ?_
  refine sm_isub cx dJx4a65c_fastRemove_b59b0_15 ?_
  refine sm_dup cx dJx4a65c_fastRemove_b59b0_16 rfl ?_
  refine sm_istore_n cx [(3, .int (v11 - (1 : Int32))), (0, va_rf r0), (1, va_rf r1), (2, .int x2)] dJx4a65c_fastRemove_b59b0_17 rfl (by decide) rfl (nc1 rfl) rfl ?_
  refine sm_iload_n cx 3 dJx4a65c_fastRemove_b59b0_18 rfl rfl ?_
  refine sm_icmp_le (tgt := 34) cx dJx4a65c_fastRemove_b59b0_19 (by decide) ?_ ?_
  · exact sm_lv [1, 2, 0] rfl (s_Jx4a65c_fastRemove_b59b0_34 cx hfr hlo hr r0 r1 (v11 - (1 : Int32)))
  · refine sm_aload_n cx 2 dJx4a65c_fastRemove_b59b0_22 rfl rfl ?_
    refine sm_iload_n cx 3 dJx4a65c_fastRemove_b59b0_23 rfl rfl ?_
    refine sm_iconst (v := 1) cx dJx4a65c_fastRemove_b59b0_24 (by decide) ?_
    refine sm_iadd cx dJx4a65c_fastRemove_b59b0_25 ?_
    refine sm_aload_n cx 2 dJx4a65c_fastRemove_b59b0_26 rfl rfl ?_
    refine sm_iload_n cx 3 dJx4a65c_fastRemove_b59b0_27 rfl rfl ?_
    refine sm_iload_n cx 0 dJx4a65c_fastRemove_b59b0_28 rfl rfl ?_
    refine sm_iload_n cx 3 dJx4a65c_fastRemove_b59b0_29 rfl rfl ?_
    refine sm_isub cx dJx4a65c_fastRemove_b59b0_30 ?_
    refine sm_cpR cx wd_5_239 wd_2_46 wd_2_45 wd_1_15 (Nat.le_trans (by decide) hfr) (cat_le _ (Nat.le_of_ble_eq_true rfl)) (Nat.le_trans (by decide) hlo) dJx4a65c_fastRemove_b59b0_31 ?_
    exact sm_lv [1, 2, 0] rfl (s_Jx4a65c_fastRemove_b59b0_34 cx hfr hlo hr r0 r1 (v11 - (1 : Int32)))
set_option maxRecDepth 100000 in
set_option maxHeartbeats 4000000 in
theorem ct_Jx4a65c_fastRemove_b59b0 (Z : Nat → Nat) {r0 : Option Nat} (a0 : Nat) (h0 : r0 = some a0) (r1 : Option Nat) (x2 : Int32) : Ct yJx4a65c_fastRemove_b59b0 cJx4a65c_fastRemove_b59b0 4 none 1 39 Z [.ref a0, va_rf r1, .int x2] vV (f_Jx4a65c_fastRemove_b59b0 r0 r1 x2) := by
  subst h0
  refine ct_of (lv0 := [(0, va_rf (some a0)), (1, va_rf r1), (2, .int x2)]) (by decide +kernel) (by simp [lg_sl, ct_i, ct_l, ct_r, rf_cat]) (by show _ = ([(0, Value.ref a0), (1, va_rf r1), (2, .int x2)] : List (Nat × Value)); simp [lv_args, ct_i, ct_l, ct_r, rf_cat]) (fun X cx hZ hfr hlo hr hin => ?_)
  subst hZ
  exact s_Jx4a65c_fastRemove_b59b0 cx (Nat.le_of_eq hfr.symm) (Nat.le_of_eq hlo.symm) hr (some a0) r1 x2
/-! java/util/ArrayList.remove(I)Ljava/lang/Object; -/
theorem dJx4a65c_remove_915e3_0 : decode cJx4a65c_remove_915e3 0 = .ok (.iload_n 1, 1) := by decide +kernel
theorem dJx4a65c_remove_915e3_1 : decode cJx4a65c_remove_915e3 1 = .ok (.aload_n 0, 1) := by decide +kernel
theorem dJx4a65c_remove_915e3_2 : decode cJx4a65c_remove_915e3 2 = .ok (.getfield 48, 3) := by decide +kernel
theorem dJx4a65c_remove_915e3_5 : decode cJx4a65c_remove_915e3 5 = .ok (.invokestatic 118, 3) := by decide +kernel
theorem dJx4a65c_remove_915e3_8 : decode cJx4a65c_remove_915e3 8 = .ok (.pop, 1) := by decide +kernel
theorem dJx4a65c_remove_915e3_9 : decode cJx4a65c_remove_915e3 9 = .ok (.aload_n 0, 1) := by decide +kernel
theorem dJx4a65c_remove_915e3_10 : decode cJx4a65c_remove_915e3 10 = .ok (.getfield 9, 3) := by decide +kernel
theorem dJx4a65c_remove_915e3_13 : decode cJx4a65c_remove_915e3 13 = .ok (.astore_n 2, 1) := by decide +kernel
theorem dJx4a65c_remove_915e3_14 : decode cJx4a65c_remove_915e3 14 = .ok (.aload_n 2, 1) := by decide +kernel
theorem dJx4a65c_remove_915e3_15 : decode cJx4a65c_remove_915e3 15 = .ok (.iload_n 1, 1) := by decide +kernel
theorem dJx4a65c_remove_915e3_16 : decode cJx4a65c_remove_915e3 16 = .ok (.aaload, 1) := by decide +kernel
theorem dJx4a65c_remove_915e3_17 : decode cJx4a65c_remove_915e3 17 = .ok (.astore_n 3, 1) := by decide +kernel
theorem dJx4a65c_remove_915e3_18 : decode cJx4a65c_remove_915e3 18 = .ok (.aload_n 0, 1) := by decide +kernel
theorem dJx4a65c_remove_915e3_19 : decode cJx4a65c_remove_915e3 19 = .ok (.aload_n 2, 1) := by decide +kernel
theorem dJx4a65c_remove_915e3_20 : decode cJx4a65c_remove_915e3 20 = .ok (.iload_n 1, 1) := by decide +kernel
theorem dJx4a65c_remove_915e3_21 : decode cJx4a65c_remove_915e3 21 = .ok (.invokevirtual 144, 3) := by decide +kernel
theorem dJx4a65c_remove_915e3_24 : decode cJx4a65c_remove_915e3 24 = .ok (.aload_n 3, 1) := by decide +kernel
theorem dJx4a65c_remove_915e3_25 : decode cJx4a65c_remove_915e3 25 = .ok (.areturn, 1) := by decide +kernel
def f_Jx4a65c_remove_915e3 (r0 : Option Nat) (x1 : Int32) : Mo (Option Nat) := mb (gI 2 2 r0) (fun v2 => mb (f_J15_checkIndex_7cf53 x1 v2) (fun v5 => mb (gR 2 1 r0) (fun v10 => mb (aR v10 x1) (fun v16 => mb (mo 2 r0 (f_Jx4a65c_fastRemove_b59b0 r0 v10 x1)) (fun _ => mp v16)))))
set_option maxRecDepth 100000 in
set_option maxHeartbeats 4000000 in
theorem s_Jx4a65c_remove_915e3 {X : Cg} (cx : Cx X cJx4a65c_remove_915e3 RJx4a65c 4) (hfr : 2 ≤ (xR X).frames) (hlo : 62 ≤ (xR X).locals) (hr : (xM X).sig.returnType = (some (.object "java/lang/Object"))) (r0 : Option Nat) (x1 : Int32) : Sim X 4 (FiM X vR) 0 [(0, va_rf r0), (1, .int x1)] [] (f_Jx4a65c_remove_915e3 r0 x1) := by
  unfold f_Jx4a65c_remove_915e3
  refine sm_iload_n cx 1 dJx4a65c_remove_915e3_0 rfl rfl ?_
  refine sm_aload_n cx 0 dJx4a65c_remove_915e3_1 rfl rfl ?_
  refine sm_getI cx fl_Jx4a65c_48 dJx4a65c_remove_915e3_2 (fun v2 => ?_)
  refine sm_callS (toV := vI) cx [.int x1, .int v2] cs_Jx4a65c_118 (ct_J15_checkIndex_7cf53 (xZ X) x1 v2) (Nat.le_trans (by decide) hfr) (Nat.le_trans (by decide) hlo) rfl (cat_le _ (Nat.le_of_ble_eq_true rfl)) dJx4a65c_remove_915e3_5 (fun v5 => ?_)
  refine sm_pop cx dJx4a65c_remove_915e3_8 rfl ?_
  refine sm_aload_n cx 0 dJx4a65c_remove_915e3_9 rfl rfl ?_
  refine sm_getR cx fl_Jx4a65c_9 dJx4a65c_remove_915e3_10 (fun v10 => ?_)
  refine sm_astore_n cx [(2, va_rf v10), (0, va_rf r0), (1, .int x1)] dJx4a65c_remove_915e3_13 rfl (by decide) rfl (nc1 rfl) rfl ?_
  refine sm_aload_n cx 0 dJx4a65c_remove_915e3_14 rfl rfl ?_
  refine sm_iload_n cx 2 dJx4a65c_remove_915e3_15 rfl rfl ?_
  refine sm_aald cx dJx4a65c_remove_915e3_16 (fun v16 => ?_)
  refine sm_astore_n cx [(3, va_rf v16), (2, va_rf v10), (0, va_rf r0), (1, .int x1)] dJx4a65c_remove_915e3_17 rfl (by decide) rfl (nc1 (rf_cat _)) rfl ?_
  refine sm_aload_n cx 2 dJx4a65c_remove_915e3_18 rfl rfl ?_
  refine sm_aload_n cx 1 dJx4a65c_remove_915e3_19 rfl rfl ?_
  refine sm_iload_n cx 3 dJx4a65c_remove_915e3_20 rfl rfl ?_
  refine sm_callV (T := TJx4a65c) (N := 3) (toV := vV) cx [va_rf v10, .int x1] rfl cv_Jx4a65c_144 (fun a h => ct_Jx4a65c_fastRemove_b59b0 (xZ X) a h v10 x1) (Nat.le_trans (by decide) hfr) (Nat.le_trans (by decide) hlo) rfl (cat_le _ (Nat.le_of_ble_eq_true rfl)) dJx4a65c_remove_915e3_21 (fun _ => ?_)
  refine sm_aload_n cx 0 dJx4a65c_remove_915e3_24 rfl rfl ?_
  exact sm_aret cx hr (Or.inl ⟨_, rfl⟩) dJx4a65c_remove_915e3_25
set_option maxRecDepth 100000 in
set_option maxHeartbeats 4000000 in
theorem ct_Jx4a65c_remove_915e3 (Z : Nat → Nat) {r0 : Option Nat} (a0 : Nat) (h0 : r0 = some a0) (x1 : Int32) : Ct yJx4a65c_remove_915e3 cJx4a65c_remove_915e3 4 (some (.object "java/lang/Object")) 2 62 Z [.ref a0, .int x1] vR (f_Jx4a65c_remove_915e3 r0 x1) := by
  subst h0
  refine ct_of (lv0 := [(0, va_rf (some a0)), (1, .int x1)]) (by decide +kernel) (by simp [lg_sl, ct_i, ct_l, ct_r, rf_cat]) (by show _ = ([(0, Value.ref a0), (1, .int x1)] : List (Nat × Value)); simp [lv_args, ct_i, ct_l, ct_r, rf_cat]) (fun X cx hZ hfr hlo hr hin => ?_)
  subst hZ
  exact s_Jx4a65c_remove_915e3 cx (Nat.le_of_eq hfr.symm) (Nat.le_of_eq hlo.symm) hr (some a0) x1
/-! java/util/ArrayList.clear()V -/
theorem dJx4a65c_clear_da8c8_0 : decode cJx4a65c_clear_da8c8 0 = .ok (.aload_n 0, 1) := by decide +kernel
theorem dJx4a65c_clear_da8c8_1 : decode cJx4a65c_clear_da8c8 1 = .ok (.dup, 1) := by decide +kernel
theorem dJx4a65c_clear_da8c8_2 : decode cJx4a65c_clear_da8c8 2 = .ok (.getfield 63, 3) := by decide +kernel
theorem dJx4a65c_clear_da8c8_5 : decode cJx4a65c_clear_da8c8 5 = .ok (.iconst 1, 1) := by decide +kernel
theorem dJx4a65c_clear_da8c8_6 : decode cJx4a65c_clear_da8c8 6 = .ok (.iadd, 1) := by decide +kernel
theorem dJx4a65c_clear_da8c8_7 : decode cJx4a65c_clear_da8c8 7 = .ok (.putfield 63, 3) := by decide +kernel
theorem dJx4a65c_clear_da8c8_10 : decode cJx4a65c_clear_da8c8 10 = .ok (.aload_n 0, 1) := by decide +kernel
theorem dJx4a65c_clear_da8c8_11 : decode cJx4a65c_clear_da8c8 11 = .ok (.getfield 9, 3) := by decide +kernel
theorem dJx4a65c_clear_da8c8_14 : decode cJx4a65c_clear_da8c8 14 = .ok (.astore_n 1, 1) := by decide +kernel
theorem dJx4a65c_clear_da8c8_15 : decode cJx4a65c_clear_da8c8 15 = .ok (.aload_n 0, 1) := by decide +kernel
theorem dJx4a65c_clear_da8c8_16 : decode cJx4a65c_clear_da8c8 16 = .ok (.getfield 48, 3) := by decide +kernel
theorem dJx4a65c_clear_da8c8_19 : decode cJx4a65c_clear_da8c8 19 = .ok (.istore_n 2, 1) := by decide +kernel
theorem dJx4a65c_clear_da8c8_20 : decode cJx4a65c_clear_da8c8 20 = .ok (.aload_n 0, 1) := by decide +kernel
theorem dJx4a65c_clear_da8c8_21 : decode cJx4a65c_clear_da8c8 21 = .ok (.iconst 0, 1) := by decide +kernel
theorem dJx4a65c_clear_da8c8_22 : decode cJx4a65c_clear_da8c8 22 = .ok (.dup_x1, 1) := by decide +kernel
theorem dJx4a65c_clear_da8c8_23 : decode cJx4a65c_clear_da8c8 23 = .ok (.putfield 48, 3) := by decide +kernel
theorem dJx4a65c_clear_da8c8_26 : decode cJx4a65c_clear_da8c8 26 = .ok (.istore_n 3, 1) := by decide +kernel
theorem dJx4a65c_clear_da8c8_27 : decode cJx4a65c_clear_da8c8 27 = .ok (.iload_n 3, 1) := by decide +kernel
theorem dJx4a65c_clear_da8c8_28 : decode cJx4a65c_clear_da8c8 28 = .ok (.iload_n 2, 1) := by decide +kernel
theorem dJx4a65c_clear_da8c8_29 : decode cJx4a65c_clear_da8c8 29 = .ok (.if_icmp .ge 13, 3) := by decide +kernel
theorem dJx4a65c_clear_da8c8_32 : decode cJx4a65c_clear_da8c8 32 = .ok (.aload_n 1, 1) := by decide +kernel
theorem dJx4a65c_clear_da8c8_33 : decode cJx4a65c_clear_da8c8 33 = .ok (.iload_n 3, 1) := by decide +kernel
theorem dJx4a65c_clear_da8c8_34 : decode cJx4a65c_clear_da8c8 34 = .ok (.aconst_null, 1) := by decide +kernel
theorem dJx4a65c_clear_da8c8_35 : decode cJx4a65c_clear_da8c8 35 = .ok (.aastore, 1) := by decide +kernel
theorem dJx4a65c_clear_da8c8_36 : decode cJx4a65c_clear_da8c8 36 = .ok (.iinc 3 1, 3) := by decide +kernel
theorem dJx4a65c_clear_da8c8_39 : decode cJx4a65c_clear_da8c8 39 = .ok (.goto (-12), 3) := by decide +kernel
theorem dJx4a65c_clear_da8c8_42 : decode cJx4a65c_clear_da8c8 42 = .ok (.return_, 1) := by decide +kernel
def f_Jx4a65c_clear_da8c8_27 (r1 : Option Nat) (x2 : Int32) : Nat → Int32 → Mo Unit
  | 0, _ => mf
  | n + 1, x3 => (if x2 ≤ x3 then mp () else mb (sR r1 x3 none) (fun _ => (f_Jx4a65c_clear_da8c8_27 r1 x2 n) (x3 + 1)))
set_option maxRecDepth 100000 in
set_option maxHeartbeats 4000000 in
theorem s_Jx4a65c_clear_da8c8_27 {X : Cg} (cx : Cx X cJx4a65c_clear_da8c8 RJx4a65c 4) (hfr : 0 ≤ (xR X).frames) (hlo : 0 ≤ (xR X).locals) (hr : (xM X).sig.returnType = none) (r1 : Option Nat) (x2 : Int32) : ∀ (n : Nat) (x3 : Int32), Sim X 4 (FiM X vV) 27 [(1, va_rf r1), (2, .int x2), (3, .int x3)] [] (f_Jx4a65c_clear_da8c8_27 r1 x2 n x3) := by
  intro n
  induction n with
  | zero =>
    intro _
    exact sm_mf
  | succ n ih =>
    intro x3
    rw [f_Jx4a65c_clear_da8c8_27]
    refine sm_iload_n cx 2 dJx4a65c_clear_da8c8_27 rfl rfl ?_
    refine sm_iload_n cx 1 dJx4a65c_clear_da8c8_28 rfl rfl ?_
    refine sm_icmp_ge (tgt := 42) cx dJx4a65c_clear_da8c8_29 (by decide) ?_ ?_
    · exact sm_vret cx hr dJx4a65c_clear_da8c8_42
    · refine sm_aload_n cx 0 dJx4a65c_clear_da8c8_32 rfl rfl ?_
      refine sm_iload_n cx 2 dJx4a65c_clear_da8c8_33 rfl rfl ?_
      refine sm_null cx dJx4a65c_clear_da8c8_34 ?_
      refine sm_aast cx dJx4a65c_clear_da8c8_35 ?_
      refine sm_iinc cx 2 [(3, .int (x3 + 1)), (1, va_rf r1), (2, .int x2)] dJx4a65c_clear_da8c8_36 rfl rfl (by decide) rfl (nc1 rfl) rfl ?_
      refine sm_goto (tgt := 27) cx dJx4a65c_clear_da8c8_39 (by decide) ?_
      exact sm_lv [1, 2, 0] rfl (ih (x3 + 1))
def f_Jx4a65c_clear_da8c8 (r0 : Option Nat) : Mo Unit := mb (gI 2 0 r0) (fun v2 => mb (pV 2 0 r0 (.int (v2 + (1 : Int32)))) (fun _ => mb (gR 2 1 r0) (fun v11 => mb (gI 2 2 r0) (fun v16 => mb (pV 2 2 r0 (.int (0 : Int32))) (fun _ => f_Jx4a65c_clear_da8c8_27 v11 v16 fuL (0 : Int32))))))
set_option maxRecDepth 100000 in
set_option maxHeartbeats 4000000 in
theorem s_Jx4a65c_clear_da8c8 {X : Cg} (cx : Cx X cJx4a65c_clear_da8c8 RJx4a65c 4) (hfr : 0 ≤ (xR X).frames) (hlo : 0 ≤ (xR X).locals) (hr : (xM X).sig.returnType = none) (r0 : Option Nat) : Sim X 4 (FiM X vV) 0 [(0, va_rf r0)] [] (f_Jx4a65c_clear_da8c8 r0) := by
  unfold f_Jx4a65c_clear_da8c8
  refine sm_aload_n cx 0 dJx4a65c_clear_da8c8_0 rfl rfl ?_
  refine sm_dup cx dJx4a65c_clear_da8c8_1 (rf_cat _) ?_
  refine sm_getI cx fl_Jx4a65c_63 dJx4a65c_clear_da8c8_2 (fun v2 => ?_)
  refine sm_iconst (v := 1) cx dJx4a65c_clear_da8c8_5 (by decide) ?_
  refine sm_iadd cx dJx4a65c_clear_da8c8_6 ?_
  refine sm_putV cx fl_Jx4a65c_63 rfl rfl dJx4a65c_clear_da8c8_7 ?_
  refine sm_aload_n cx 0 dJx4a65c_clear_da8c8_10 rfl rfl ?_
  refine sm_getR cx fl_Jx4a65c_9 dJx4a65c_clear_da8c8_11 (fun v11 => ?_)
  refine sm_astore_n cx [(1, va_rf v11), (0, va_rf r0)] dJx4a65c_clear_da8c8_14 rfl (by decide) rfl (nc1 (rf_cat _)) rfl ?_
  refine sm_aload_n cx 1 dJx4a65c_clear_da8c8_15 rfl rfl ?_
  refine sm_getI cx fl_Jx4a65c_48 dJx4a65c_clear_da8c8_16 (fun v16 => ?_)
  refine sm_istore_n cx [(2, .int v16), (1, va_rf v11), (0, va_rf r0)] dJx4a65c_clear_da8c8_19 rfl (by decide) rfl (nc1 (rf_cat _)) rfl ?_
  refine sm_aload_n cx 2 dJx4a65c_clear_da8c8_20 rfl rfl ?_
  refine sm_iconst (v := 0) cx dJx4a65c_clear_da8c8_21 (by decide) ?_
  refine sm_dupx1 cx dJx4a65c_clear_da8c8_22 rfl (rf_cat _) ?_
  refine sm_putV cx fl_Jx4a65c_48 rfl rfl dJx4a65c_clear_da8c8_23 ?_
  refine sm_istore_n cx [(3, .int (0 : Int32)), (2, .int v16), (1, va_rf v11), (0, va_rf r0)] dJx4a65c_clear_da8c8_26 rfl (by decide) rfl (nc1 rfl) rfl ?_
  exact sm_lv [2, 1, 0] rfl (s_Jx4a65c_clear_da8c8_27 cx hfr hlo hr v11 v16 fuL (0 : Int32))
set_option maxRecDepth 100000 in
set_option maxHeartbeats 4000000 in
theorem ct_Jx4a65c_clear_da8c8 (Z : Nat → Nat) {r0 : Option Nat} (a0 : Nat) (h0 : r0 = some a0) : Ct yJx4a65c_clear_da8c8 cJx4a65c_clear_da8c8 4 none 0 0 Z [.ref a0] vV (f_Jx4a65c_clear_da8c8 r0) := by
  subst h0
  refine ct_of (lv0 := [(0, va_rf (some a0))]) (by decide +kernel) (by simp [lg_sl, ct_i, ct_l, ct_r, rf_cat]) (by show _ = ([(0, Value.ref a0)] : List (Nat × Value)); simp [lv_args, ct_i, ct_l, ct_r, rf_cat]) (fun X cx hZ hfr hlo hr hin => ?_)
  subst hZ
  exact s_Jx4a65c_clear_da8c8 cx (Nat.le_of_eq hfr.symm) (Nat.le_of_eq hlo.symm) hr (some a0)
