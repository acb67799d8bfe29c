theorem fl_X11_103 : FldOk RX11 103 9 2 .boolean false false := ⟨RX6, TX6, 4, "PolicyTree$Node", tyX6, rfl, by decide, inT_X6, tyX6_ok, nmX6, wd_1_211, Or.inl rfl, tyX6_ok 2 (by decide), rfl, fun h => nomatch h⟩
theorem cs_X11_92 : CalS RX11 92 yX11_needNumber cX11_needNumber 2 none 2 := ⟨wd_S wd_2_176 wd_2_177 wd_1_1 wd_2_178, by decide +kernel, by decide +kernel, by decide +kernel⟩
theorem cs_X11_96 : CalS RX11 96 yX11_needRoom cX11_needRoom 2 none 2 := ⟨wd_S wd_3_6 wd_3_7 wd_1_1 wd_3_8, by decide +kernel, by decide +kernel, by decide +kernel⟩
theorem cv_X11_117 : CalV RX11 117 RX11 yX11_countMoved cX11_countMoved 9 (some .int) 3 := ⟨wd_V wd_3_44 wd_3_46 wp_1_7 wd_1_1 wd_3_47, rfl, by decide +kernel, by decide +kernel, by decide +kernel⟩
theorem nw_X11_111 : NewOk RX11 111 8 [.null, .int 0, .int 0] := ⟨RX5, TX5, tyX5, rfl, inT_X5, tyX5_ok, wd_3_43, wd_3_171, wd_1_24, fun j hj => by
  match j, hj with
  | 0, _ => rfl
  | 1, _ => rfl
  | 2, _ => rfl
  | j + 3, hj => exact absurd hj (by simp only [List.length_cons, List.length_nil]; omega)⟩
theorem ci_X11_124 : CalI RX11 124 yX5_init cX5_init 2 1 := ⟨⟨wd_1_24, wd_3_173, wd_3_174⟩, Or.inl wd_3_172, rfl, by decide +kernel, by decide +kernel, by decide +kernel⟩
theorem cs_X11_127 : CalS RX11 127 yX11_needChoice cX11_needChoice 2 none 2 := ⟨wd_S wd_3_196 wd_3_197 wd_1_1 wd_3_198, by decide +kernel, by decide +kernel, by decide +kernel⟩
theorem cv_X11_137 : CalV RX11 137 RX5 yX5_factNow cX5_factNow 2 (some .int) 1 := ⟨wd_V wd_3_216 wd_3_217 wd_3_218 wd_1_24 wd_3_219, rfl, by decide +kernel, by decide +kernel, by decide +kernel⟩
theorem cv_X11_141 : CalV RX11 141 RX5 yX5_learn cX5_learn 4 none 2 := ⟨wd_V wd_3_220 wd_3_221 wd_3_222 wd_1_24 wd_3_223, rfl, by decide +kernel, by decide +kernel, by decide +kernel⟩
theorem cv_X11_145 : CalV RX11 145 RX3 yX3_add cX3_add 1 (some .int) 0 := ⟨wd_V wd_3_231 wd_3_232 wd_3_233 wd_1_5 wd_3_234, rfl, by decide +kernel, by decide +kernel, by decide +kernel⟩
theorem cv_X11_147 : CalV RX11 147 RX3 yX3_putMachine cX3_putMachine 7 (some .boolean) 3 := ⟨wd_V wd_4_2 wd_4_3 wd_4_4 wd_1_5 wd_4_5, rfl, by decide +kernel, by decide +kernel, by decide +kernel⟩
theorem cv_X11_151 : CalV RX11 151 RX3 yX3_putGroup cX3_putGroup 6 (some .boolean) 3 := ⟨wd_V wd_4_14 wd_4_15 wd_4_16 wd_1_5 wd_4_17, rfl, by decide +kernel, by decide +kernel, by decide +kernel⟩
theorem nw_X11_157 : NewOk RX11 157 3 [.null, .int 0] := ⟨RX0, TX0, tyX0, rfl, inT_X0, tyX0_ok, wd_4_32, wd_4_33, wd_1_26, fun j hj => by
  match j, hj with
  | 0, _ => rfl
  | 1, _ => rfl
  | j + 2, hj => exact absurd hj (by simp only [List.length_cons, List.length_nil]; omega)⟩
theorem ci_X11_159 : CalI RX11 159 yX0_init cX0_init 1 0 := ⟨⟨wd_1_26, wd_4_35, wd_4_36⟩, Or.inr ⟨"PolicyTree", List.mem_of_getElem? (i := 5) rfl⟩, rfl, by decide +kernel, by decide +kernel, by decide +kernel⟩
theorem cv_X11_160 : CalV RX11 160 RX0 yX0_put cX0_put 3 (some .boolean) 2 := ⟨wd_V wd_4_52 wd_4_53 wd_4_54 wd_1_26 wd_4_55, rfl, by decide +kernel, by decide +kernel, by decide +kernel⟩
theorem cv_X11_164 : CalV RX11 164 RX0 yX0_drop cX0_drop 3 (some .boolean) 1 := ⟨wd_V wd_4_64 wd_4_65 wd_4_66 wd_1_26 wd_4_67, rfl, by decide +kernel, by decide +kernel, by decide +kernel⟩
/-! PolicyTree.needNumber(II)V -/
theorem dX11_needNumber_0 : decode cX11_needNumber 0 = .ok (.iload_n 0, 1) := by decide +kernel
theorem dX11_needNumber_1 : decode cX11_needNumber 1 = .ok (.ifCond .lt 8, 3) := by decide +kernel
theorem dX11_needNumber_4 : decode cX11_needNumber 4 = .ok (.iload_n 0, 1) := by decide +kernel
theorem dX11_needNumber_5 : decode cX11_needNumber 5 = .ok (.iload_n 1, 1) := by decide +kernel
theorem dX11_needNumber_6 : decode cX11_needNumber 6 = .ok (.if_icmp .lt 14, 3) := by decide +kernel
theorem dX11_needNumber_9 : decode cX11_needNumber 9 = .ok (.new 255, 3) := by decide +kernel
theorem dX11_needNumber_12 : decode cX11_needNumber 12 = .ok (.dup, 1) := by decide +kernel
theorem dX11_needNumber_13 : decode cX11_needNumber 13 = .ok (.ldc_w 257, 3) := by decide +kernel
theorem dX11_needNumber_16 : decode cX11_needNumber 16 = .ok (.invokespecial 259, 3) := by decide +kernel
theorem dX11_needNumber_19 : decode cX11_needNumber 19 = .ok (.athrow, 1) := by decide +kernel
theorem dX11_needNumber_20 : decode cX11_needNumber 20 = .ok (.return_, 1) := by decide +kernel
def f_X11_needNumber_9 : Mo (Unit ⊕ String) := mt eI
set_option maxRecDepth 100000 in
set_option maxHeartbeats 4000000 in
theorem s_X11_needNumber_9 {X : Cg} (cx : Cx X cX11_needNumber RX11 2) (hfr : 6 ≤ (xR X).frames) (hlo : 90 ≤ (xR X).locals) (hr : (xM X).sig.returnType = none) (hth : (xL X).stackTraces = false ∧ (∀ x ∈ (xC X).exceptionTable.toList, False)) : Sim X 2 (FiX X vV) 9 [] [] (f_X11_needNumber_9) := by
  unfold f_X11_needNumber_9
  exact sm_thrW cx hth ("PolicyTree", 257, "none has this number", 30) (List.mem_of_getElem? (i := 12) rfl) rfl rfl (by decide +kernel) wd_2_179 wd_1_20 ex_gI ex_bI bw_I bt_I ex_oI dX11_needNumber_9 dX11_needNumber_12 dX11_needNumber_13 dX11_needNumber_16 dX11_needNumber_19 (Nat.le_trans (by decide) hfr) (Nat.le_trans (by decide) hlo) (cat_le _ (Nat.le_of_ble_eq_true rfl))
def f_X11_needNumber (x0 : Int32) (x1 : Int32) : Mo (Unit ⊕ String) := (if x0 < 0 then f_X11_needNumber_9 else (if x0 < x1 then mp (.inl ()) else f_X11_needNumber_9))
set_option maxRecDepth 100000 in
set_option maxHeartbeats 4000000 in
theorem s_X11_needNumber {X : Cg} (cx : Cx X cX11_needNumber RX11 2) (hfr : 6 ≤ (xR X).frames) (hlo : 90 ≤ (xR X).locals) (hr : (xM X).sig.returnType = none) (hth : (xL X).stackTraces = false ∧ (∀ x ∈ (xC X).exceptionTable.toList, False)) (x0 : Int32) (x1 : Int32) : Sim X 2 (FiX X vV) 0 [(0, .int x0), (1, .int x1)] [] (f_X11_needNumber x0 x1) := by
  unfold f_X11_needNumber
  refine sm_iload_n cx 0 dX11_needNumber_0 rfl rfl ?_
  refine sm_if_lt (tgt := 9) cx dX11_needNumber_1 (by decide) ?_ ?_
  · exact sm_lv [] rfl (s_X11_needNumber_9 cx hfr hlo hr hth)
  · refine sm_iload_n cx 0 dX11_needNumber_4 rfl rfl ?_
    refine sm_iload_n cx 1 dX11_needNumber_5 rfl rfl ?_
    refine sm_icmp_lt (tgt := 20) cx dX11_needNumber_6 (by decide) ?_ ?_
    · exact sx_vret cx hr dX11_needNumber_20
    · exact sm_lv [] rfl (s_X11_needNumber_9 cx hfr hlo hr hth)
set_option maxRecDepth 100000 in
set_option maxHeartbeats 4000000 in
theorem ct_X11_needNumber (Z : Nat → Nat) (x0 : Int32) (x1 : Int32) : CtX yX11_needNumber cX11_needNumber 2 none 6 90 Z [.int x0, .int x1] vV (f_X11_needNumber x0 x1) := by
  refine ctx_of (lv0 := [(0, .int x0), (1, .int x1)]) (by decide +kernel) (by simp [lg_sl, ct_i, ct_l, ct_r, rf_cat]) (by show _ = ([(0, .int x0), (1, .int x1)] : List (Nat × Value)); simp [lv_args, ct_i, ct_l, ct_r, rf_cat]) (fun X cx hZ hfr hlo hr hth => ?_)
  subst hZ
  exact s_X11_needNumber cx (Nat.le_of_eq hfr.symm) (Nat.le_of_eq hlo.symm) hr hth x0 x1
/-! PolicyTree.needChoice(II)V -/
theorem dX11_needChoice_0 : decode cX11_needChoice 0 = .ok (.iload_n 0, 1) := by decide +kernel
theorem dX11_needChoice_1 : decode cX11_needChoice 1 = .ok (.ifCond .lt 8, 3) := by decide +kernel
theorem dX11_needChoice_4 : decode cX11_needChoice 4 = .ok (.iload_n 0, 1) := by decide +kernel
theorem dX11_needChoice_5 : decode cX11_needChoice 5 = .ok (.iload_n 1, 1) := by decide +kernel
theorem dX11_needChoice_6 : decode cX11_needChoice 6 = .ok (.if_icmp .lt 14, 3) := by decide +kernel
theorem dX11_needChoice_9 : decode cX11_needChoice 9 = .ok (.new 130, 3) := by decide +kernel
theorem dX11_needChoice_12 : decode cX11_needChoice 12 = .ok (.dup, 1) := by decide +kernel
theorem dX11_needChoice_13 : decode cX11_needChoice 13 = .ok (.ldc_w 260, 3) := by decide +kernel
theorem dX11_needChoice_16 : decode cX11_needChoice 16 = .ok (.invokespecial 134, 3) := by decide +kernel
theorem dX11_needChoice_19 : decode cX11_needChoice 19 = .ok (.athrow, 1) := by decide +kernel
theorem dX11_needChoice_20 : decode cX11_needChoice 20 = .ok (.return_, 1) := by decide +kernel
def f_X11_needChoice_9 : Mo (Unit ⊕ String) := mt eA
set_option maxRecDepth 100000 in
set_option maxHeartbeats 4000000 in
theorem s_X11_needChoice_9 {X : Cg} (cx : Cx X cX11_needChoice RX11 2) (hfr : 6 ≤ (xR X).frames) (hlo : 90 ≤ (xR X).locals) (hr : (xM X).sig.returnType = none) (hth : (xL X).stackTraces = false ∧ (∀ x ∈ (xC X).exceptionTable.toList, False)) : Sim X 2 (FiX X vV) 9 [] [] (f_X11_needChoice_9) := by
  unfold f_X11_needChoice_9
  exact sm_thrW cx hth ("PolicyTree", 260, "no such choice", 32) (List.mem_of_getElem? (i := 14) rfl) rfl rfl (by decide +kernel) wd_3_199 wd_1_25 ex_gA ex_bA bw_A bt_A ex_oA dX11_needChoice_9 dX11_needChoice_12 dX11_needChoice_13 dX11_needChoice_16 dX11_needChoice_19 (Nat.le_trans (by decide) hfr) (Nat.le_trans (by decide) hlo) (cat_le _ (Nat.le_of_ble_eq_true rfl))
def f_X11_needChoice (x0 : Int32) (x1 : Int32) : Mo (Unit ⊕ String) := (if x0 < 0 then f_X11_needChoice_9 else (if x0 < x1 then mp (.inl ()) else f_X11_needChoice_9))
set_option maxRecDepth 100000 in
set_option maxHeartbeats 4000000 in
theorem s_X11_needChoice {X : Cg} (cx : Cx X cX11_needChoice RX11 2) (hfr : 6 ≤ (xR X).frames) (hlo : 90 ≤ (xR X).locals) (hr : (xM X).sig.returnType = none) (hth : (xL X).stackTraces = false ∧ (∀ x ∈ (xC X).exceptionTable.toList, False)) (x0 : Int32) (x1 : Int32) : Sim X 2 (FiX X vV) 0 [(0, .int x0), (1, .int x1)] [] (f_X11_needChoice x0 x1) := by
  unfold f_X11_needChoice
  refine sm_iload_n cx 0 dX11_needChoice_0 rfl rfl ?_
  refine sm_if_lt (tgt := 9) cx dX11_needChoice_1 (by decide) ?_ ?_
  · exact sm_lv [] rfl (s_X11_needChoice_9 cx hfr hlo hr hth)
  · refine sm_iload_n cx 0 dX11_needChoice_4 rfl rfl ?_
    refine sm_iload_n cx 1 dX11_needChoice_5 rfl rfl ?_
    refine sm_icmp_lt (tgt := 20) cx dX11_needChoice_6 (by decide) ?_ ?_
    · exact sx_vret cx hr dX11_needChoice_20
    · exact sm_lv [] rfl (s_X11_needChoice_9 cx hfr hlo hr hth)
set_option maxRecDepth 100000 in
set_option maxHeartbeats 4000000 in
theorem ct_X11_needChoice (Z : Nat → Nat) (x0 : Int32) (x1 : Int32) : CtX yX11_needChoice cX11_needChoice 2 none 6 90 Z [.int x0, .int x1] vV (f_X11_needChoice x0 x1) := by
  refine ctx_of (lv0 := [(0, .int x0), (1, .int x1)]) (by decide +kernel) (by simp [lg_sl, ct_i, ct_l, ct_r, rf_cat]) (by show _ = ([(0, .int x0), (1, .int x1)] : List (Nat × Value)); simp [lv_args, ct_i, ct_l, ct_r, rf_cat]) (fun X cx hZ hfr hlo hr hth => ?_)
  subst hZ
  exact s_X11_needChoice cx (Nat.le_of_eq hfr.symm) (Nat.le_of_eq hlo.symm) hr hth x0 x1
/-! PolicyTree.needRoom(II)V -/
theorem dX11_needRoom_0 : decode cX11_needRoom 0 = .ok (.iload_n 0, 1) := by decide +kernel
theorem dX11_needRoom_1 : decode cX11_needRoom 1 = .ok (.iload_n 1, 1) := by decide +kernel
theorem dX11_needRoom_2 : decode cX11_needRoom 2 = .ok (.if_icmp .lt 14, 3) := by decide +kernel
theorem dX11_needRoom_5 : decode cX11_needRoom 5 = .ok (.new 262, 3) := by decide +kernel
theorem dX11_needRoom_8 : decode cX11_needRoom 8 = .ok (.dup, 1) := by decide +kernel
theorem dX11_needRoom_9 : decode cX11_needRoom 9 = .ok (.ldc_w 264, 3) := by decide +kernel
theorem dX11_needRoom_12 : decode cX11_needRoom 12 = .ok (.invokespecial 266, 3) := by decide +kernel
theorem dX11_needRoom_15 : decode cX11_needRoom 15 = .ok (.athrow, 1) := by decide +kernel
theorem dX11_needRoom_16 : decode cX11_needRoom 16 = .ok (.return_, 1) := by decide +kernel
def f_X11_needRoom (x0 : Int32) (x1 : Int32) : Mo (Unit ⊕ String) := (if x0 < x1 then mp (.inl ()) else mt eS)
set_option maxRecDepth 100000 in
set_option maxHeartbeats 4000000 in
theorem s_X11_needRoom {X : Cg} (cx : Cx X cX11_needRoom RX11 2) (hfr : 6 ≤ (xR X).frames) (hlo : 90 ≤ (xR X).locals) (hr : (xM X).sig.returnType = none) (hth : (xL X).stackTraces = false ∧ (∀ x ∈ (xC X).exceptionTable.toList, False)) (x0 : Int32) (x1 : Int32) : Sim X 2 (FiX X vV) 0 [(0, .int x0), (1, .int x1)] [] (f_X11_needRoom x0 x1) := by
  unfold f_X11_needRoom
  refine sm_iload_n cx 0 dX11_needRoom_0 rfl rfl ?_
  refine sm_iload_n cx 1 dX11_needRoom_1 rfl rfl ?_
  refine sm_icmp_lt (tgt := 16) cx dX11_needRoom_2 (by decide) ?_ ?_
  · exact sx_vret cx hr dX11_needRoom_16
  · exact sm_thrW cx hth ("PolicyTree", 264, "there are as many as may be", 31) (List.mem_of_getElem? (i := 13) rfl) rfl rfl (by decide +kernel) wd_3_9 wd_1_21 ex_gS ex_bS bw_S bt_S ex_oS dX11_needRoom_5 dX11_needRoom_8 dX11_needRoom_9 dX11_needRoom_12 dX11_needRoom_15 (Nat.le_trans (by decide) hfr) (Nat.le_trans (by decide) hlo) (cat_le _ (Nat.le_of_ble_eq_true rfl))
set_option maxRecDepth 100000 in
set_option maxHeartbeats 4000000 in
theorem ct_X11_needRoom (Z : Nat → Nat) (x0 : Int32) (x1 : Int32) : CtX yX11_needRoom cX11_needRoom 2 none 6 90 Z [.int x0, .int x1] vV (f_X11_needRoom x0 x1) := by
  refine ctx_of (lv0 := [(0, .int x0), (1, .int x1)]) (by decide +kernel) (by simp [lg_sl, ct_i, ct_l, ct_r, rf_cat]) (by show _ = ([(0, .int x0), (1, .int x1)] : List (Nat × Value)); simp [lv_args, ct_i, ct_l, ct_r, rf_cat]) (fun X cx hZ hfr hlo hr hth => ?_)
  subst hZ
  exact s_X11_needRoom cx (Nat.le_of_eq hfr.symm) (Nat.le_of_eq hlo.symm) hr hth x0 x1
/-! PolicyTree.node(I)I -/
theorem dX11_node_0 : decode cX11_node 0 = .ok (.iload_n 1, 1) := by decide +kernel
theorem dX11_node_1 : decode cX11_node 1 = .ok (.aload_n 0, 1) := by decide +kernel
theorem dX11_node_2 : decode cX11_node 2 = .ok (.getfield 10, 3) := by decide +kernel
theorem dX11_node_5 : decode cX11_node 5 = .ok (.invokevirtual 88, 3) := by decide +kernel
theorem dX11_node_8 : decode cX11_node 8 = .ok (.invokestatic 92, 3) := by decide +kernel
theorem dX11_node_11 : decode cX11_node 11 = .ok (.aload_n 0, 1) := by decide +kernel
theorem dX11_node_12 : decode cX11_node 12 = .ok (.getfield 10, 3) := by decide +kernel
theorem dX11_node_15 : decode cX11_node 15 = .ok (.invokevirtual 88, 3) := by decide +kernel
theorem dX11_node_18 : decode cX11_node 18 = .ok (.bipush 60, 2) := by decide +kernel
theorem dX11_node_20 : decode cX11_node 20 = .ok (.invokestatic 96, 3) := by decide +kernel
theorem dX11_node_23 : decode cX11_node 23 = .ok (.aload_n 0, 1) := by decide +kernel
theorem dX11_node_24 : decode cX11_node 24 = .ok (.getfield 10, 3) := by decide +kernel
theorem dX11_node_27 : decode cX11_node 27 = .ok (.new 79, 3) := by decide +kernel
theorem dX11_node_30 : decode cX11_node 30 = .ok (.dup, 1) := by decide +kernel
theorem dX11_node_31 : decode cX11_node 31 = .ok (.aload_n 0, 1) := by decide +kernel
theorem dX11_node_32 : decode cX11_node 32 = .ok (.getfield 10, 3) := by decide +kernel
theorem dX11_node_35 : decode cX11_node 35 = .ok (.invokevirtual 88, 3) := by decide +kernel
theorem dX11_node_38 : decode cX11_node 38 = .ok (.aload_n 0, 1) := by decide +kernel
theorem dX11_node_39 : decode cX11_node 39 = .ok (.getfield 10, 3) := by decide +kernel
theorem dX11_node_42 : decode cX11_node 42 = .ok (.iload_n 1, 1) := by decide +kernel
theorem dX11_node_43 : decode cX11_node 43 = .ok (.invokevirtual 99, 3) := by decide +kernel
theorem dX11_node_46 : decode cX11_node 46 = .ok (.checkcast 79, 3) := by decide +kernel
theorem dX11_node_49 : decode cX11_node 49 = .ok (.invokespecial 81, 3) := by decide +kernel
theorem dX11_node_52 : decode cX11_node 52 = .ok (.invokevirtual 84, 3) := by decide +kernel
theorem dX11_node_55 : decode cX11_node 55 = .ok (.pop, 1) := by decide +kernel
theorem dX11_node_56 : decode cX11_node 56 = .ok (.aload_n 0, 1) := by decide +kernel
theorem dX11_node_57 : decode cX11_node 57 = .ok (.getfield 10, 3) := by decide +kernel
theorem dX11_node_60 : decode cX11_node 60 = .ok (.invokevirtual 88, 3) := by decide +kernel
theorem dX11_node_63 : decode cX11_node 63 = .ok (.iconst 1, 1) := by decide +kernel
theorem dX11_node_64 : decode cX11_node 64 = .ok (.isub, 1) := by decide +kernel
theorem dX11_node_65 : decode cX11_node 65 = .ok (.ireturn, 1) := by decide +kernel
def f_X11_node (Z : Nat → Nat) (r0 : Option Nat) (x1 : Int32) : Mo (Int32 ⊕ String) := mb (gR 14 0 r0) (fun v2 => mb (mo 2 v2 (f_Jx4a65c_size_8abf5 v2)) (fun v5 => mx (f_X11_needNumber x1 v5) (fun _ => mb (gR 14 0 r0) (fun v12 => mb (mo 2 v12 (f_Jx4a65c_size_8abf5 v12)) (fun v15 => mx (f_X11_needRoom v15 (60 : Int32)) (fun _ => mb (gR 14 0 r0) (fun v24 => mb (nO 9 [.int 0, .null, .int 0, .null]) (fun v27 => mb (gR 14 0 r0) (fun v32 => mb (mo 2 v32 (f_Jx4a65c_size_8abf5 v32)) (fun v35 => mb (gR 14 0 r0) (fun v39 => mb (mo 2 v39 (f_Jx4a65c_get_915e3 v39 x1)) (fun v43 => mb (ck 9 v43) (fun _ => mb (mo 9 v27 (f_X6_init Z v27 v35 v43)) (fun _ => mb (mo 2 v24 (f_Jx4a65c_add_9ea2d Z v24 v27)) (fun v52 => mb (gR 14 0 r0) (fun v57 => mb (mo 2 v57 (f_Jx4a65c_size_8abf5 v57)) (fun v60 => mp (.inl (v60 - (1 : Int32))))))))))))))))))))
set_option maxRecDepth 100000 in
set_option maxHeartbeats 4000000 in
theorem s_X11_node {X : Cg} (cx : Cx X cX11_node RX11 2) (hfr : 7 ≤ (xR X).frames) (hlo : 170 ≤ (xR X).locals) (hr : (xM X).sig.returnType = (some .int)) (hth : (xL X).stackTraces = false ∧ (∀ x ∈ (xC X).exceptionTable.toList, False)) (r0 : Option Nat) (x1 : Int32) : Sim X 2 (FiX X vI) 0 [(0, va_rf r0), (1, .int x1)] [] (f_X11_node (xZ X) r0 x1) := by
  unfold f_X11_node
  refine sm_iload_n cx 1 dX11_node_0 rfl rfl ?_
  refine sm_aload_n cx 0 dX11_node_1 rfl rfl ?_
  refine sm_getR cx fl_X11_10 dX11_node_2 (fun v2 => ?_)
  refine sm_callV (T := TJx4a65c) (N := 3) (toV := vI) cx [] rfl cv_X11_88 (fun a h => ct_Jx4a65c_size_8abf5 (xZ X) a h) (Nat.le_trans (by decide) hfr) (Nat.le_trans (by decide) hlo) rfl (cat_le _ (Nat.le_of_ble_eq_true rfl)) dX11_node_5 (fun v5 => ?_)
  refine sm_callSX (toV := vV) cx hth [.int x1, .int v5] cs_X11_92 (ct_X11_needNumber (xZ X) x1 v5) (Nat.le_trans (by decide) hfr) (Nat.le_trans (by decide) hlo) rfl (cat_le _ (Nat.le_of_ble_eq_true rfl)) dX11_node_8 (fun _ => ?_)
  refine sm_aload_n cx 0 dX11_node_11 rfl rfl ?_
  refine sm_getR cx fl_X11_10 dX11_node_12 (fun v12 => ?_)
  refine sm_callV (T := TJx4a65c) (N := 3) (toV := vI) cx [] rfl cv_X11_88 (fun a h => ct_Jx4a65c_size_8abf5 (xZ X) a h) (Nat.le_trans (by decide) hfr) (Nat.le_trans (by decide) hlo) rfl (cat_le _ (Nat.le_of_ble_eq_true rfl)) dX11_node_15 (fun v15 => ?_)
  refine sm_bipush (v := 60) cx dX11_node_18 (by decide) ?_
  refine sm_callSX (toV := vV) cx hth [.int v15, .int (60 : Int32)] cs_X11_96 (ct_X11_needRoom (xZ X) v15 (60 : Int32)) (Nat.le_trans (by decide) hfr) (Nat.le_trans (by decide) hlo) rfl (cat_le _ (Nat.le_of_ble_eq_true rfl)) dX11_node_20 (fun _ => ?_)
  refine sm_aload_n cx 0 dX11_node_23 rfl rfl ?_
  refine sm_getR cx fl_X11_10 dX11_node_24 (fun v24 => ?_)
  refine sm_new cx nw_X11_79 dX11_node_27 (fun v27 => ?_)
  refine sm_dup cx dX11_node_30 (rf_cat _) ?_
  refine sm_aload_n cx 0 dX11_node_31 rfl rfl ?_
  refine sm_getR cx fl_X11_10 dX11_node_32 (fun v32 => ?_)
  refine sm_callV (T := TJx4a65c) (N := 3) (toV := vI) cx [] rfl cv_X11_88 (fun a h => ct_Jx4a65c_size_8abf5 (xZ X) a h) (Nat.le_trans (by decide) hfr) (Nat.le_trans (by decide) hlo) rfl (cat_le _ (Nat.le_of_ble_eq_true rfl)) dX11_node_35 (fun v35 => ?_)
  refine sm_aload_n cx 0 dX11_node_38 rfl rfl ?_
  refine sm_getR cx fl_X11_10 dX11_node_39 (fun v39 => ?_)
  refine sm_iload_n cx 1 dX11_node_42 rfl rfl ?_
  refine sm_callV (T := TJx4a65c) (N := 3) (toV := vR) cx [.int x1] rfl cv_X11_99 (fun a h => ct_Jx4a65c_get_915e3 (xZ X) a h x1) (Nat.le_trans (by decide) hfr) (Nat.le_trans (by decide) hlo) rfl (cat_le _ (Nat.le_of_ble_eq_true rfl)) dX11_node_43 (fun v43 => ?_)
  refine sm_ck (T := TX6) (N := 4) cx rfl wd_1_198 dX11_node_46 ?_
  refine sm_callI (ci := 9) (toV := vV) cx [.int v35, va_rf v43] ci_X11_81 (fun a h => ct_X6_init (xZ X) a h v35 v43) (Nat.le_trans (by decide) hfr) (Nat.le_trans (by decide) hlo) rfl (cat_le _ (Nat.le_of_ble_eq_true rfl)) dX11_node_49 (fun _ => ?_)
  refine sm_callV (T := TJx4a65c) (N := 3) (toV := vI) cx [va_rf v27] rfl cv_X11_84 (fun a h => ct_Jx4a65c_add_9ea2d (xZ X) a h v27) (Nat.le_trans (by decide) hfr) (Nat.le_trans (by decide) hlo) rfl (cat_le _ (Nat.le_of_ble_eq_true rfl)) dX11_node_52 (fun v52 => ?_)
  refine sm_pop cx dX11_node_55 rfl ?_
  refine sm_aload_n cx 0 dX11_node_56 rfl rfl ?_
  refine sm_getR cx fl_X11_10 dX11_node_57 (fun v57 => ?_)
  refine sm_callV (T := TJx4a65c) (N := 3) (toV := vI) cx [] rfl cv_X11_88 (fun a h => ct_Jx4a65c_size_8abf5 (xZ X) a h) (Nat.le_trans (by decide) hfr) (Nat.le_trans (by decide) hlo) rfl (cat_le _ (Nat.le_of_ble_eq_true rfl)) dX11_node_60 (fun v60 => ?_)
  refine sm_iconst (v := 1) cx dX11_node_63 (by decide) ?_
  refine sm_isub cx dX11_node_64 ?_
  exact sx_iret cx hr dX11_node_65
set_option maxRecDepth 100000 in
set_option maxHeartbeats 4000000 in
theorem ct_X11_node (Z : Nat → Nat) {r0 : Option Nat} (a0 : Nat) (h0 : r0 = some a0) (x1 : Int32) : CtX yX11_node cX11_node 2 (some .int) 7 170 Z [.ref a0, .int x1] vI (f_X11_node Z r0 x1) := by
  subst h0
  refine ctx_of (lv0 := [(0, va_rf (some a0)), (1, .int x1)]) (by decide +kernel) (by simp [lg_sl, ct_i, ct_l, ct_r, rf_cat]) (by show _ = ([(0, Value.ref a0), (1, .int x1)] : List (Nat × Value)); simp [lv_args, ct_i, ct_l, ct_r, rf_cat]) (fun X cx hZ hfr hlo hr hth => ?_)
  subst hZ
  exact s_X11_node cx (Nat.le_of_eq hfr.symm) (Nat.le_of_eq hlo.symm) hr hth (some a0) x1
/-! PolicyTree.block(IZ)Z -/
theorem dX11_block_0 : decode cX11_block 0 = .ok (.iload_n 1, 1) := by decide +kernel
theorem dX11_block_1 : decode cX11_block 1 = .ok (.aload_n 0, 1) := by decide +kernel
theorem dX11_block_2 : decode cX11_block 2 = .ok (.getfield 10, 3) := by decide +kernel
theorem dX11_block_5 : decode cX11_block 5 = .ok (.invokevirtual 88, 3) := by decide +kernel
theorem dX11_block_8 : decode cX11_block 8 = .ok (.invokestatic 92, 3) := by decide +kernel
theorem dX11_block_11 : decode cX11_block 11 = .ok (.aload_n 0, 1) := by decide +kernel
theorem dX11_block_12 : decode cX11_block 12 = .ok (.getfield 10, 3) := by decide +kernel
theorem dX11_block_15 : decode cX11_block 15 = .ok (.iload_n 1, 1) := by decide +kernel
theorem dX11_block_16 : decode cX11_block 16 = .ok (.invokevirtual 99, 3) := by decide +kernel
theorem dX11_block_19 : decode cX11_block 19 = .ok (.checkcast 79, 3) := by decide +kernel
theorem dX11_block_22 : decode cX11_block 22 = .ok (.astore_n 3, 1) := by decide +kernel
theorem dX11_block_23 : decode cX11_block 23 = .ok (.aload_n 3, 1) := by decide +kernel
theorem dX11_block_24 : decode cX11_block 24 = .ok (.getfield 103, 3) := by decide +kernel
theorem dX11_block_27 : decode cX11_block 27 = .ok (.istore 4, 2) := by decide +kernel
theorem dX11_block_29 : decode cX11_block 29 = .ok (.aload_n 3, 1) := by decide +kernel
theorem dX11_block_30 : decode cX11_block 30 = .ok (.iload_n 2, 1) := by decide +kernel
theorem dX11_block_31 : decode cX11_block 31 = .ok (.putfield 103, 3) := by decide +kernel
theorem dX11_block_34 : decode cX11_block 34 = .ok (.iload 4, 2) := by decide +kernel
theorem dX11_block_36 : decode cX11_block 36 = .ok (.ireturn, 1) := by decide +kernel
def f_X11_block (r0 : Option Nat) (x1 : Int32) (x2 : Int32) : Mo (Int32 ⊕ String) := mb (gR 14 0 r0) (fun v2 => mb (mo 2 v2 (f_Jx4a65c_size_8abf5 v2)) (fun v5 => mx (f_X11_needNumber x1 v5) (fun _ => mb (gR 14 0 r0) (fun v12 => mb (mo 2 v12 (f_Jx4a65c_get_915e3 v12 x1)) (fun v16 => mb (ck 9 v16) (fun _ => mb (gI 9 2 v16) (fun v24 => mb (pZ 9 2 v16 x2) (fun _ => rzX .boolean v24))))))))
set_option maxRecDepth 100000 in
set_option maxHeartbeats 4000000 in
theorem s_X11_block {X : Cg} (cx : Cx X cX11_block RX11 5) (hfr : 7 ≤ (xR X).frames) (hlo : 111 ≤ (xR X).locals) (hr : (xM X).sig.returnType = (some .boolean)) (hth : (xL X).stackTraces = false ∧ (∀ x ∈ (xC X).exceptionTable.toList, False)) (r0 : Option Nat) (x1 : Int32) (x2 : Int32) : Sim X 5 (FiX X vI) 0 [(0, va_rf r0), (1, .int x1), (2, .int x2)] [] (f_X11_block r0 x1 x2) := by
  unfold f_X11_block
  refine sm_iload_n cx 1 dX11_block_0 rfl rfl ?_
  refine sm_aload_n cx 0 dX11_block_1 rfl rfl ?_
  refine sm_getR cx fl_X11_10 dX11_block_2 (fun v2 => ?_)
  refine sm_callV (T := TJx4a65c) (N := 3) (toV := vI) cx [] rfl cv_X11_88 (fun a h => ct_Jx4a65c_size_8abf5 (xZ X) a h) (Nat.le_trans (by decide) hfr) (Nat.le_trans (by decide) hlo) rfl (cat_le _ (Nat.le_of_ble_eq_true rfl)) dX11_block_5 (fun v5 => ?_)
  refine sm_callSX (toV := vV) cx hth [.int x1, .int v5] cs_X11_92 (ct_X11_needNumber (xZ X) x1 v5) (Nat.le_trans (by decide) hfr) (Nat.le_trans (by decide) hlo) rfl (cat_le _ (Nat.le_of_ble_eq_true rfl)) dX11_block_8 (fun _ => ?_)
  refine sm_aload_n cx 0 dX11_block_11 rfl rfl ?_
  refine sm_getR cx fl_X11_10 dX11_block_12 (fun v12 => ?_)
  refine sm_iload_n cx 1 dX11_block_15 rfl rfl ?_
  refine sm_callV (T := TJx4a65c) (N := 3) (toV := vR) cx [.int x1] rfl cv_X11_99 (fun a h => ct_Jx4a65c_get_915e3 (xZ X) a h x1) (Nat.le_trans (by decide) hfr) (Nat.le_trans (by decide) hlo) rfl (cat_le _ (Nat.le_of_ble_eq_true rfl)) dX11_block_16 (fun v16 => ?_)
  refine sm_ck (T := TX6) (N := 4) cx rfl wd_1_198 dX11_block_19 ?_
  refine sm_astore_n cx [(3, va_rf v16), (0, va_rf r0), (1, .int x1), (2, .int x2)] dX11_block_22 rfl (by decide) rfl (nc1 rfl) rfl ?_
  refine sm_aload_n cx 0 dX11_block_23 rfl rfl ?_
  refine sm_getI cx fl_X11_103 dX11_block_24 (fun v24 => ?_)
  refine sm_istore cx [(4, .int v24), (3, va_rf v16), (0, va_rf r0), (1, .int x1), (2, .int x2)] dX11_block_27 (by decide) rfl (nc1 (rf_cat _)) rfl ?_
  refine sm_aload_n cx 1 dX11_block_29 rfl rfl ?_
  refine sm_iload_n cx 4 dX11_block_30 rfl rfl ?_
  refine sm_putZ cx fl_X11_103 dX11_block_31 ?_
  refine sm_iload cx 0 dX11_block_34 rfl ?_
  exact sx_zret cx hr dX11_block_36
set_option maxRecDepth 100000 in
set_option maxHeartbeats 4000000 in
theorem ct_X11_block (Z : Nat → Nat) {r0 : Option Nat} (a0 : Nat) (h0 : r0 = some a0) (x1 : Int32) (x2 : Int32) : CtX yX11_block cX11_block 5 (some .boolean) 7 111 Z [.ref a0, .int x1, .int x2] vI (f_X11_block r0 x1 x2) := by
  subst h0
  refine ctx_of (lv0 := [(0, va_rf (some a0)), (1, .int x1), (2, .int x2)]) (by decide +kernel) (by simp [lg_sl, ct_i, ct_l, ct_r, rf_cat]) (by show _ = ([(0, Value.ref a0), (1, .int x1), (2, .int x2)] : List (Nat × Value)); simp [lv_args, ct_i, ct_l, ct_r, rf_cat]) (fun X cx hZ hfr hlo hr hth => ?_)
  subst hZ
  exact s_X11_block cx (Nat.le_of_eq hfr.symm) (Nat.le_of_eq hlo.symm) hr hth (some a0) x1 x2
/-! PolicyTree.move(II)I -/
theorem dX11_move_0 : decode cX11_move 0 = .ok (.iload_n 1, 1) := by decide +kernel
theorem dX11_move_1 : decode cX11_move 1 = .ok (.aload_n 0, 1) := by decide +kernel
theorem dX11_move_2 : decode cX11_move 2 = .ok (.getfield 10, 3) := by decide +kernel
theorem dX11_move_5 : decode cX11_move 5 = .ok (.invokevirtual 88, 3) := by decide +kernel
theorem dX11_move_8 : decode cX11_move 8 = .ok (.invokestatic 92, 3) := by decide +kernel
theorem dX11_move_11 : decode cX11_move 11 = .ok (.iload_n 2, 1) := by decide +kernel
theorem dX11_move_12 : decode cX11_move 12 = .ok (.aload_n 0, 1) := by decide +kernel
theorem dX11_move_13 : decode cX11_move 13 = .ok (.getfield 10, 3) := by decide +kernel
theorem dX11_move_16 : decode cX11_move 16 = .ok (.invokevirtual 88, 3) := by decide +kernel
theorem dX11_move_19 : decode cX11_move 19 = .ok (.invokestatic 92, 3) := by decide +kernel
theorem dX11_move_22 : decode cX11_move 22 = .ok (.aload_n 0, 1) := by decide +kernel
theorem dX11_move_23 : decode cX11_move 23 = .ok (.getfield 10, 3) := by decide +kernel
theorem dX11_move_26 : decode cX11_move 26 = .ok (.iload_n 1, 1) := by decide +kernel
theorem dX11_move_27 : decode cX11_move 27 = .ok (.invokevirtual 99, 3) := by decide +kernel
theorem dX11_move_30 : decode cX11_move 30 = .ok (.checkcast 79, 3) := by decide +kernel
theorem dX11_move_33 : decode cX11_move 33 = .ok (.astore_n 3, 1) := by decide +kernel
theorem dX11_move_34 : decode cX11_move 34 = .ok (.aload_n 0, 1) := by decide +kernel
theorem dX11_move_35 : decode cX11_move 35 = .ok (.getfield 10, 3) := by decide +kernel
theorem dX11_move_38 : decode cX11_move 38 = .ok (.iload_n 2, 1) := by decide +kernel
theorem dX11_move_39 : decode cX11_move 39 = .ok (.invokevirtual 99, 3) := by decide +kernel
theorem dX11_move_42 : decode cX11_move 42 = .ok (.checkcast 79, 3) := by decide +kernel
theorem dX11_move_45 : decode cX11_move 45 = .ok (.astore 4, 2) := by decide +kernel
theorem dX11_move_47 : decode cX11_move 47 = .ok (.iload_n 1, 1) := by decide +kernel
theorem dX11_move_48 : decode cX11_move 48 = .ok (.ifCond .eq 12, 3) := by decide +kernel
theorem dX11_move_51 : decode cX11_move 51 = .ok (.aload 4, 2) := by decide +kernel
theorem dX11_move_53 : decode cX11_move 53 = .ok (.aload_n 3, 1) := by decide +kernel
theorem dX11_move_54 : decode cX11_move 54 = .ok (.invokevirtual 107, 3) := by decide +kernel
theorem dX11_move_57 : decode cX11_move 57 = .ok (.ifCond .eq 5, 3) := by decide +kernel
theorem dX11_move_60 : decode cX11_move 60 = .ok (.iconst (-1), 1) := by decide +kernel
theorem dX11_move_61 : decode cX11_move 61 = .ok (.ireturn, 1) := by decide +kernel
theorem dX11_move_62 : decode cX11_move 62 = .ok (.iconst 0, 1) := by decide +kernel
theorem dX11_move_63 : decode cX11_move 63 = .ok (.istore 5, 2) := by decide +kernel
theorem dX11_move_65 : decode cX11_move 65 = .ok (.iconst 0, 1) := by decide +kernel
theorem dX11_move_66 : decode cX11_move 66 = .ok (.istore 6, 2) := by decide +kernel
theorem dX11_move_68 : decode cX11_move 68 = .ok (.iload 6, 2) := by decide +kernel
theorem dX11_move_70 : decode cX11_move 70 = .ok (.aload_n 0, 1) := by decide +kernel
theorem dX11_move_71 : decode cX11_move 71 = .ok (.getfield 16, 3) := by decide +kernel
theorem dX11_move_74 : decode cX11_move 74 = .ok (.invokevirtual 88, 3) := by decide +kernel
theorem dX11_move_77 : decode cX11_move 77 = .ok (.if_icmp .ge 45, 3) := by decide +kernel
theorem dX11_move_80 : decode cX11_move 80 = .ok (.aload_n 0, 1) := by decide +kernel
theorem dX11_move_81 : decode cX11_move 81 = .ok (.getfield 16, 3) := by decide +kernel
theorem dX11_move_84 : decode cX11_move 84 = .ok (.iload 6, 2) := by decide +kernel
theorem dX11_move_86 : decode cX11_move 86 = .ok (.invokevirtual 99, 3) := by decide +kernel
theorem dX11_move_89 : decode cX11_move 89 = .ok (.checkcast 111, 3) := by decide +kernel
theorem dX11_move_92 : decode cX11_move 92 = .ok (.getfield 113, 3) := by decide +kernel
theorem dX11_move_95 : decode cX11_move 95 = .ok (.aload_n 3, 1) := by decide +kernel
theorem dX11_move_96 : decode cX11_move 96 = .ok (.invokevirtual 107, 3) := by decide +kernel
theorem dX11_move_99 : decode cX11_move 99 = .ok (.ifCond .eq 17, 3) := by decide +kernel
theorem dX11_move_102 : decode cX11_move 102 = .ok (.iload 5, 2) := by decide +kernel
theorem dX11_move_104 : decode cX11_move 104 = .ok (.aload_n 0, 1) := by decide +kernel
theorem dX11_move_105 : decode cX11_move 105 = .ok (.iload 6, 2) := by decide +kernel
theorem dX11_move_107 : decode cX11_move 107 = .ok (.aload_n 3, 1) := by decide +kernel
theorem dX11_move_108 : decode cX11_move 108 = .ok (.aload 4, 2) := by decide +kernel
theorem dX11_move_110 : decode cX11_move 110 = .ok (.invokevirtual 117, 3) := by decide +kernel
theorem dX11_move_113 : decode cX11_move 113 = .ok (.iadd, 1) := by decide +kernel
theorem dX11_move_114 : decode cX11_move 114 = .ok (.istore 5, 2) := by decide +kernel
theorem dX11_move_116 : decode cX11_move 116 = .ok (.iinc 6 1, 3) := by decide +kernel
theorem dX11_move_119 : decode cX11_move 119 = .ok (.goto (-51), 3) := by decide +kernel
theorem dX11_move_122 : decode cX11_move 122 = .ok (.aload_n 3, 1) := by decide +kernel
theorem dX11_move_123 : decode cX11_move 123 = .ok (.aload 4, 2) := by decide +kernel
theorem dX11_move_125 : decode cX11_move 125 = .ok (.putfield 121, 3) := by decide +kernel
theorem dX11_move_128 : decode cX11_move 128 = .ok (.iload 5, 2) := by decide +kernel
theorem dX11_move_130 : decode cX11_move 130 = .ok (.ireturn, 1) := by decide +kernel
def f_X11_move_60 (Z : Nat → Nat) : Mo (Int32 ⊕ String) := mp (.inl (-1 : Int32))
set_option maxRecDepth 100000 in
set_option maxHeartbeats 4000000 in
theorem s_X11_move_60 {X : Cg} (cx : Cx X cX11_move RX11 7) (hfr : 10 ≤ (xR X).frames) (hlo : 250 ≤ (xR X).locals) (hr : (xM X).sig.returnType = (some .int)) (hth : (xL X).stackTraces = false ∧ (∀ x ∈ (xC X).exceptionTable.toList, False)) : Sim X 7 (FiX X vI) 60 [] [] (f_X11_move_60 (xZ X)) := by
  unfold f_X11_move_60
  refine sm_iconst (v := -1) cx dX11_move_60 (by decide) ?_
  exact sx_iret cx hr dX11_move_61
def f_X11_move_116 (Z : Nat → Nat) (k68 : Int32 → Int32 → Mo (Int32 ⊕ String)) (r0 : Option Nat) (r3 : Option Nat) (r4 : Option Nat) (x5 : Int32) (x6 : Int32) : Mo (Int32 ⊕ String) := k68 x5 (x6 + 1)
set_option maxRecDepth 100000 in
set_option maxHeartbeats 4000000 in
theorem s_X11_move_116 {X : Cg} (cx : Cx X cX11_move RX11 7) (hfr : 10 ≤ (xR X).frames) (hlo : 250 ≤ (xR X).locals) (hr : (xM X).sig.returnType = (some .int)) (hth : (xL X).stackTraces = false ∧ (∀ x ∈ (xC X).exceptionTable.toList, False)) (r0 : Option Nat) (r3 : Option Nat) (r4 : Option Nat) (x5 : Int32) (x6 : Int32) {k68 : Int32 → Int32 → Mo (Int32 ⊕ String)} (hk68 : ∀ (x5 : Int32) (x6 : Int32), Sim X 7 (FiX X vI) 68 [(0, va_rf r0), (3, va_rf r3), (4, va_rf r4), (5, .int x5), (6, .int x6)] [] (k68 x5 x6)) : Sim X 7 (FiX X vI) 116 [(0, va_rf r0), (3, va_rf r3), (4, va_rf r4), (5, .int x5), (6, .int x6)] [] (f_X11_move_116 (xZ X) k68 r0 r3 r4 x5 x6) := by
  unfold f_X11_move_116
  refine sm_iinc cx 4 [(6, .int (x6 + 1)), (0, va_rf r0), (3, va_rf r3), (4, va_rf r4), (5, .int x5)] dX11_move_116 rfl rfl (by decide) rfl (nc1 rfl) rfl ?_
  refine sm_goto (tgt := 68) cx dX11_move_119 (by decide) ?_
  exact sm_lv [1, 2, 3, 4, 0] rfl (hk68 x5 (x6 + 1))
def f_X11_move_68 (Z : Nat → Nat) (r0 : Option Nat) (r3 : Option Nat) (r4 : Option Nat) : Nat → Int32 → Int32 → Mo (Int32 ⊕ String)
  | 0, _, _ => mf
  | n + 1, x5, x6 => mb (gR 14 1 r0) (fun v71 => mb (mo 2 v71 (f_Jx4a65c_size_8abf5 v71)) (fun v74 => (if v74 ≤ x6 then mb (pV 9 1 r3 (va_rf r4)) (fun _ => mp (.inl x5)) else mb (gR 14 1 r0) (fun v81 => mb (mo 2 v81 (f_Jx4a65c_get_915e3 v81 x6)) (fun v86 => mb (ck 8 v86) (fun _ => mb (gR 8 0 v86) (fun v92 => mb (mo 9 v92 (f_X6_isWithin v92 r3)) (fun v96 => (if v96 = 0 then f_X11_move_116 Z (f_X11_move_68 Z r0 r3 r4 n) r0 r3 r4 x5 x6 else mb (mo 14 r0 (f_X11_countMoved Z r0 x6 r3 r4)) (fun v110 => f_X11_move_116 Z (f_X11_move_68 Z r0 r3 r4 n) r0 r3 r4 (x5 + v110) x6))))))))))
set_option maxRecDepth 100000 in
set_option maxHeartbeats 4000000 in
theorem s_X11_move_68 {X : Cg} (cx : Cx X cX11_move RX11 7) (hfr : 10 ≤ (xR X).frames) (hlo : 250 ≤ (xR X).locals) (hr : (xM X).sig.returnType = (some .int)) (hth : (xL X).stackTraces = false ∧ (∀ x ∈ (xC X).exceptionTable.toList, False)) (r0 : Option Nat) (r3 : Option Nat) (r4 : Option Nat) : ∀ (n : Nat) (x5 : Int32) (x6 : Int32), Sim X 7 (FiX X vI) 68 [(0, va_rf r0), (3, va_rf r3), (4, va_rf r4), (5, .int x5), (6, .int x6)] [] (f_X11_move_68 (xZ X) r0 r3 r4 n x5 x6) := by
  intro n
  induction n with
  | zero =>
    intro _ _
    exact sm_mf
  | succ n ih =>
    intro x5 x6
    rw [f_X11_move_68]
    refine sm_iload cx 4 dX11_move_68 rfl ?_
    refine sm_aload_n cx 0 dX11_move_70 rfl rfl ?_
    refine sm_getR cx fl_X11_16 dX11_move_71 (fun v71 => ?_)
    refine sm_callV (T := TJx4a65c) (N := 3) (toV := vI) cx [] rfl cv_X11_88 (fun a h => ct_Jx4a65c_size_8abf5 (xZ X) a h) (Nat.le_trans (by decide) hfr) (Nat.le_trans (by decide) hlo) rfl (cat_le _ (Nat.le_of_ble_eq_true rfl)) dX11_move_74 (fun v74 => ?_)
    refine sm_icmp_ge (tgt := 122) cx dX11_move_77 (by decide) ?_ ?_
    · refine sm_aload_n cx 1 dX11_move_122 rfl rfl ?_
      refine sm_aload cx 2 dX11_move_123 rfl ?_
      refine sm_putV cx fl_X11_121 (nr_rf _) (ft_rf _) dX11_move_125 ?_
      refine sm_iload cx 3 dX11_move_128 rfl ?_
      exact sx_iret cx hr dX11_move_130
    · refine sm_aload_n cx 0 dX11_move_80 rfl rfl ?_
      refine sm_getR cx fl_X11_16 dX11_move_81 (fun v81 => ?_)
      refine sm_iload cx 4 dX11_move_84 rfl ?_
      refine sm_callV (T := TJx4a65c) (N := 3) (toV := vR) cx [.int x6] rfl cv_X11_99 (fun a h => ct_Jx4a65c_get_915e3 (xZ X) a h x6) (Nat.le_trans (by decide) hfr) (Nat.le_trans (by decide) hlo) rfl (cat_le _ (Nat.le_of_ble_eq_true rfl)) dX11_move_86 (fun v86 => ?_)
      refine sm_ck (T := TX5) (N := 3) cx rfl wd_3_43 dX11_move_89 ?_
      refine sm_getR cx fl_X11_113 dX11_move_92 (fun v92 => ?_)
      refine sm_aload_n cx 1 dX11_move_95 rfl rfl ?_
      refine sm_callV (T := TX6) (N := 4) (toV := vI) cx [va_rf r3] rfl cv_X11_107 (fun a h => ct_X6_isWithin (xZ X) a h r3) (Nat.le_trans (by decide) hfr) (Nat.le_trans (by decide) hlo) rfl (cat_le _ (Nat.le_of_ble_eq_true rfl)) dX11_move_96 (fun v96 => ?_)
      refine sm_if_eq (tgt := 116) cx dX11_move_99 (by decide) ?_ ?_
      · exact sm_lv [0, 1, 2, 3, 4] rfl (s_X11_move_116 cx hfr hlo hr hth r0 r3 r4 x5 x6 ih)
      · refine sm_iload cx 3 dX11_move_102 rfl ?_
        refine sm_aload_n cx 0 dX11_move_104 rfl rfl ?_
        refine sm_iload cx 4 dX11_move_105 rfl ?_
        refine sm_aload_n cx 1 dX11_move_107 rfl rfl ?_
        refine sm_aload cx 2 dX11_move_108 rfl ?_
        refine sm_callV (T := TX11) (N := 14) (toV := vI) cx [.int x6, va_rf r3, va_rf r4] rfl cv_X11_117 (fun a h => ct_X11_countMoved (xZ X) a h x6 r3 r4) (Nat.le_trans (by decide) hfr) (Nat.le_trans (by decide) hlo) rfl (cat_le _ (Nat.le_of_ble_eq_true rfl)) dX11_move_110 (fun v110 => ?_)
        refine sm_iadd cx dX11_move_113 ?_
        refine sm_istore cx [(5, .int (x5 + v110)), (0, va_rf r0), (3, va_rf r3), (4, va_rf r4), (6, .int x6)] dX11_move_114 (by decide) rfl (nc1 (rf_cat _)) rfl ?_
        exact sm_lv [1, 2, 3, 0, 4] rfl (s_X11_move_116 cx hfr hlo hr hth r0 r3 r4 (x5 + v110) x6 ih)
def f_X11_move (Z : Nat → Nat) (r0 : Option Nat) (x1 : Int32) (x2 : Int32) : Mo (Int32 ⊕ String) := mb (gR 14 0 r0) (fun v2 => mb (mo 2 v2 (f_Jx4a65c_size_8abf5 v2)) (fun v5 => mx (f_X11_needNumber x1 v5) (fun _ => mb (gR 14 0 r0) (fun v13 => mb (mo 2 v13 (f_Jx4a65c_size_8abf5 v13)) (fun v16 => mx (f_X11_needNumber x2 v16) (fun _ => mb (gR 14 0 r0) (fun v23 => mb (mo 2 v23 (f_Jx4a65c_get_915e3 v23 x1)) (fun v27 => mb (ck 9 v27) (fun _ => mb (gR 14 0 r0) (fun v35 => mb (mo 2 v35 (f_Jx4a65c_get_915e3 v35 x2)) (fun v39 => mb (ck 9 v39) (fun _ => (if x1 = 0 then f_X11_move_60 Z else mb (mo 9 v39 (f_X6_isWithin v39 v27)) (fun v54 => (if v54 = 0 then f_X11_move_68 Z r0 v27 v39 fuL (0 : Int32) (0 : Int32) else f_X11_move_60 Z)))))))))))))))
set_option maxRecDepth 100000 in
set_option maxHeartbeats 4000000 in
theorem s_X11_move {X : Cg} (cx : Cx X cX11_move RX11 7) (hfr : 10 ≤ (xR X).frames) (hlo : 250 ≤ (xR X).locals) (hr : (xM X).sig.returnType = (some .int)) (hth : (xL X).stackTraces = false ∧ (∀ x ∈ (xC X).exceptionTable.toList, False)) (r0 : Option Nat) (x1 : Int32) (x2 : Int32) : Sim X 7 (FiX X vI) 0 [(0, va_rf r0), (1, .int x1), (2, .int x2)] [] (f_X11_move (xZ X) r0 x1 x2) := by
  unfold f_X11_move
  refine sm_iload_n cx 1 dX11_move_0 rfl rfl ?_
  refine sm_aload_n cx 0 dX11_move_1 rfl rfl ?_
  refine sm_getR cx fl_X11_10 dX11_move_2 (fun v2 => ?_)
  refine sm_callV (T := TJx4a65c) (N := 3) (toV := vI) cx [] rfl cv_X11_88 (fun a h => ct_Jx4a65c_size_8abf5 (xZ X) a h) (Nat.le_trans (by decide) hfr) (Nat.le_trans (by decide) hlo) rfl (cat_le _ (Nat.le_of_ble_eq_true rfl)) dX11_move_5 (fun v5 => ?_)
  refine sm_callSX (toV := vV) cx hth [.int x1, .int v5] cs_X11_92 (ct_X11_needNumber (xZ X) x1 v5) (Nat.le_trans (by decide) hfr) (Nat.le_trans (by decide) hlo) rfl (cat_le _ (Nat.le_of_ble_eq_true rfl)) dX11_move_8 (fun _ => ?_)
  refine sm_iload_n cx 2 dX11_move_11 rfl rfl ?_
  refine sm_aload_n cx 0 dX11_move_12 rfl rfl ?_
  refine sm_getR cx fl_X11_10 dX11_move_13 (fun v13 => ?_)
  refine sm_callV (T := TJx4a65c) (N := 3) (toV := vI) cx [] rfl cv_X11_88 (fun a h => ct_Jx4a65c_size_8abf5 (xZ X) a h) (Nat.le_trans (by decide) hfr) (Nat.le_trans (by decide) hlo) rfl (cat_le _ (Nat.le_of_ble_eq_true rfl)) dX11_move_16 (fun v16 => ?_)
  refine sm_callSX (toV := vV) cx hth [.int x2, .int v16] cs_X11_92 (ct_X11_needNumber (xZ X) x2 v16) (Nat.le_trans (by decide) hfr) (Nat.le_trans (by decide) hlo) rfl (cat_le _ (Nat.le_of_ble_eq_true rfl)) dX11_move_19 (fun _ => ?_)
  refine sm_aload_n cx 0 dX11_move_22 rfl rfl ?_
  refine sm_getR cx fl_X11_10 dX11_move_23 (fun v23 => ?_)
  refine sm_iload_n cx 1 dX11_move_26 rfl rfl ?_
  refine sm_callV (T := TJx4a65c) (N := 3) (toV := vR) cx [.int x1] rfl cv_X11_99 (fun a h => ct_Jx4a65c_get_915e3 (xZ X) a h x1) (Nat.le_trans (by decide) hfr) (Nat.le_trans (by decide) hlo) rfl (cat_le _ (Nat.le_of_ble_eq_true rfl)) dX11_move_27 (fun v27 => ?_)
  refine sm_ck (T := TX6) (N := 4) cx rfl wd_1_198 dX11_move_30 ?_
  refine sm_astore_n cx [(3, va_rf v27), (0, va_rf r0), (1, .int x1), (2, .int x2)] dX11_move_33 rfl (by decide) rfl (nc1 rfl) rfl ?_
  refine sm_aload_n cx 1 dX11_move_34 rfl rfl ?_
  refine sm_getR cx fl_X11_10 dX11_move_35 (fun v35 => ?_)
  refine sm_iload_n cx 3 dX11_move_38 rfl rfl ?_
  refine sm_callV (T := TJx4a65c) (N := 3) (toV := vR) cx [.int x2] rfl cv_X11_99 (fun a h => ct_Jx4a65c_get_915e3 (xZ X) a h x2) (Nat.le_trans (by decide) hfr) (Nat.le_trans (by decide) hlo) rfl (cat_le _ (Nat.le_of_ble_eq_true rfl)) dX11_move_39 (fun v39 => ?_)
  refine sm_ck (T := TX6) (N := 4) cx rfl wd_1_198 dX11_move_42 ?_
  refine sm_astore cx [(4, va_rf v39), (3, va_rf v27), (0, va_rf r0), (1, .int x1), (2, .int x2)] dX11_move_45 (by decide) rfl (nc1 (rf_cat _)) rfl ?_
  refine sm_iload_n cx 3 dX11_move_47 rfl rfl ?_
  refine sm_if_eq (tgt := 60) cx dX11_move_48 (by decide) ?_ ?_
  · exact sm_lv [] rfl (s_X11_move_60 cx hfr hlo hr hth)
  · refine sm_aload cx 0 dX11_move_51 rfl ?_
    refine sm_aload_n cx 1 dX11_move_53 rfl rfl ?_
    refine sm_callV (T := TX6) (N := 4) (toV := vI) cx [va_rf v27] rfl cv_X11_107 (fun a h => ct_X6_isWithin (xZ X) a h v27) (Nat.le_trans (by decide) hfr) (Nat.le_trans (by decide) hlo) rfl (cat_le _ (Nat.le_of_ble_eq_true rfl)) dX11_move_54 (fun v54 => ?_)
    refine sm_if_eq (tgt := 62) cx dX11_move_57 (by decide) ?_ ?_
    · refine sm_iconst (v := 0) cx dX11_move_62 (by decide) ?_
      refine sm_istore cx [(5, .int (0 : Int32)), (4, va_rf v39), (3, va_rf v27), (0, va_rf r0), (1, .int x1), (2, .int x2)] dX11_move_63 (by decide) rfl (nc1 (rf_cat _)) rfl ?_
      refine sm_iconst (v := 0) cx dX11_move_65 (by decide) ?_
      refine sm_istore cx [(6, .int (0 : Int32)), (5, .int (0 : Int32)), (4, va_rf v39), (3, va_rf v27), (0, va_rf r0), (1, .int x1), (2, .int x2)] dX11_move_66 (by decide) rfl (nc1 rfl) rfl ?_
      exact sm_lv [4, 3, 2, 1, 0] rfl (s_X11_move_68 cx hfr hlo hr hth r0 v27 v39 fuL (0 : Int32) (0 : Int32))
    · exact sm_lv [] rfl (s_X11_move_60 cx hfr hlo hr hth)
set_option maxRecDepth 100000 in
set_option maxHeartbeats 4000000 in
theorem ct_X11_move (Z : Nat → Nat) {r0 : Option Nat} (a0 : Nat) (h0 : r0 = some a0) (x1 : Int32) (x2 : Int32) : CtX yX11_move cX11_move 7 (some .int) 10 250 Z [.ref a0, .int x1, .int x2] vI (f_X11_move Z r0 x1 x2) := by
  subst h0
  refine ctx_of (lv0 := [(0, va_rf (some a0)), (1, .int x1), (2, .int x2)]) (by decide +kernel) (by simp [lg_sl, ct_i, ct_l, ct_r, rf_cat]) (by show _ = ([(0, Value.ref a0), (1, .int x1), (2, .int x2)] : List (Nat × Value)); simp [lv_args, ct_i, ct_l, ct_r, rf_cat]) (fun X cx hZ hfr hlo hr hth => ?_)
  subst hZ
  exact s_X11_move cx (Nat.le_of_eq hfr.symm) (Nat.le_of_eq hlo.symm) hr hth (some a0) x1 x2
/-! PolicyTree.machine(I)I -/
theorem dX11_machine_0 : decode cX11_machine 0 = .ok (.iload_n 1, 1) := by decide +kernel
theorem dX11_machine_1 : decode cX11_machine 1 = .ok (.aload_n 0, 1) := by decide +kernel
theorem dX11_machine_2 : decode cX11_machine 2 = .ok (.getfield 10, 3) := by decide +kernel
theorem dX11_machine_5 : decode cX11_machine 5 = .ok (.invokevirtual 88, 3) := by decide +kernel
theorem dX11_machine_8 : decode cX11_machine 8 = .ok (.invokestatic 92, 3) := by decide +kernel
theorem dX11_machine_11 : decode cX11_machine 11 = .ok (.aload_n 0, 1) := by decide +kernel
theorem dX11_machine_12 : decode cX11_machine 12 = .ok (.getfield 16, 3) := by decide +kernel
theorem dX11_machine_15 : decode cX11_machine 15 = .ok (.invokevirtual 88, 3) := by decide +kernel
theorem dX11_machine_18 : decode cX11_machine 18 = .ok (.bipush 60, 2) := by decide +kernel
theorem dX11_machine_20 : decode cX11_machine 20 = .ok (.invokestatic 96, 3) := by decide +kernel
theorem dX11_machine_23 : decode cX11_machine 23 = .ok (.aload_n 0, 1) := by decide +kernel
theorem dX11_machine_24 : decode cX11_machine 24 = .ok (.getfield 16, 3) := by decide +kernel
theorem dX11_machine_27 : decode cX11_machine 27 = .ok (.new 111, 3) := by decide +kernel
theorem dX11_machine_30 : decode cX11_machine 30 = .ok (.dup, 1) := by decide +kernel
theorem dX11_machine_31 : decode cX11_machine 31 = .ok (.aload_n 0, 1) := by decide +kernel
theorem dX11_machine_32 : decode cX11_machine 32 = .ok (.getfield 10, 3) := by decide +kernel
theorem dX11_machine_35 : decode cX11_machine 35 = .ok (.iload_n 1, 1) := by decide +kernel
theorem dX11_machine_36 : decode cX11_machine 36 = .ok (.invokevirtual 99, 3) := by decide +kernel
theorem dX11_machine_39 : decode cX11_machine 39 = .ok (.checkcast 79, 3) := by decide +kernel
theorem dX11_machine_42 : decode cX11_machine 42 = .ok (.invokespecial 124, 3) := by decide +kernel
theorem dX11_machine_45 : decode cX11_machine 45 = .ok (.invokevirtual 84, 3) := by decide +kernel
theorem dX11_machine_48 : decode cX11_machine 48 = .ok (.pop, 1) := by decide +kernel
theorem dX11_machine_49 : decode cX11_machine 49 = .ok (.aload_n 0, 1) := by decide +kernel
theorem dX11_machine_50 : decode cX11_machine 50 = .ok (.getfield 16, 3) := by decide +kernel
theorem dX11_machine_53 : decode cX11_machine 53 = .ok (.invokevirtual 88, 3) := by decide +kernel
theorem dX11_machine_56 : decode cX11_machine 56 = .ok (.iconst 1, 1) := by decide +kernel
theorem dX11_machine_57 : decode cX11_machine 57 = .ok (.isub, 1) := by decide +kernel
theorem dX11_machine_58 : decode cX11_machine 58 = .ok (.ireturn, 1) := by decide +kernel
def f_X11_machine (Z : Nat → Nat) (r0 : Option Nat) (x1 : Int32) : Mo (Int32 ⊕ String) := mb (gR 14 0 r0) (fun v2 => mb (mo 2 v2 (f_Jx4a65c_size_8abf5 v2)) (fun v5 => mx (f_X11_needNumber x1 v5) (fun _ => mb (gR 14 1 r0) (fun v12 => mb (mo 2 v12 (f_Jx4a65c_size_8abf5 v12)) (fun v15 => mx (f_X11_needRoom v15 (60 : Int32)) (fun _ => mb (gR 14 1 r0) (fun v24 => mb (nO 8 [.null, .int 0, .int 0]) (fun v27 => mb (gR 14 0 r0) (fun v32 => mb (mo 2 v32 (f_Jx4a65c_get_915e3 v32 x1)) (fun v36 => mb (ck 9 v36) (fun _ => mb (mo 8 v27 (f_X5_init v27 v36)) (fun _ => mb (mo 2 v24 (f_Jx4a65c_add_9ea2d Z v24 v27)) (fun v45 => mb (gR 14 1 r0) (fun v50 => mb (mo 2 v50 (f_Jx4a65c_size_8abf5 v50)) (fun v53 => mp (.inl (v53 - (1 : Int32))))))))))))))))))
set_option maxRecDepth 100000 in
set_option maxHeartbeats 4000000 in
theorem s_X11_machine {X : Cg} (cx : Cx X cX11_machine RX11 2) (hfr : 7 ≤ (xR X).frames) (hlo : 170 ≤ (xR X).locals) (hr : (xM X).sig.returnType = (some .int)) (hth : (xL X).stackTraces = false ∧ (∀ x ∈ (xC X).exceptionTable.toList, False)) (r0 : Option Nat) (x1 : Int32) : Sim X 2 (FiX X vI) 0 [(0, va_rf r0), (1, .int x1)] [] (f_X11_machine (xZ X) r0 x1) := by
  unfold f_X11_machine
  refine sm_iload_n cx 1 dX11_machine_0 rfl rfl ?_
  refine sm_aload_n cx 0 dX11_machine_1 rfl rfl ?_
  refine sm_getR cx fl_X11_10 dX11_machine_2 (fun v2 => ?_)
  refine sm_callV (T := TJx4a65c) (N := 3) (toV := vI) cx [] rfl cv_X11_88 (fun a h => ct_Jx4a65c_size_8abf5 (xZ X) a h) (Nat.le_trans (by decide) hfr) (Nat.le_trans (by decide) hlo) rfl (cat_le _ (Nat.le_of_ble_eq_true rfl)) dX11_machine_5 (fun v5 => ?_)
  refine sm_callSX (toV := vV) cx hth [.int x1, .int v5] cs_X11_92 (ct_X11_needNumber (xZ X) x1 v5) (Nat.le_trans (by decide) hfr) (Nat.le_trans (by decide) hlo) rfl (cat_le _ (Nat.le_of_ble_eq_true rfl)) dX11_machine_8 (fun _ => ?_)
  refine sm_aload_n cx 0 dX11_machine_11 rfl rfl ?_
  refine sm_getR cx fl_X11_16 dX11_machine_12 (fun v12 => ?_)
  refine sm_callV (T := TJx4a65c) (N := 3) (toV := vI) cx [] rfl cv_X11_88 (fun a h => ct_Jx4a65c_size_8abf5 (xZ X) a h) (Nat.le_trans (by decide) hfr) (Nat.le_trans (by decide) hlo) rfl (cat_le _ (Nat.le_of_ble_eq_true rfl)) dX11_machine_15 (fun v15 => ?_)
  refine sm_bipush (v := 60) cx dX11_machine_18 (by decide) ?_
  refine sm_callSX (toV := vV) cx hth [.int v15, .int (60 : Int32)] cs_X11_96 (ct_X11_needRoom (xZ X) v15 (60 : Int32)) (Nat.le_trans (by decide) hfr) (Nat.le_trans (by decide) hlo) rfl (cat_le _ (Nat.le_of_ble_eq_true rfl)) dX11_machine_20 (fun _ => ?_)
  refine sm_aload_n cx 0 dX11_machine_23 rfl rfl ?_
  refine sm_getR cx fl_X11_16 dX11_machine_24 (fun v24 => ?_)
  refine sm_new cx nw_X11_111 dX11_machine_27 (fun v27 => ?_)
  refine sm_dup cx dX11_machine_30 (rf_cat _) ?_
  refine sm_aload_n cx 0 dX11_machine_31 rfl rfl ?_
  refine sm_getR cx fl_X11_10 dX11_machine_32 (fun v32 => ?_)
  refine sm_iload_n cx 1 dX11_machine_35 rfl rfl ?_
  refine sm_callV (T := TJx4a65c) (N := 3) (toV := vR) cx [.int x1] rfl cv_X11_99 (fun a h => ct_Jx4a65c_get_915e3 (xZ X) a h x1) (Nat.le_trans (by decide) hfr) (Nat.le_trans (by decide) hlo) rfl (cat_le _ (Nat.le_of_ble_eq_true rfl)) dX11_machine_36 (fun v36 => ?_)
  refine sm_ck (T := TX6) (N := 4) cx rfl wd_1_198 dX11_machine_39 ?_
  refine sm_callI (ci := 8) (toV := vV) cx [va_rf v36] ci_X11_124 (fun a h => ct_X5_init (xZ X) a h v36) (Nat.le_trans (by decide) hfr) (Nat.le_trans (by decide) hlo) rfl (cat_le _ (Nat.le_of_ble_eq_true rfl)) dX11_machine_42 (fun _ => ?_)
  refine sm_callV (T := TJx4a65c) (N := 3) (toV := vI) cx [va_rf v27] rfl cv_X11_84 (fun a h => ct_Jx4a65c_add_9ea2d (xZ X) a h v27) (Nat.le_trans (by decide) hfr) (Nat.le_trans (by decide) hlo) rfl (cat_le _ (Nat.le_of_ble_eq_true rfl)) dX11_machine_45 (fun v45 => ?_)
  refine sm_pop cx dX11_machine_48 rfl ?_
  refine sm_aload_n cx 0 dX11_machine_49 rfl rfl ?_
  refine sm_getR cx fl_X11_16 dX11_machine_50 (fun v50 => ?_)
  refine sm_callV (T := TJx4a65c) (N := 3) (toV := vI) cx [] rfl cv_X11_88 (fun a h => ct_Jx4a65c_size_8abf5 (xZ X) a h) (Nat.le_trans (by decide) hfr) (Nat.le_trans (by decide) hlo) rfl (cat_le _ (Nat.le_of_ble_eq_true rfl)) dX11_machine_53 (fun v53 => ?_)
  refine sm_iconst (v := 1) cx dX11_machine_56 (by decide) ?_
  refine sm_isub cx dX11_machine_57 ?_
  exact sx_iret cx hr dX11_machine_58
set_option maxRecDepth 100000 in
set_option maxHeartbeats 4000000 in
theorem ct_X11_machine (Z : Nat → Nat) {r0 : Option Nat} (a0 : Nat) (h0 : r0 = some a0) (x1 : Int32) : CtX yX11_machine cX11_machine 2 (some .int) 7 170 Z [.ref a0, .int x1] vI (f_X11_machine Z r0 x1) := by
  subst h0
  refine ctx_of (lv0 := [(0, va_rf (some a0)), (1, .int x1)]) (by decide +kernel) (by simp [lg_sl, ct_i, ct_l, ct_r, rf_cat]) (by show _ = ([(0, Value.ref a0), (1, .int x1)] : List (Nat × Value)); simp [lv_args, ct_i, ct_l, ct_r, rf_cat]) (fun X cx hZ hfr hlo hr hth => ?_)
  subst hZ
  exact s_X11_machine cx (Nat.le_of_eq hfr.symm) (Nat.le_of_eq hlo.symm) hr hth (some a0) x1
/-! PolicyTree.fact(III)I -/
theorem dX11_fact_0 : decode cX11_fact 0 = .ok (.iload_n 1, 1) := by decide +kernel
theorem dX11_fact_1 : decode cX11_fact 1 = .ok (.aload_n 0, 1) := by decide +kernel
theorem dX11_fact_2 : decode cX11_fact 2 = .ok (.getfield 16, 3) := by decide +kernel
theorem dX11_fact_5 : decode cX11_fact 5 = .ok (.invokevirtual 88, 3) := by decide +kernel
theorem dX11_fact_8 : decode cX11_fact 8 = .ok (.invokestatic 92, 3) := by decide +kernel
theorem dX11_fact_11 : decode cX11_fact 11 = .ok (.iload_n 2, 1) := by decide +kernel
theorem dX11_fact_12 : decode cX11_fact 12 = .ok (.bipush 8, 2) := by decide +kernel
theorem dX11_fact_14 : decode cX11_fact 14 = .ok (.invokestatic 127, 3) := by decide +kernel
theorem dX11_fact_17 : decode cX11_fact 17 = .ok (.iload_n 3, 1) := by decide +kernel
theorem dX11_fact_18 : decode cX11_fact 18 = .ok (.iconst (-1), 1) := by decide +kernel
theorem dX11_fact_19 : decode cX11_fact 19 = .ok (.if_icmp .lt 8, 3) := by decide +kernel
theorem dX11_fact_22 : decode cX11_fact 22 = .ok (.iload_n 3, 1) := by decide +kernel
theorem dX11_fact_23 : decode cX11_fact 23 = .ok (.iconst 1, 1) := by decide +kernel
theorem dX11_fact_24 : decode cX11_fact 24 = .ok (.if_icmp .le 13, 3) := by decide +kernel
theorem dX11_fact_27 : decode cX11_fact 27 = .ok (.new 130, 3) := by decide +kernel
theorem dX11_fact_30 : decode cX11_fact 30 = .ok (.dup, 1) := by decide +kernel
theorem dX11_fact_31 : decode cX11_fact 31 = .ok (.ldc 132, 2) := by decide +kernel
theorem dX11_fact_33 : decode cX11_fact 33 = .ok (.invokespecial 134, 3) := by decide +kernel
theorem dX11_fact_36 : decode cX11_fact 36 = .ok (.athrow, 1) := by decide +kernel
theorem dX11_fact_37 : decode cX11_fact 37 = .ok (.aload_n 0, 1) := by decide +kernel
theorem dX11_fact_38 : decode cX11_fact 38 = .ok (.getfield 16, 3) := by decide +kernel
theorem dX11_fact_41 : decode cX11_fact 41 = .ok (.iload_n 1, 1) := by decide +kernel
theorem dX11_fact_42 : decode cX11_fact 42 = .ok (.invokevirtual 99, 3) := by decide +kernel
theorem dX11_fact_45 : decode cX11_fact 45 = .ok (.checkcast 111, 3) := by decide +kernel
theorem dX11_fact_48 : decode cX11_fact 48 = .ok (.astore 4, 2) := by decide +kernel
theorem dX11_fact_50 : decode cX11_fact 50 = .ok (.aload 4, 2) := by decide +kernel
theorem dX11_fact_52 : decode cX11_fact 52 = .ok (.iload_n 2, 1) := by decide +kernel
theorem dX11_fact_53 : decode cX11_fact 53 = .ok (.invokevirtual 137, 3) := by decide +kernel
theorem dX11_fact_56 : decode cX11_fact 56 = .ok (.istore 5, 2) := by decide +kernel
theorem dX11_fact_58 : decode cX11_fact 58 = .ok (.aload 4, 2) := by decide +kernel
theorem dX11_fact_60 : decode cX11_fact 60 = .ok (.iload_n 2, 1) := by decide +kernel
theorem dX11_fact_61 : decode cX11_fact 61 = .ok (.iload_n 3, 1) := by decide +kernel
theorem dX11_fact_62 : decode cX11_fact 62 = .ok (.invokevirtual 141, 3) := by decide +kernel
theorem dX11_fact_65 : decode cX11_fact 65 = .ok (.iload 5, 2) := by decide +kernel
theorem dX11_fact_67 : decode cX11_fact 67 = .ok (.ireturn, 1) := by decide +kernel
def f_X11_fact_27 : Mo (Int32 ⊕ String) := mt eA
set_option maxRecDepth 100000 in
set_option maxHeartbeats 4000000 in
theorem s_X11_fact_27 {X : Cg} (cx : Cx X cX11_fact RX11 6) (hfr : 7 ≤ (xR X).frames) (hlo : 111 ≤ (xR X).locals) (hr : (xM X).sig.returnType = (some .int)) (hth : (xL X).stackTraces = false ∧ (∀ x ∈ (xC X).exceptionTable.toList, False)) : Sim X 6 (FiX X vI) 27 [] [] (f_X11_fact_27) := by
  unfold f_X11_fact_27
  exact sm_thrS cx hth ("PolicyTree", 132, "a fact is 1, 0 or -1", 33) (List.mem_of_getElem? (i := 15) rfl) rfl rfl (by decide +kernel) wd_3_199 wd_1_25 ex_gA ex_bA bw_A bt_A ex_oA dX11_fact_27 dX11_fact_30 dX11_fact_31 dX11_fact_33 dX11_fact_36 (Nat.le_trans (by decide) hfr) (Nat.le_trans (by decide) hlo) (cat_le _ (Nat.le_of_ble_eq_true rfl))
def f_X11_fact (r0 : Option Nat) (x1 : Int32) (x2 : Int32) (x3 : Int32) : Mo (Int32 ⊕ String) := mb (gR 14 1 r0) (fun v2 => mb (mo 2 v2 (f_Jx4a65c_size_8abf5 v2)) (fun v5 => mx (f_X11_needNumber x1 v5) (fun _ => mx (f_X11_needChoice x2 (8 : Int32)) (fun _ => (if x3 < (-1 : Int32) then f_X11_fact_27 else (if x3 ≤ (1 : Int32) then mb (gR 14 1 r0) (fun v38 => mb (mo 2 v38 (f_Jx4a65c_get_915e3 v38 x1)) (fun v42 => mb (ck 8 v42) (fun _ => mb (mo 8 v42 (f_X5_factNow v42 x2)) (fun v53 => mb (mo 8 v42 (f_X5_learn v42 x2 x3)) (fun _ => mp (.inl v53)))))) else f_X11_fact_27))))))
set_option maxRecDepth 100000 in
set_option maxHeartbeats 4000000 in
theorem s_X11_fact {X : Cg} (cx : Cx X cX11_fact RX11 6) (hfr : 7 ≤ (xR X).frames) (hlo : 111 ≤ (xR X).locals) (hr : (xM X).sig.returnType = (some .int)) (hth : (xL X).stackTraces = false ∧ (∀ x ∈ (xC X).exceptionTable.toList, False)) (r0 : Option Nat) (x1 : Int32) (x2 : Int32) (x3 : Int32) : Sim X 6 (FiX X vI) 0 [(0, va_rf r0), (1, .int x1), (2, .int x2), (3, .int x3)] [] (f_X11_fact r0 x1 x2 x3) := by
  unfold f_X11_fact
  refine sm_iload_n cx 1 dX11_fact_0 rfl rfl ?_
  refine sm_aload_n cx 0 dX11_fact_1 rfl rfl ?_
  refine sm_getR cx fl_X11_16 dX11_fact_2 (fun v2 => ?_)
  refine sm_callV (T := TJx4a65c) (N := 3) (toV := vI) cx [] rfl cv_X11_88 (fun a h => ct_Jx4a65c_size_8abf5 (xZ X) a h) (Nat.le_trans (by decide) hfr) (Nat.le_trans (by decide) hlo) rfl (cat_le _ (Nat.le_of_ble_eq_true rfl)) dX11_fact_5 (fun v5 => ?_)
  refine sm_callSX (toV := vV) cx hth [.int x1, .int v5] cs_X11_92 (ct_X11_needNumber (xZ X) x1 v5) (Nat.le_trans (by decide) hfr) (Nat.le_trans (by decide) hlo) rfl (cat_le _ (Nat.le_of_ble_eq_true rfl)) dX11_fact_8 (fun _ => ?_)
  refine sm_iload_n cx 2 dX11_fact_11 rfl rfl ?_
  refine sm_bipush (v := 8) cx dX11_fact_12 (by decide) ?_
  refine sm_callSX (toV := vV) cx hth [.int x2, .int (8 : Int32)] cs_X11_127 (ct_X11_needChoice (xZ X) x2 (8 : Int32)) (Nat.le_trans (by decide) hfr) (Nat.le_trans (by decide) hlo) rfl (cat_le _ (Nat.le_of_ble_eq_true rfl)) dX11_fact_14 (fun _ => ?_)
  refine sm_iload_n cx 3 dX11_fact_17 rfl rfl ?_
  refine sm_iconst (v := -1) cx dX11_fact_18 (by decide) ?_
  refine sm_icmp_lt (tgt := 27) cx dX11_fact_19 (by decide) ?_ ?_
  · exact sm_lv [] rfl (s_X11_fact_27 cx hfr hlo hr hth)
  · refine sm_iload_n cx 3 dX11_fact_22 rfl rfl ?_
    refine sm_iconst (v := 1) cx dX11_fact_23 (by decide) ?_
    refine sm_icmp_le (tgt := 37) cx dX11_fact_24 (by decide) ?_ ?_
    · refine sm_aload_n cx 0 dX11_fact_37 rfl rfl ?_
      refine sm_getR cx fl_X11_16 dX11_fact_38 (fun v38 => ?_)
      refine sm_iload_n cx 1 dX11_fact_41 rfl rfl ?_
      refine sm_callV (T := TJx4a65c) (N := 3) (toV := vR) cx [.int x1] rfl cv_X11_99 (fun a h => ct_Jx4a65c_get_915e3 (xZ X) a h x1) (Nat.le_trans (by decide) hfr) (Nat.le_trans (by decide) hlo) rfl (cat_le _ (Nat.le_of_ble_eq_true rfl)) dX11_fact_42 (fun v42 => ?_)
      refine sm_ck (T := TX5) (N := 3) cx rfl wd_3_43 dX11_fact_45 ?_
      refine sm_astore cx [(4, va_rf v42), (0, va_rf r0), (1, .int x1), (2, .int x2), (3, .int x3)] dX11_fact_48 (by decide) rfl (nc1 rfl) rfl ?_
      refine sm_aload cx 0 dX11_fact_50 rfl ?_
      refine sm_iload_n cx 3 dX11_fact_52 rfl rfl ?_
      refine sm_callV (T := TX5) (N := 3) (toV := vI) cx [.int x2] rfl cv_X11_137 (fun a h => ct_X5_factNow (xZ X) a h x2) (Nat.le_trans (by decide) hfr) (Nat.le_trans (by decide) hlo) rfl (cat_le _ (Nat.le_of_ble_eq_true rfl)) dX11_fact_53 (fun v53 => ?_)
      refine sm_istore cx [(5, .int v53), (4, va_rf v42), (0, va_rf r0), (1, .int x1), (2, .int x2), (3, .int x3)] dX11_fact_56 (by decide) rfl (nc1 (rf_cat _)) rfl ?_
      refine sm_aload cx 1 dX11_fact_58 rfl ?_
      refine sm_iload_n cx 4 dX11_fact_60 rfl rfl ?_
      refine sm_iload_n cx 5 dX11_fact_61 rfl rfl ?_
      refine sm_callV (T := TX5) (N := 3) (toV := vV) cx [.int x2, .int x3] rfl cv_X11_141 (fun a h => ct_X5_learn (xZ X) a h x2 x3) (Nat.le_trans (by decide) hfr) (Nat.le_trans (by decide) hlo) rfl (cat_le _ (Nat.le_of_ble_eq_true rfl)) dX11_fact_62 (fun _ => ?_)
      refine sm_iload cx 0 dX11_fact_65 rfl ?_
      exact sx_iret cx hr dX11_fact_67
    · exact sm_lv [] rfl (s_X11_fact_27 cx hfr hlo hr hth)
set_option maxRecDepth 100000 in
set_option maxHeartbeats 4000000 in
theorem ct_X11_fact (Z : Nat → Nat) {r0 : Option Nat} (a0 : Nat) (h0 : r0 = some a0) (x1 : Int32) (x2 : Int32) (x3 : Int32) : CtX yX11_fact cX11_fact 6 (some .int) 7 111 Z [.ref a0, .int x1, .int x2, .int x3] vI (f_X11_fact r0 x1 x2 x3) := by
  subst h0
  refine ctx_of (lv0 := [(0, va_rf (some a0)), (1, .int x1), (2, .int x2), (3, .int x3)]) (by decide +kernel) (by simp [lg_sl, ct_i, ct_l, ct_r, rf_cat]) (by show _ = ([(0, Value.ref a0), (1, .int x1), (2, .int x2), (3, .int x3)] : List (Nat × Value)); simp [lv_args, ct_i, ct_l, ct_r, rf_cat]) (fun X cx hZ hfr hlo hr hth => ?_)
  subst hZ
  exact s_X11_fact cx (Nat.le_of_eq hfr.symm) (Nat.le_of_eq hlo.symm) hr hth (some a0) x1 x2 x3
/-! PolicyTree.group()I -/
theorem dX11_group_0 : decode cX11_group 0 = .ok (.aload_n 0, 1) := by decide +kernel
theorem dX11_group_1 : decode cX11_group 1 = .ok (.getfield 22, 3) := by decide +kernel
theorem dX11_group_4 : decode cX11_group 4 = .ok (.invokevirtual 144, 3) := by decide +kernel
theorem dX11_group_7 : decode cX11_group 7 = .ok (.bipush 20, 2) := by decide +kernel
theorem dX11_group_9 : decode cX11_group 9 = .ok (.invokestatic 96, 3) := by decide +kernel
theorem dX11_group_12 : decode cX11_group 12 = .ok (.aload_n 0, 1) := by decide +kernel
theorem dX11_group_13 : decode cX11_group 13 = .ok (.getfield 22, 3) := by decide +kernel
theorem dX11_group_16 : decode cX11_group 16 = .ok (.invokevirtual 145, 3) := by decide +kernel
theorem dX11_group_19 : decode cX11_group 19 = .ok (.ireturn, 1) := by decide +kernel
def f_X11_group (r0 : Option Nat) : Mo (Int32 ⊕ String) := mb (gR 14 2 r0) (fun v1 => mb (mo 6 v1 (f_X3_size v1)) (fun v4 => mx (f_X11_needRoom v4 (20 : Int32)) (fun _ => mb (gR 14 2 r0) (fun v13 => mb (mo 6 v13 (f_X3_add v13)) (fun v16 => mp (.inl v16))))))
set_option maxRecDepth 100000 in
set_option maxHeartbeats 4000000 in
theorem s_X11_group {X : Cg} (cx : Cx X cX11_group RX11 1) (hfr : 7 ≤ (xR X).frames) (hlo : 111 ≤ (xR X).locals) (hr : (xM X).sig.returnType = (some .int)) (hth : (xL X).stackTraces = false ∧ (∀ x ∈ (xC X).exceptionTable.toList, False)) (r0 : Option Nat) : Sim X 1 (FiX X vI) 0 [(0, va_rf r0)] [] (f_X11_group r0) := by
  unfold f_X11_group
  refine sm_aload_n cx 0 dX11_group_0 rfl rfl ?_
  refine sm_getR cx fl_X11_22 dX11_group_1 (fun v1 => ?_)
  refine sm_callV (T := TX3) (N := 3) (toV := vI) cx [] rfl cv_X11_144 (fun a h => ct_X3_size (xZ X) a h) (Nat.le_trans (by decide) hfr) (Nat.le_trans (by decide) hlo) rfl (cat_le _ (Nat.le_of_ble_eq_true rfl)) dX11_group_4 (fun v4 => ?_)
  refine sm_bipush (v := 20) cx dX11_group_7 (by decide) ?_
  refine sm_callSX (toV := vV) cx hth [.int v4, .int (20 : Int32)] cs_X11_96 (ct_X11_needRoom (xZ X) v4 (20 : Int32)) (Nat.le_trans (by decide) hfr) (Nat.le_trans (by decide) hlo) rfl (cat_le _ (Nat.le_of_ble_eq_true rfl)) dX11_group_9 (fun _ => ?_)
  refine sm_aload_n cx 0 dX11_group_12 rfl rfl ?_
  refine sm_getR cx fl_X11_22 dX11_group_13 (fun v13 => ?_)
  refine sm_callV (T := TX3) (N := 3) (toV := vI) cx [] rfl cv_X11_145 (fun a h => ct_X3_add (xZ X) a h) (Nat.le_trans (by decide) hfr) (Nat.le_trans (by decide) hlo) rfl (cat_le _ (Nat.le_of_ble_eq_true rfl)) dX11_group_16 (fun v16 => ?_)
  exact sx_iret cx hr dX11_group_19
set_option maxRecDepth 100000 in
set_option maxHeartbeats 4000000 in
theorem ct_X11_group (Z : Nat → Nat) {r0 : Option Nat} (a0 : Nat) (h0 : r0 = some a0) : CtX yX11_group cX11_group 1 (some .int) 7 111 Z [.ref a0] vI (f_X11_group r0) := by
  subst h0
  refine ctx_of (lv0 := [(0, va_rf (some a0))]) (by decide +kernel) (by simp [lg_sl, ct_i, ct_l, ct_r, rf_cat]) (by show _ = ([(0, Value.ref a0)] : List (Nat × Value)); simp [lv_args, ct_i, ct_l, ct_r, rf_cat]) (fun X cx hZ hfr hlo hr hth => ?_)
  subst hZ
  exact s_X11_group cx (Nat.le_of_eq hfr.symm) (Nat.le_of_eq hlo.symm) hr hth (some a0)
/-! PolicyTree.joins(IIZ)Z -/
theorem dX11_joins_0 : decode cX11_joins 0 = .ok (.iload_n 1, 1) := by decide +kernel
theorem dX11_joins_1 : decode cX11_joins 1 = .ok (.aload_n 0, 1) := by decide +kernel
theorem dX11_joins_2 : decode cX11_joins 2 = .ok (.getfield 22, 3) := by decide +kernel
theorem dX11_joins_5 : decode cX11_joins 5 = .ok (.invokevirtual 144, 3) := by decide +kernel
theorem dX11_joins_8 : decode cX11_joins 8 = .ok (.invokestatic 92, 3) := by decide +kernel
theorem dX11_joins_11 : decode cX11_joins 11 = .ok (.iload_n 2, 1) := by decide +kernel
theorem dX11_joins_12 : decode cX11_joins 12 = .ok (.aload_n 0, 1) := by decide +kernel
theorem dX11_joins_13 : decode cX11_joins 13 = .ok (.getfield 16, 3) := by decide +kernel
theorem dX11_joins_16 : decode cX11_joins 16 = .ok (.invokevirtual 88, 3) := by decide +kernel
theorem dX11_joins_19 : decode cX11_joins 19 = .ok (.invokestatic 92, 3) := by decide +kernel
theorem dX11_joins_22 : decode cX11_joins 22 = .ok (.aload_n 0, 1) := by decide +kernel
theorem dX11_joins_23 : decode cX11_joins 23 = .ok (.getfield 22, 3) := by decide +kernel
theorem dX11_joins_26 : decode cX11_joins 26 = .ok (.iload_n 1, 1) := by decide +kernel
theorem dX11_joins_27 : decode cX11_joins 27 = .ok (.iload_n 2, 1) := by decide +kernel
theorem dX11_joins_28 : decode cX11_joins 28 = .ok (.iload_n 3, 1) := by decide +kernel
theorem dX11_joins_29 : decode cX11_joins 29 = .ok (.invokevirtual 147, 3) := by decide +kernel
theorem dX11_joins_32 : decode cX11_joins 32 = .ok (.ireturn, 1) := by decide +kernel
def f_X11_joins (r0 : Option Nat) (x1 : Int32) (x2 : Int32) (x3 : Int32) : Mo (Int32 ⊕ String) := mb (gR 14 2 r0) (fun v2 => mb (mo 6 v2 (f_X3_size v2)) (fun v5 => mx (f_X11_needNumber x1 v5) (fun _ => mb (gR 14 1 r0) (fun v13 => mb (mo 2 v13 (f_Jx4a65c_size_8abf5 v13)) (fun v16 => mx (f_X11_needNumber x2 v16) (fun _ => mb (gR 14 2 r0) (fun v23 => mb (mo 6 v23 (f_X3_putMachine v23 x1 x2 x3)) (fun v29 => rzX .boolean v29))))))))
set_option maxRecDepth 100000 in
set_option maxHeartbeats 4000000 in
theorem s_X11_joins {X : Cg} (cx : Cx X cX11_joins RX11 4) (hfr : 7 ≤ (xR X).frames) (hlo : 111 ≤ (xR X).locals) (hr : (xM X).sig.returnType = (some .boolean)) (hth : (xL X).stackTraces = false ∧ (∀ x ∈ (xC X).exceptionTable.toList, False)) (r0 : Option Nat) (x1 : Int32) (x2 : Int32) (x3 : Int32) : Sim X 4 (FiX X vI) 0 [(0, va_rf r0), (1, .int x1), (2, .int x2), (3, .int x3)] [] (f_X11_joins r0 x1 x2 x3) := by
  unfold f_X11_joins
  refine sm_iload_n cx 1 dX11_joins_0 rfl rfl ?_
  refine sm_aload_n cx 0 dX11_joins_1 rfl rfl ?_
  refine sm_getR cx fl_X11_22 dX11_joins_2 (fun v2 => ?_)
  refine sm_callV (T := TX3) (N := 3) (toV := vI) cx [] rfl cv_X11_144 (fun a h => ct_X3_size (xZ X) a h) (Nat.le_trans (by decide) hfr) (Nat.le_trans (by decide) hlo) rfl (cat_le _ (Nat.le_of_ble_eq_true rfl)) dX11_joins_5 (fun v5 => ?_)
  refine sm_callSX (toV := vV) cx hth [.int x1, .int v5] cs_X11_92 (ct_X11_needNumber (xZ X) x1 v5) (Nat.le_trans (by decide) hfr) (Nat.le_trans (by decide) hlo) rfl (cat_le _ (Nat.le_of_ble_eq_true rfl)) dX11_joins_8 (fun _ => ?_)
  refine sm_iload_n cx 2 dX11_joins_11 rfl rfl ?_
  refine sm_aload_n cx 0 dX11_joins_12 rfl rfl ?_
  refine sm_getR cx fl_X11_16 dX11_joins_13 (fun v13 => ?_)
  refine sm_callV (T := TJx4a65c) (N := 3) (toV := vI) cx [] rfl cv_X11_88 (fun a h => ct_Jx4a65c_size_8abf5 (xZ X) a h) (Nat.le_trans (by decide) hfr) (Nat.le_trans (by decide) hlo) rfl (cat_le _ (Nat.le_of_ble_eq_true rfl)) dX11_joins_16 (fun v16 => ?_)
  refine sm_callSX (toV := vV) cx hth [.int x2, .int v16] cs_X11_92 (ct_X11_needNumber (xZ X) x2 v16) (Nat.le_trans (by decide) hfr) (Nat.le_trans (by decide) hlo) rfl (cat_le _ (Nat.le_of_ble_eq_true rfl)) dX11_joins_19 (fun _ => ?_)
  refine sm_aload_n cx 0 dX11_joins_22 rfl rfl ?_
  refine sm_getR cx fl_X11_22 dX11_joins_23 (fun v23 => ?_)
  refine sm_iload_n cx 1 dX11_joins_26 rfl rfl ?_
  refine sm_iload_n cx 2 dX11_joins_27 rfl rfl ?_
  refine sm_iload_n cx 3 dX11_joins_28 rfl rfl ?_
  refine sm_callV (T := TX3) (N := 3) (toV := vI) cx [.int x1, .int x2, .int x3] rfl cv_X11_147 (fun a h => ct_X3_putMachine (xZ X) a h x1 x2 x3) (Nat.le_trans (by decide) hfr) (Nat.le_trans (by decide) hlo) rfl (cat_le _ (Nat.le_of_ble_eq_true rfl)) dX11_joins_29 (fun v29 => ?_)
  exact sx_zret cx hr dX11_joins_32
set_option maxRecDepth 100000 in
set_option maxHeartbeats 4000000 in
theorem ct_X11_joins (Z : Nat → Nat) {r0 : Option Nat} (a0 : Nat) (h0 : r0 = some a0) (x1 : Int32) (x2 : Int32) (x3 : Int32) : CtX yX11_joins cX11_joins 4 (some .boolean) 7 111 Z [.ref a0, .int x1, .int x2, .int x3] vI (f_X11_joins r0 x1 x2 x3) := by
  subst h0
  refine ctx_of (lv0 := [(0, va_rf (some a0)), (1, .int x1), (2, .int x2), (3, .int x3)]) (by decide +kernel) (by simp [lg_sl, ct_i, ct_l, ct_r, rf_cat]) (by show _ = ([(0, Value.ref a0), (1, .int x1), (2, .int x2), (3, .int x3)] : List (Nat × Value)); simp [lv_args, ct_i, ct_l, ct_r, rf_cat]) (fun X cx hZ hfr hlo hr hth => ?_)
  subst hZ
  exact s_X11_joins cx (Nat.le_of_eq hfr.symm) (Nat.le_of_eq hlo.symm) hr hth (some a0) x1 x2 x3
/-! PolicyTree.within(IIZ)Z -/
theorem dX11_within_0 : decode cX11_within 0 = .ok (.iload_n 1, 1) := by decide +kernel
theorem dX11_within_1 : decode cX11_within 1 = .ok (.aload_n 0, 1) := by decide +kernel
theorem dX11_within_2 : decode cX11_within 2 = .ok (.getfield 22, 3) := by decide +kernel
theorem dX11_within_5 : decode cX11_within 5 = .ok (.invokevirtual 144, 3) := by decide +kernel
theorem dX11_within_8 : decode cX11_within 8 = .ok (.invokestatic 92, 3) := by decide +kernel
theorem dX11_within_11 : decode cX11_within 11 = .ok (.iload_n 2, 1) := by decide +kernel
theorem dX11_within_12 : decode cX11_within 12 = .ok (.aload_n 0, 1) := by decide +kernel
theorem dX11_within_13 : decode cX11_within 13 = .ok (.getfield 22, 3) := by decide +kernel
theorem dX11_within_16 : decode cX11_within 16 = .ok (.invokevirtual 144, 3) := by decide +kernel
theorem dX11_within_19 : decode cX11_within 19 = .ok (.invokestatic 92, 3) := by decide +kernel
theorem dX11_within_22 : decode cX11_within 22 = .ok (.aload_n 0, 1) := by decide +kernel
theorem dX11_within_23 : decode cX11_within 23 = .ok (.getfield 22, 3) := by decide +kernel
theorem dX11_within_26 : decode cX11_within 26 = .ok (.iload_n 1, 1) := by decide +kernel
theorem dX11_within_27 : decode cX11_within 27 = .ok (.iload_n 2, 1) := by decide +kernel
theorem dX11_within_28 : decode cX11_within 28 = .ok (.iload_n 3, 1) := by decide +kernel
theorem dX11_within_29 : decode cX11_within 29 = .ok (.invokevirtual 151, 3) := by decide +kernel
theorem dX11_within_32 : decode cX11_within 32 = .ok (.ireturn, 1) := by decide +kernel
def f_X11_within (r0 : Option Nat) (x1 : Int32) (x2 : Int32) (x3 : Int32) : Mo (Int32 ⊕ String) := mb (gR 14 2 r0) (fun v2 => mb (mo 6 v2 (f_X3_size v2)) (fun v5 => mx (f_X11_needNumber x1 v5) (fun _ => mb (gR 14 2 r0) (fun v13 => mb (mo 6 v13 (f_X3_size v13)) (fun v16 => mx (f_X11_needNumber x2 v16) (fun _ => mb (gR 14 2 r0) (fun v23 => mb (mo 6 v23 (f_X3_putGroup v23 x1 x2 x3)) (fun v29 => rzX .boolean v29))))))))
set_option maxRecDepth 100000 in
set_option maxHeartbeats 4000000 in
theorem s_X11_within {X : Cg} (cx : Cx X cX11_within RX11 4) (hfr : 7 ≤ (xR X).frames) (hlo : 111 ≤ (xR X).locals) (hr : (xM X).sig.returnType = (some .boolean)) (hth : (xL X).stackTraces = false ∧ (∀ x ∈ (xC X).exceptionTable.toList, False)) (r0 : Option Nat) (x1 : Int32) (x2 : Int32) (x3 : Int32) : Sim X 4 (FiX X vI) 0 [(0, va_rf r0), (1, .int x1), (2, .int x2), (3, .int x3)] [] (f_X11_within r0 x1 x2 x3) := by
  unfold f_X11_within
  refine sm_iload_n cx 1 dX11_within_0 rfl rfl ?_
  refine sm_aload_n cx 0 dX11_within_1 rfl rfl ?_
  refine sm_getR cx fl_X11_22 dX11_within_2 (fun v2 => ?_)
  refine sm_callV (T := TX3) (N := 3) (toV := vI) cx [] rfl cv_X11_144 (fun a h => ct_X3_size (xZ X) a h) (Nat.le_trans (by decide) hfr) (Nat.le_trans (by decide) hlo) rfl (cat_le _ (Nat.le_of_ble_eq_true rfl)) dX11_within_5 (fun v5 => ?_)
  refine sm_callSX (toV := vV) cx hth [.int x1, .int v5] cs_X11_92 (ct_X11_needNumber (xZ X) x1 v5) (Nat.le_trans (by decide) hfr) (Nat.le_trans (by decide) hlo) rfl (cat_le _ (Nat.le_of_ble_eq_true rfl)) dX11_within_8 (fun _ => ?_)
  refine sm_iload_n cx 2 dX11_within_11 rfl rfl ?_
  refine sm_aload_n cx 0 dX11_within_12 rfl rfl ?_
  refine sm_getR cx fl_X11_22 dX11_within_13 (fun v13 => ?_)
  refine sm_callV (T := TX3) (N := 3) (toV := vI) cx [] rfl cv_X11_144 (fun a h => ct_X3_size (xZ X) a h) (Nat.le_trans (by decide) hfr) (Nat.le_trans (by decide) hlo) rfl (cat_le _ (Nat.le_of_ble_eq_true rfl)) dX11_within_16 (fun v16 => ?_)
  refine sm_callSX (toV := vV) cx hth [.int x2, .int v16] cs_X11_92 (ct_X11_needNumber (xZ X) x2 v16) (Nat.le_trans (by decide) hfr) (Nat.le_trans (by decide) hlo) rfl (cat_le _ (Nat.le_of_ble_eq_true rfl)) dX11_within_19 (fun _ => ?_)
  refine sm_aload_n cx 0 dX11_within_22 rfl rfl ?_
  refine sm_getR cx fl_X11_22 dX11_within_23 (fun v23 => ?_)
  refine sm_iload_n cx 1 dX11_within_26 rfl rfl ?_
  refine sm_iload_n cx 2 dX11_within_27 rfl rfl ?_
  refine sm_iload_n cx 3 dX11_within_28 rfl rfl ?_
  refine sm_callV (T := TX3) (N := 3) (toV := vI) cx [.int x1, .int x2, .int x3] rfl cv_X11_151 (fun a h => ct_X3_putGroup (xZ X) a h x1 x2 x3) (Nat.le_trans (by decide) hfr) (Nat.le_trans (by decide) hlo) rfl (cat_le _ (Nat.le_of_ble_eq_true rfl)) dX11_within_29 (fun v29 => ?_)
  exact sx_zret cx hr dX11_within_32
set_option maxRecDepth 100000 in
set_option maxHeartbeats 4000000 in
theorem ct_X11_within (Z : Nat → Nat) {r0 : Option Nat} (a0 : Nat) (h0 : r0 = some a0) (x1 : Int32) (x2 : Int32) (x3 : Int32) : CtX yX11_within cX11_within 4 (some .boolean) 7 111 Z [.ref a0, .int x1, .int x2, .int x3] vI (f_X11_within r0 x1 x2 x3) := by
  subst h0
  refine ctx_of (lv0 := [(0, va_rf (some a0)), (1, .int x1), (2, .int x2), (3, .int x3)]) (by decide +kernel) (by simp [lg_sl, ct_i, ct_l, ct_r, rf_cat]) (by show _ = ([(0, Value.ref a0), (1, .int x1), (2, .int x2), (3, .int x3)] : List (Nat × Value)); simp [lv_args, ct_i, ct_l, ct_r, rf_cat]) (fun X cx hZ hfr hlo hr hth => ?_)
  subst hZ
  exact s_X11_within cx (Nat.le_of_eq hfr.symm) (Nat.le_of_eq hlo.symm) hr hth (some a0) x1 x2 x3
/-! PolicyTree.member(II)Z -/
theorem dX11_member_0 : decode cX11_member 0 = .ok (.iload_n 1, 1) := by decide +kernel
theorem dX11_member_1 : decode cX11_member 1 = .ok (.aload_n 0, 1) := by decide +kernel
theorem dX11_member_2 : decode cX11_member 2 = .ok (.getfield 22, 3) := by decide +kernel
theorem dX11_member_5 : decode cX11_member 5 = .ok (.invokevirtual 144, 3) := by decide +kernel
theorem dX11_member_8 : decode cX11_member 8 = .ok (.invokestatic 92, 3) := by decide +kernel
theorem dX11_member_11 : decode cX11_member 11 = .ok (.iload_n 2, 1) := by decide +kernel
theorem dX11_member_12 : decode cX11_member 12 = .ok (.aload_n 0, 1) := by decide +kernel
theorem dX11_member_13 : decode cX11_member 13 = .ok (.getfield 16, 3) := by decide +kernel
theorem dX11_member_16 : decode cX11_member 16 = .ok (.invokevirtual 88, 3) := by decide +kernel
theorem dX11_member_19 : decode cX11_member 19 = .ok (.invokestatic 92, 3) := by decide +kernel
theorem dX11_member_22 : decode cX11_member 22 = .ok (.aload_n 0, 1) := by decide +kernel
theorem dX11_member_23 : decode cX11_member 23 = .ok (.getfield 22, 3) := by decide +kernel
theorem dX11_member_26 : decode cX11_member 26 = .ok (.iload_n 2, 1) := by decide +kernel
theorem dX11_member_27 : decode cX11_member 27 = .ok (.invokevirtual 154, 3) := by decide +kernel
theorem dX11_member_30 : decode cX11_member 30 = .ok (.iload_n 1, 1) := by decide +kernel
theorem dX11_member_31 : decode cX11_member 31 = .ok (.iushr, 1) := by decide +kernel
theorem dX11_member_32 : decode cX11_member 32 = .ok (.iconst 1, 1) := by decide +kernel
theorem dX11_member_33 : decode cX11_member 33 = .ok (.iand, 1) := by decide +kernel
theorem dX11_member_34 : decode cX11_member 34 = .ok (.ifCond .eq 7, 3) := by decide +kernel
theorem dX11_member_37 : decode cX11_member 37 = .ok (.iconst 1, 1) := by decide +kernel
theorem dX11_member_38 : decode cX11_member 38 = .ok (.goto 4, 3) := by decide +kernel
theorem dX11_member_41 : decode cX11_member 41 = .ok (.iconst 0, 1) := by decide +kernel
theorem dX11_member_42 : decode cX11_member 42 = .ok (.ireturn, 1) := by decide +kernel
def f_X11_member_42 (sx0 : Int32) : Mo (Int32 ⊕ String) := rzX .boolean sx0
set_option maxRecDepth 100000 in
set_option maxHeartbeats 4000000 in
theorem s_X11_member_42 {X : Cg} (cx : Cx X cX11_member RX11 3) (hfr : 7 ≤ (xR X).frames) (hlo : 111 ≤ (xR X).locals) (hr : (xM X).sig.returnType = (some .boolean)) (hth : (xL X).stackTraces = false ∧ (∀ x ∈ (xC X).exceptionTable.toList, False)) (sx0 : Int32) : Sim X 3 (FiX X vI) 42 [] [.int sx0] (f_X11_member_42 sx0) := by
  unfold f_X11_member_42
  exact sx_zret cx hr dX11_member_42
def f_X11_member (r0 : Option Nat) (x1 : Int32) (x2 : Int32) : Mo (Int32 ⊕ String) := mb (gR 14 2 r0) (fun v2 => mb (mo 6 v2 (f_X3_size v2)) (fun v5 => mx (f_X11_needNumber x1 v5) (fun _ => mb (gR 14 1 r0) (fun v13 => mb (mo 2 v13 (f_Jx4a65c_size_8abf5 v13)) (fun v16 => mx (f_X11_needNumber x2 v16) (fun _ => mb (gR 14 2 r0) (fun v23 => mb (mo 6 v23 (f_X3_groupsOf v23 x2)) (fun v27 => (if ((jSh v27 x1) &&& (1 : Int32)) = 0 then f_X11_member_42 (0 : Int32) else f_X11_member_42 (1 : Int32))))))))))
set_option maxRecDepth 100000 in
set_option maxHeartbeats 4000000 in
theorem s_X11_member {X : Cg} (cx : Cx X cX11_member RX11 3) (hfr : 7 ≤ (xR X).frames) (hlo : 111 ≤ (xR X).locals) (hr : (xM X).sig.returnType = (some .boolean)) (hth : (xL X).stackTraces = false ∧ (∀ x ∈ (xC X).exceptionTable.toList, False)) (r0 : Option Nat) (x1 : Int32) (x2 : Int32) : Sim X 3 (FiX X vI) 0 [(0, va_rf r0), (1, .int x1), (2, .int x2)] [] (f_X11_member r0 x1 x2) := by
  unfold f_X11_member
  refine sm_iload_n cx 1 dX11_member_0 rfl rfl ?_
  refine sm_aload_n cx 0 dX11_member_1 rfl rfl ?_
  refine sm_getR cx fl_X11_22 dX11_member_2 (fun v2 => ?_)
  refine sm_callV (T := TX3) (N := 3) (toV := vI) cx [] rfl cv_X11_144 (fun a h => ct_X3_size (xZ X) a h) (Nat.le_trans (by decide) hfr) (Nat.le_trans (by decide) hlo) rfl (cat_le _ (Nat.le_of_ble_eq_true rfl)) dX11_member_5 (fun v5 => ?_)
  refine sm_callSX (toV := vV) cx hth [.int x1, .int v5] cs_X11_92 (ct_X11_needNumber (xZ X) x1 v5) (Nat.le_trans (by decide) hfr) (Nat.le_trans (by decide) hlo) rfl (cat_le _ (Nat.le_of_ble_eq_true rfl)) dX11_member_8 (fun _ => ?_)
  refine sm_iload_n cx 2 dX11_member_11 rfl rfl ?_
  refine sm_aload_n cx 0 dX11_member_12 rfl rfl ?_
  refine sm_getR cx fl_X11_16 dX11_member_13 (fun v13 => ?_)
  refine sm_callV (T := TJx4a65c) (N := 3) (toV := vI) cx [] rfl cv_X11_88 (fun a h => ct_Jx4a65c_size_8abf5 (xZ X) a h) (Nat.le_trans (by decide) hfr) (Nat.le_trans (by decide) hlo) rfl (cat_le _ (Nat.le_of_ble_eq_true rfl)) dX11_member_16 (fun v16 => ?_)
  refine sm_callSX (toV := vV) cx hth [.int x2, .int v16] cs_X11_92 (ct_X11_needNumber (xZ X) x2 v16) (Nat.le_trans (by decide) hfr) (Nat.le_trans (by decide) hlo) rfl (cat_le _ (Nat.le_of_ble_eq_true rfl)) dX11_member_19 (fun _ => ?_)
  refine sm_aload_n cx 0 dX11_member_22 rfl rfl ?_
  refine sm_getR cx fl_X11_22 dX11_member_23 (fun v23 => ?_)
  refine sm_iload_n cx 2 dX11_member_26 rfl rfl ?_
  refine sm_callV (T := TX3) (N := 3) (toV := vI) cx [.int x2] rfl cv_X11_154 (fun a h => ct_X3_groupsOf (xZ X) a h x2) (Nat.le_trans (by decide) hfr) (Nat.le_trans (by decide) hlo) rfl (cat_le _ (Nat.le_of_ble_eq_true rfl)) dX11_member_27 (fun v27 => ?_)
  refine sm_iload_n cx 1 dX11_member_30 rfl rfl ?_
  refine sm_iushr cx dX11_member_31 ?_
  refine sm_iconst (v := 1) cx dX11_member_32 (by decide) ?_
  refine sm_iand cx dX11_member_33 ?_
  refine sm_if_eq (tgt := 41) cx dX11_member_34 (by decide) ?_ ?_
  · refine sm_iconst (v := 0) cx dX11_member_41 (by decide) ?_
    exact sm_lv [] rfl (s_X11_member_42 cx hfr hlo hr hth (0 : Int32))
  · refine sm_iconst (v := 1) cx dX11_member_37 (by decide) ?_
    refine sm_goto (tgt := 42) cx dX11_member_38 (by decide) ?_
    exact sm_lv [] rfl (s_X11_member_42 cx hfr hlo hr hth (1 : Int32))
set_option maxRecDepth 100000 in
set_option maxHeartbeats 4000000 in
theorem ct_X11_member (Z : Nat → Nat) {r0 : Option Nat} (a0 : Nat) (h0 : r0 = some a0) (x1 : Int32) (x2 : Int32) : CtX yX11_member cX11_member 3 (some .boolean) 7 111 Z [.ref a0, .int x1, .int x2] vI (f_X11_member r0 x1 x2) := by
  subst h0
  refine ctx_of (lv0 := [(0, va_rf (some a0)), (1, .int x1), (2, .int x2)]) (by decide +kernel) (by simp [lg_sl, ct_i, ct_l, ct_r, rf_cat]) (by show _ = ([(0, Value.ref a0), (1, .int x1), (2, .int x2)] : List (Nat × Value)); simp [lv_args, ct_i, ct_l, ct_r, rf_cat]) (fun X cx hZ hfr hlo hr hth => ?_)
  subst hZ
  exact s_X11_member cx (Nat.le_of_eq hfr.symm) (Nat.le_of_eq hlo.symm) hr hth (some a0) x1 x2
/-! PolicyTree.set()I -/
theorem dX11_set_0 : decode cX11_set 0 = .ok (.aload_n 0, 1) := by decide +kernel
theorem dX11_set_1 : decode cX11_set 1 = .ok (.getfield 26, 3) := by decide +kernel
theorem dX11_set_4 : decode cX11_set 4 = .ok (.invokevirtual 88, 3) := by decide +kernel
theorem dX11_set_7 : decode cX11_set 7 = .ok (.bipush 40, 2) := by decide +kernel
theorem dX11_set_9 : decode cX11_set 9 = .ok (.invokestatic 96, 3) := by decide +kernel
theorem dX11_set_12 : decode cX11_set 12 = .ok (.aload_n 0, 1) := by decide +kernel
theorem dX11_set_13 : decode cX11_set 13 = .ok (.getfield 26, 3) := by decide +kernel
theorem dX11_set_16 : decode cX11_set 16 = .ok (.new 157, 3) := by decide +kernel
theorem dX11_set_19 : decode cX11_set 19 = .ok (.dup, 1) := by decide +kernel
theorem dX11_set_20 : decode cX11_set 20 = .ok (.invokespecial 159, 3) := by decide +kernel
theorem dX11_set_23 : decode cX11_set 23 = .ok (.invokevirtual 84, 3) := by decide +kernel
theorem dX11_set_26 : decode cX11_set 26 = .ok (.pop, 1) := by decide +kernel
theorem dX11_set_27 : decode cX11_set 27 = .ok (.aload_n 0, 1) := by decide +kernel
theorem dX11_set_28 : decode cX11_set 28 = .ok (.getfield 26, 3) := by decide +kernel
theorem dX11_set_31 : decode cX11_set 31 = .ok (.invokevirtual 88, 3) := by decide +kernel
theorem dX11_set_34 : decode cX11_set 34 = .ok (.iconst 1, 1) := by decide +kernel
theorem dX11_set_35 : decode cX11_set 35 = .ok (.isub, 1) := by decide +kernel
theorem dX11_set_36 : decode cX11_set 36 = .ok (.ireturn, 1) := by decide +kernel
def f_X11_set (Z : Nat → Nat) (r0 : Option Nat) : Mo (Int32 ⊕ String) := mb (gR 14 3 r0) (fun v1 => mb (mo 2 v1 (f_Jx4a65c_size_8abf5 v1)) (fun v4 => mx (f_X11_needRoom v4 (40 : Int32)) (fun _ => mb (gR 14 3 r0) (fun v13 => mb (nO 3 [.null, .int 0]) (fun v16 => mb (mo 3 v16 (f_X0_init v16)) (fun _ => mb (mo 2 v13 (f_Jx4a65c_add_9ea2d Z v13 v16)) (fun v23 => mb (gR 14 3 r0) (fun v28 => mb (mo 2 v28 (f_Jx4a65c_size_8abf5 v28)) (fun v31 => mp (.inl (v31 - (1 : Int32))))))))))))
set_option maxRecDepth 100000 in
set_option maxHeartbeats 4000000 in
theorem s_X11_set {X : Cg} (cx : Cx X cX11_set RX11 1) (hfr : 7 ≤ (xR X).frames) (hlo : 170 ≤ (xR X).locals) (hr : (xM X).sig.returnType = (some .int)) (hth : (xL X).stackTraces = false ∧ (∀ x ∈ (xC X).exceptionTable.toList, False)) (r0 : Option Nat) : Sim X 1 (FiX X vI) 0 [(0, va_rf r0)] [] (f_X11_set (xZ X) r0) := by
  unfold f_X11_set
  refine sm_aload_n cx 0 dX11_set_0 rfl rfl ?_
  refine sm_getR cx fl_X11_26 dX11_set_1 (fun v1 => ?_)
  refine sm_callV (T := TJx4a65c) (N := 3) (toV := vI) cx [] rfl cv_X11_88 (fun a h => ct_Jx4a65c_size_8abf5 (xZ X) a h) (Nat.le_trans (by decide) hfr) (Nat.le_trans (by decide) hlo) rfl (cat_le _ (Nat.le_of_ble_eq_true rfl)) dX11_set_4 (fun v4 => ?_)
  refine sm_bipush (v := 40) cx dX11_set_7 (by decide) ?_
  refine sm_callSX (toV := vV) cx hth [.int v4, .int (40 : Int32)] cs_X11_96 (ct_X11_needRoom (xZ X) v4 (40 : Int32)) (Nat.le_trans (by decide) hfr) (Nat.le_trans (by decide) hlo) rfl (cat_le _ (Nat.le_of_ble_eq_true rfl)) dX11_set_9 (fun _ => ?_)
  refine sm_aload_n cx 0 dX11_set_12 rfl rfl ?_
  refine sm_getR cx fl_X11_26 dX11_set_13 (fun v13 => ?_)
  refine sm_new cx nw_X11_157 dX11_set_16 (fun v16 => ?_)
  refine sm_dup cx dX11_set_19 (rf_cat _) ?_
  refine sm_callI (ci := 3) (toV := vV) cx [] ci_X11_159 (fun a h => ct_X0_init (xZ X) a h) (Nat.le_trans (by decide) hfr) (Nat.le_trans (by decide) hlo) rfl (cat_le _ (Nat.le_of_ble_eq_true rfl)) dX11_set_20 (fun _ => ?_)
  refine sm_callV (T := TJx4a65c) (N := 3) (toV := vI) cx [va_rf v16] rfl cv_X11_84 (fun a h => ct_Jx4a65c_add_9ea2d (xZ X) a h v16) (Nat.le_trans (by decide) hfr) (Nat.le_trans (by decide) hlo) rfl (cat_le _ (Nat.le_of_ble_eq_true rfl)) dX11_set_23 (fun v23 => ?_)
  refine sm_pop cx dX11_set_26 rfl ?_
  refine sm_aload_n cx 0 dX11_set_27 rfl rfl ?_
  refine sm_getR cx fl_X11_26 dX11_set_28 (fun v28 => ?_)
  refine sm_callV (T := TJx4a65c) (N := 3) (toV := vI) cx [] rfl cv_X11_88 (fun a h => ct_Jx4a65c_size_8abf5 (xZ X) a h) (Nat.le_trans (by decide) hfr) (Nat.le_trans (by decide) hlo) rfl (cat_le _ (Nat.le_of_ble_eq_true rfl)) dX11_set_31 (fun v31 => ?_)
  refine sm_iconst (v := 1) cx dX11_set_34 (by decide) ?_
  refine sm_isub cx dX11_set_35 ?_
  exact sx_iret cx hr dX11_set_36
set_option maxRecDepth 100000 in
set_option maxHeartbeats 4000000 in
theorem ct_X11_set (Z : Nat → Nat) {r0 : Option Nat} (a0 : Nat) (h0 : r0 = some a0) : CtX yX11_set cX11_set 1 (some .int) 7 170 Z [.ref a0] vI (f_X11_set Z r0) := by
  subst h0
  refine ctx_of (lv0 := [(0, va_rf (some a0))]) (by decide +kernel) (by simp [lg_sl, ct_i, ct_l, ct_r, rf_cat]) (by show _ = ([(0, Value.ref a0)] : List (Nat × Value)); simp [lv_args, ct_i, ct_l, ct_r, rf_cat]) (fun X cx hZ hfr hlo hr hth => ?_)
  subst hZ
  exact s_X11_set cx (Nat.le_of_eq hfr.symm) (Nat.le_of_eq hlo.symm) hr hth (some a0)
/-! PolicyTree.tell(III)Z -/
theorem dX11_tell_0 : decode cX11_tell 0 = .ok (.iload_n 1, 1) := by decide +kernel
theorem dX11_tell_1 : decode cX11_tell 1 = .ok (.aload_n 0, 1) := by decide +kernel
theorem dX11_tell_2 : decode cX11_tell 2 = .ok (.getfield 26, 3) := by decide +kernel
theorem dX11_tell_5 : decode cX11_tell 5 = .ok (.invokevirtual 88, 3) := by decide +kernel
theorem dX11_tell_8 : decode cX11_tell 8 = .ok (.invokestatic 92, 3) := by decide +kernel
theorem dX11_tell_11 : decode cX11_tell 11 = .ok (.iload_n 2, 1) := by decide +kernel
theorem dX11_tell_12 : decode cX11_tell 12 = .ok (.bipush 12, 2) := by decide +kernel
theorem dX11_tell_14 : decode cX11_tell 14 = .ok (.invokestatic 127, 3) := by decide +kernel
theorem dX11_tell_17 : decode cX11_tell 17 = .ok (.aload_n 0, 1) := by decide +kernel
theorem dX11_tell_18 : decode cX11_tell 18 = .ok (.getfield 26, 3) := by decide +kernel
theorem dX11_tell_21 : decode cX11_tell 21 = .ok (.iload_n 1, 1) := by decide +kernel
theorem dX11_tell_22 : decode cX11_tell 22 = .ok (.invokevirtual 99, 3) := by decide +kernel
theorem dX11_tell_25 : decode cX11_tell 25 = .ok (.checkcast 157, 3) := by decide +kernel
theorem dX11_tell_28 : decode cX11_tell 28 = .ok (.iload_n 2, 1) := by decide +kernel
theorem dX11_tell_29 : decode cX11_tell 29 = .ok (.iload_n 3, 1) := by decide +kernel
theorem dX11_tell_30 : decode cX11_tell 30 = .ok (.invokevirtual 160, 3) := by decide +kernel
theorem dX11_tell_33 : decode cX11_tell 33 = .ok (.ireturn, 1) := by decide +kernel
def f_X11_tell (r0 : Option Nat) (x1 : Int32) (x2 : Int32) (x3 : Int32) : Mo (Int32 ⊕ String) := mb (gR 14 3 r0) (fun v2 => mb (mo 2 v2 (f_Jx4a65c_size_8abf5 v2)) (fun v5 => mx (f_X11_needNumber x1 v5) (fun _ => mx (f_X11_needChoice x2 (12 : Int32)) (fun _ => mb (gR 14 3 r0) (fun v18 => mb (mo 2 v18 (f_Jx4a65c_get_915e3 v18 x1)) (fun v22 => mb (ck 3 v22) (fun _ => mb (mo 3 v22 (f_X0_put v22 x2 x3)) (fun v30 => rzX .boolean v30))))))))
set_option maxRecDepth 100000 in
set_option maxHeartbeats 4000000 in
theorem s_X11_tell {X : Cg} (cx : Cx X cX11_tell RX11 4) (hfr : 7 ≤ (xR X).frames) (hlo : 111 ≤ (xR X).locals) (hr : (xM X).sig.returnType = (some .boolean)) (hth : (xL X).stackTraces = false ∧ (∀ x ∈ (xC X).exceptionTable.toList, False)) (r0 : Option Nat) (x1 : Int32) (x2 : Int32) (x3 : Int32) : Sim X 4 (FiX X vI) 0 [(0, va_rf r0), (1, .int x1), (2, .int x2), (3, .int x3)] [] (f_X11_tell r0 x1 x2 x3) := by
  unfold f_X11_tell
  refine sm_iload_n cx 1 dX11_tell_0 rfl rfl ?_
  refine sm_aload_n cx 0 dX11_tell_1 rfl rfl ?_
  refine sm_getR cx fl_X11_26 dX11_tell_2 (fun v2 => ?_)
  refine sm_callV (T := TJx4a65c) (N := 3) (toV := vI) cx [] rfl cv_X11_88 (fun a h => ct_Jx4a65c_size_8abf5 (xZ X) a h) (Nat.le_trans (by decide) hfr) (Nat.le_trans (by decide) hlo) rfl (cat_le _ (Nat.le_of_ble_eq_true rfl)) dX11_tell_5 (fun v5 => ?_)
  refine sm_callSX (toV := vV) cx hth [.int x1, .int v5] cs_X11_92 (ct_X11_needNumber (xZ X) x1 v5) (Nat.le_trans (by decide) hfr) (Nat.le_trans (by decide) hlo) rfl (cat_le _ (Nat.le_of_ble_eq_true rfl)) dX11_tell_8 (fun _ => ?_)
  refine sm_iload_n cx 2 dX11_tell_11 rfl rfl ?_
  refine sm_bipush (v := 12) cx dX11_tell_12 (by decide) ?_
  refine sm_callSX (toV := vV) cx hth [.int x2, .int (12 : Int32)] cs_X11_127 (ct_X11_needChoice (xZ X) x2 (12 : Int32)) (Nat.le_trans (by decide) hfr) (Nat.le_trans (by decide) hlo) rfl (cat_le _ (Nat.le_of_ble_eq_true rfl)) dX11_tell_14 (fun _ => ?_)
  refine sm_aload_n cx 0 dX11_tell_17 rfl rfl ?_
  refine sm_getR cx fl_X11_26 dX11_tell_18 (fun v18 => ?_)
  refine sm_iload_n cx 1 dX11_tell_21 rfl rfl ?_
  refine sm_callV (T := TJx4a65c) (N := 3) (toV := vR) cx [.int x1] rfl cv_X11_99 (fun a h => ct_Jx4a65c_get_915e3 (xZ X) a h x1) (Nat.le_trans (by decide) hfr) (Nat.le_trans (by decide) hlo) rfl (cat_le _ (Nat.le_of_ble_eq_true rfl)) dX11_tell_22 (fun v22 => ?_)
  refine sm_ck (T := TX0) (N := 2) cx rfl wd_4_32 dX11_tell_25 ?_
  refine sm_iload_n cx 2 dX11_tell_28 rfl rfl ?_
  refine sm_iload_n cx 3 dX11_tell_29 rfl rfl ?_
  refine sm_callV (T := TX0) (N := 2) (toV := vI) cx [.int x2, .int x3] rfl cv_X11_160 (fun a h => ct_X0_put (xZ X) a h x2 x3) (Nat.le_trans (by decide) hfr) (Nat.le_trans (by decide) hlo) rfl (cat_le _ (Nat.le_of_ble_eq_true rfl)) dX11_tell_30 (fun v30 => ?_)
  exact sx_zret cx hr dX11_tell_33
set_option maxRecDepth 100000 in
set_option maxHeartbeats 4000000 in
theorem ct_X11_tell (Z : Nat → Nat) {r0 : Option Nat} (a0 : Nat) (h0 : r0 = some a0) (x1 : Int32) (x2 : Int32) (x3 : Int32) : CtX yX11_tell cX11_tell 4 (some .boolean) 7 111 Z [.ref a0, .int x1, .int x2, .int x3] vI (f_X11_tell r0 x1 x2 x3) := by
  subst h0
  refine ctx_of (lv0 := [(0, va_rf (some a0)), (1, .int x1), (2, .int x2), (3, .int x3)]) (by decide +kernel) (by simp [lg_sl, ct_i, ct_l, ct_r, rf_cat]) (by show _ = ([(0, Value.ref a0), (1, .int x1), (2, .int x2), (3, .int x3)] : List (Nat × Value)); simp [lv_args, ct_i, ct_l, ct_r, rf_cat]) (fun X cx hZ hfr hlo hr hth => ?_)
  subst hZ
  exact s_X11_tell cx (Nat.le_of_eq hfr.symm) (Nat.le_of_eq hlo.symm) hr hth (some a0) x1 x2 x3
/-! PolicyTree.untell(II)Z -/
theorem dX11_untell_0 : decode cX11_untell 0 = .ok (.iload_n 1, 1) := by decide +kernel
theorem dX11_untell_1 : decode cX11_untell 1 = .ok (.aload_n 0, 1) := by decide +kernel
theorem dX11_untell_2 : decode cX11_untell 2 = .ok (.getfield 26, 3) := by decide +kernel
theorem dX11_untell_5 : decode cX11_untell 5 = .ok (.invokevirtual 88, 3) := by decide +kernel
theorem dX11_untell_8 : decode cX11_untell 8 = .ok (.invokestatic 92, 3) := by decide +kernel
theorem dX11_untell_11 : decode cX11_untell 11 = .ok (.iload_n 2, 1) := by decide +kernel
theorem dX11_untell_12 : decode cX11_untell 12 = .ok (.bipush 12, 2) := by decide +kernel
theorem dX11_untell_14 : decode cX11_untell 14 = .ok (.invokestatic 127, 3) := by decide +kernel
theorem dX11_untell_17 : decode cX11_untell 17 = .ok (.aload_n 0, 1) := by decide +kernel
theorem dX11_untell_18 : decode cX11_untell 18 = .ok (.getfield 26, 3) := by decide +kernel
theorem dX11_untell_21 : decode cX11_untell 21 = .ok (.iload_n 1, 1) := by decide +kernel
theorem dX11_untell_22 : decode cX11_untell 22 = .ok (.invokevirtual 99, 3) := by decide +kernel
theorem dX11_untell_25 : decode cX11_untell 25 = .ok (.checkcast 157, 3) := by decide +kernel
theorem dX11_untell_28 : decode cX11_untell 28 = .ok (.iload_n 2, 1) := by decide +kernel
theorem dX11_untell_29 : decode cX11_untell 29 = .ok (.invokevirtual 164, 3) := by decide +kernel
theorem dX11_untell_32 : decode cX11_untell 32 = .ok (.ireturn, 1) := by decide +kernel
def f_X11_untell (r0 : Option Nat) (x1 : Int32) (x2 : Int32) : Mo (Int32 ⊕ String) := mb (gR 14 3 r0) (fun v2 => mb (mo 2 v2 (f_Jx4a65c_size_8abf5 v2)) (fun v5 => mx (f_X11_needNumber x1 v5) (fun _ => mx (f_X11_needChoice x2 (12 : Int32)) (fun _ => mb (gR 14 3 r0) (fun v18 => mb (mo 2 v18 (f_Jx4a65c_get_915e3 v18 x1)) (fun v22 => mb (ck 3 v22) (fun _ => mb (mo 3 v22 (f_X0_drop v22 x2)) (fun v29 => rzX .boolean v29))))))))
set_option maxRecDepth 100000 in
set_option maxHeartbeats 4000000 in
theorem s_X11_untell {X : Cg} (cx : Cx X cX11_untell RX11 3) (hfr : 7 ≤ (xR X).frames) (hlo : 111 ≤ (xR X).locals) (hr : (xM X).sig.returnType = (some .boolean)) (hth : (xL X).stackTraces = false ∧ (∀ x ∈ (xC X).exceptionTable.toList, False)) (r0 : Option Nat) (x1 : Int32) (x2 : Int32) : Sim X 3 (FiX X vI) 0 [(0, va_rf r0), (1, .int x1), (2, .int x2)] [] (f_X11_untell r0 x1 x2) := by
  unfold f_X11_untell
  refine sm_iload_n cx 1 dX11_untell_0 rfl rfl ?_
  refine sm_aload_n cx 0 dX11_untell_1 rfl rfl ?_
  refine sm_getR cx fl_X11_26 dX11_untell_2 (fun v2 => ?_)
  refine sm_callV (T := TJx4a65c) (N := 3) (toV := vI) cx [] rfl cv_X11_88 (fun a h => ct_Jx4a65c_size_8abf5 (xZ X) a h) (Nat.le_trans (by decide) hfr) (Nat.le_trans (by decide) hlo) rfl (cat_le _ (Nat.le_of_ble_eq_true rfl)) dX11_untell_5 (fun v5 => ?_)
  refine sm_callSX (toV := vV) cx hth [.int x1, .int v5] cs_X11_92 (ct_X11_needNumber (xZ X) x1 v5) (Nat.le_trans (by decide) hfr) (Nat.le_trans (by decide) hlo) rfl (cat_le _ (Nat.le_of_ble_eq_true rfl)) dX11_untell_8 (fun _ => ?_)
  refine sm_iload_n cx 2 dX11_untell_11 rfl rfl ?_
  refine sm_bipush (v := 12) cx dX11_untell_12 (by decide) ?_
  refine sm_callSX (toV := vV) cx hth [.int x2, .int (12 : Int32)] cs_X11_127 (ct_X11_needChoice (xZ X) x2 (12 : Int32)) (Nat.le_trans (by decide) hfr) (Nat.le_trans (by decide) hlo) rfl (cat_le _ (Nat.le_of_ble_eq_true rfl)) dX11_untell_14 (fun _ => ?_)
  refine sm_aload_n cx 0 dX11_untell_17 rfl rfl ?_
  refine sm_getR cx fl_X11_26 dX11_untell_18 (fun v18 => ?_)
  refine sm_iload_n cx 1 dX11_untell_21 rfl rfl ?_
  refine sm_callV (T := TJx4a65c) (N := 3) (toV := vR) cx [.int x1] rfl cv_X11_99 (fun a h => ct_Jx4a65c_get_915e3 (xZ X) a h x1) (Nat.le_trans (by decide) hfr) (Nat.le_trans (by decide) hlo) rfl (cat_le _ (Nat.le_of_ble_eq_true rfl)) dX11_untell_22 (fun v22 => ?_)
  refine sm_ck (T := TX0) (N := 2) cx rfl wd_4_32 dX11_untell_25 ?_
  refine sm_iload_n cx 2 dX11_untell_28 rfl rfl ?_
  refine sm_callV (T := TX0) (N := 2) (toV := vI) cx [.int x2] rfl cv_X11_164 (fun a h => ct_X0_drop (xZ X) a h x2) (Nat.le_trans (by decide) hfr) (Nat.le_trans (by decide) hlo) rfl (cat_le _ (Nat.le_of_ble_eq_true rfl)) dX11_untell_29 (fun v29 => ?_)
  exact sx_zret cx hr dX11_untell_32
set_option maxRecDepth 100000 in
set_option maxHeartbeats 4000000 in
theorem ct_X11_untell (Z : Nat → Nat) {r0 : Option Nat} (a0 : Nat) (h0 : r0 = some a0) (x1 : Int32) (x2 : Int32) : CtX yX11_untell cX11_untell 3 (some .boolean) 7 111 Z [.ref a0, .int x1, .int x2] vI (f_X11_untell r0 x1 x2) := by
  subst h0
  refine ctx_of (lv0 := [(0, va_rf (some a0)), (1, .int x1), (2, .int x2)]) (by decide +kernel) (by simp [lg_sl, ct_i, ct_l, ct_r, rf_cat]) (by show _ = ([(0, Value.ref a0), (1, .int x1), (2, .int x2)] : List (Nat × Value)); simp [lv_args, ct_i, ct_l, ct_r, rf_cat]) (fun X cx hZ hfr hlo hr hth => ?_)
  subst hZ
  exact s_X11_untell cx (Nat.le_of_eq hfr.symm) (Nat.le_of_eq hlo.symm) hr hth (some a0) x1 x2
/-! PolicyTree.law(II)I -/
theorem dX11_law_0 : decode cX11_law 0 = .ok (.iload_n 1, 1) := by decide +kernel
theorem dX11_law_1 : decode cX11_law 1 = .ok (.bipush 12, 2) := by decide +kernel
theorem dX11_law_3 : decode cX11_law 3 = .ok (.invokestatic 127, 3) := by decide +kernel
theorem dX11_law_6 : decode cX11_law 6 = .ok (.iload_n 2, 1) := by decide +kernel
theorem dX11_law_7 : decode cX11_law 7 = .ok (.iconst 3, 1) := by decide +kernel
theorem dX11_law_8 : decode cX11_law 8 = .ok (.invokestatic 127, 3) := by decide +kernel
theorem dX11_law_11 : decode cX11_law 11 = .ok (.aload_n 0, 1) := by decide +kernel
theorem dX11_law_12 : decode cX11_law 12 = .ok (.getfield 32, 3) := by decide +kernel
theorem dX11_law_15 : decode cX11_law 15 = .ok (.iload_n 1, 1) := by decide +kernel
theorem dX11_law_16 : decode cX11_law 16 = .ok (.iaload, 1) := by decide +kernel
theorem dX11_law_17 : decode cX11_law 17 = .ok (.istore_n 3, 1) := by decide +kernel
theorem dX11_law_18 : decode cX11_law 18 = .ok (.aload_n 0, 1) := by decide +kernel
theorem dX11_law_19 : decode cX11_law 19 = .ok (.getfield 32, 3) := by decide +kernel
theorem dX11_law_22 : decode cX11_law 22 = .ok (.iload_n 1, 1) := by decide +kernel
theorem dX11_law_23 : decode cX11_law 23 = .ok (.iload_n 2, 1) := by decide +kernel
theorem dX11_law_24 : decode cX11_law 24 = .ok (.iastore, 1) := by decide +kernel
theorem dX11_law_25 : decode cX11_law 25 = .ok (.iload_n 3, 1) := by decide +kernel
theorem dX11_law_26 : decode cX11_law 26 = .ok (.ireturn, 1) := by decide +kernel
def f_X11_law (r0 : Option Nat) (x1 : Int32) (x2 : Int32) : Mo (Int32 ⊕ String) := mx (f_X11_needChoice x1 (12 : Int32)) (fun _ => mx (f_X11_needChoice x2 (3 : Int32)) (fun _ => mb (gR 14 5 r0) (fun v12 => mb (aI 1 v12 x1) (fun v16 => mb (gR 14 5 r0) (fun v19 => mb (sI 1 v19 x1 x2) (fun _ => mp (.inl v16)))))))
set_option maxRecDepth 100000 in
set_option maxHeartbeats 4000000 in
theorem s_X11_law {X : Cg} (cx : Cx X cX11_law RX11 4) (hfr : 7 ≤ (xR X).frames) (hlo : 111 ≤ (xR X).locals) (hr : (xM X).sig.returnType = (some .int)) (hth : (xL X).stackTraces = false ∧ (∀ x ∈ (xC X).exceptionTable.toList, False)) (r0 : Option Nat) (x1 : Int32) (x2 : Int32) : Sim X 4 (FiX X vI) 0 [(0, va_rf r0), (1, .int x1), (2, .int x2)] [] (f_X11_law r0 x1 x2) := by
  unfold f_X11_law
  refine sm_iload_n cx 1 dX11_law_0 rfl rfl ?_
  refine sm_bipush (v := 12) cx dX11_law_1 (by decide) ?_
  refine sm_callSX (toV := vV) cx hth [.int x1, .int (12 : Int32)] cs_X11_127 (ct_X11_needChoice (xZ X) x1 (12 : Int32)) (Nat.le_trans (by decide) hfr) (Nat.le_trans (by decide) hlo) rfl (cat_le _ (Nat.le_of_ble_eq_true rfl)) dX11_law_3 (fun _ => ?_)
  refine sm_iload_n cx 2 dX11_law_6 rfl rfl ?_
  refine sm_iconst (v := 3) cx dX11_law_7 (by decide) ?_
  refine sm_callSX (toV := vV) cx hth [.int x2, .int (3 : Int32)] cs_X11_127 (ct_X11_needChoice (xZ X) x2 (3 : Int32)) (Nat.le_trans (by decide) hfr) (Nat.le_trans (by decide) hlo) rfl (cat_le _ (Nat.le_of_ble_eq_true rfl)) dX11_law_8 (fun _ => ?_)
  refine sm_aload_n cx 0 dX11_law_11 rfl rfl ?_
  refine sm_getR cx fl_X11_32 dX11_law_12 (fun v12 => ?_)
  refine sm_iload_n cx 1 dX11_law_15 rfl rfl ?_
  refine sm_iald cx dX11_law_16 (fun v16 => ?_)
  refine sm_istore_n cx [(3, .int v16), (0, va_rf r0), (1, .int x1), (2, .int x2)] dX11_law_17 rfl (by decide) rfl (nc1 rfl) rfl ?_
  refine sm_aload_n cx 1 dX11_law_18 rfl rfl ?_
  refine sm_getR cx fl_X11_32 dX11_law_19 (fun v19 => ?_)
  refine sm_iload_n cx 2 dX11_law_22 rfl rfl ?_
  refine sm_iload_n cx 3 dX11_law_23 rfl rfl ?_
  refine sm_iast cx dX11_law_24 ?_
  refine sm_iload_n cx 0 dX11_law_25 rfl rfl ?_
  exact sx_iret cx hr dX11_law_26
set_option maxRecDepth 100000 in
set_option maxHeartbeats 4000000 in
theorem ct_X11_law (Z : Nat → Nat) {r0 : Option Nat} (a0 : Nat) (h0 : r0 = some a0) (x1 : Int32) (x2 : Int32) : CtX yX11_law cX11_law 4 (some .int) 7 111 Z [.ref a0, .int x1, .int x2] vI (f_X11_law r0 x1 x2) := by
  subst h0
  refine ctx_of (lv0 := [(0, va_rf (some a0)), (1, .int x1), (2, .int x2)]) (by decide +kernel) (by simp [lg_sl, ct_i, ct_l, ct_r, rf_cat]) (by show _ = ([(0, Value.ref a0), (1, .int x1), (2, .int x2)] : List (Nat × Value)); simp [lv_args, ct_i, ct_l, ct_r, rf_cat]) (fun X cx hZ hfr hlo hr hth => ?_)
  subst hZ
  exact s_X11_law cx (Nat.le_of_eq hfr.symm) (Nat.le_of_eq hlo.symm) hr hth (some a0) x1 x2
