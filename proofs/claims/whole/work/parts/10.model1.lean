theorem inT_X12 : ∀ w ∈ u_ws RX12 TX12 47, w ∈ TB := by
  intro w h
  obtain ⟨k, hk, rfl⟩ := List.mem_map.mp h
  have hk := List.mem_range.mp hk
  match k, hk with
  | 0, _ => exact wd_6_174
  | 1, _ => exact wd_6_176
  | 2, _ => exact wd_6_178
  | 3, _ => exact wd_6_180
  | 4, _ => exact wd_6_182
  | 5, _ => exact wd_6_184
  | 6, _ => exact wd_6_186
  | 7, _ => exact wd_6_188
  | 8, _ => exact wd_6_190
  | 9, _ => exact wd_6_192
  | 10, _ => exact wd_6_194
  | 11, _ => exact wd_6_196
  | 12, _ => exact wd_6_198
  | 13, _ => exact wd_6_200
  | 14, _ => exact wd_6_202
  | 15, _ => exact wd_6_204
  | 16, _ => exact wd_6_206
  | 17, _ => exact wd_6_208
  | 18, _ => exact wd_6_210
  | 19, _ => exact wd_6_212
  | 20, _ => exact wd_6_214
  | 21, _ => exact wd_6_216
  | 22, _ => exact wd_6_218
  | 23, _ => exact wd_6_220
  | 24, _ => exact wd_6_222
  | 25, _ => exact wd_6_224
  | 26, _ => exact wd_6_226
  | 27, _ => exact wd_6_228
  | 28, _ => exact wd_6_230
  | 29, _ => exact wd_6_232
  | 30, _ => exact wd_6_234
  | 31, _ => exact wd_6_236
  | 32, _ => exact wd_6_238
  | 33, _ => exact wd_7_0
  | 34, _ => exact wd_7_2
  | 35, _ => exact wd_7_4
  | 36, _ => exact wd_7_6
  | 37, _ => exact wd_7_8
  | 38, _ => exact wd_7_10
  | 39, _ => exact wd_7_12
  | 40, _ => exact wd_7_14
  | 41, _ => exact wd_7_16
  | 42, _ => exact wd_7_18
  | 43, _ => exact wd_7_20
  | 44, _ => exact wd_7_22
  | 45, _ => exact wd_7_24
  | 46, _ => exact wd_7_26
  | k + 47, hk => exact absurd hk (by omega)
theorem fl_X12_97 : FldOk RX12 97 15 0 .int false true := ⟨RX12, TX12, 47, "PolicyTreeModel", tyX12, rfl, by decide, inT_X12, tyX12_ok, nmX12, wd_6_127, Or.inl rfl, tyX12_ok 0 (by decide), rfl, fun _ => rfl⟩
theorem fl_X12_9 : FldOk RX12 9 15 1 (.array .int) true true := ⟨RX12, TX12, 47, "PolicyTreeModel", tyX12, rfl, by decide, inT_X12, tyX12_ok, nmX12, wd_6_128, Or.inl rfl, tyX12_ok 1 (by decide), rfl, fun _ => rfl⟩
theorem fl_X12_94 : FldOk RX12 94 15 3 .int false true := ⟨RX12, TX12, 47, "PolicyTreeModel", tyX12, rfl, by decide, inT_X12, tyX12_ok, nmX12, wd_6_130, Or.inl rfl, tyX12_ok 3 (by decide), rfl, fun _ => rfl⟩
theorem fl_X12_13 : FldOk RX12 13 15 2 (.array .boolean) true true := ⟨RX12, TX12, 47, "PolicyTreeModel", tyX12, rfl, by decide, inT_X12, tyX12_ok, nmX12, wd_6_129, Or.inl rfl, tyX12_ok 2 (by decide), rfl, fun _ => rfl⟩
theorem cv_X12_104 : CalV RX12 104 RX12 yX12_bad cX12_bad 3 (some .boolean) 2 := ⟨wd_V wd_7_42 wd_7_44 wp_3_0 wd_1_16 wd_7_45, rfl, by decide +kernel, by decide +kernel, by decide +kernel⟩
theorem cv_X12_100 : CalV RX12 100 RX12 yX12_none cX12_none 3 (some .boolean) 2 := ⟨wd_V wd_7_38 wd_7_40 wp_2_15 wd_1_16 wd_7_41, rfl, by decide +kernel, by decide +kernel, by decide +kernel⟩
/-! PolicyTreeModel.thrown()I -/
theorem dX12_thrown_0 : decode cX12_thrown 0 = .ok (.aload_n 0, 1) := by decide +kernel
theorem dX12_thrown_1 : decode cX12_thrown 1 = .ok (.getfield 97, 3) := by decide +kernel
theorem dX12_thrown_4 : decode cX12_thrown 4 = .ok (.ireturn, 1) := by decide +kernel
def f_X12_thrown (r0 : Option Nat) : Mo Int32 := mb (gI 15 0 r0) (fun v1 => mp v1)
set_option maxRecDepth 100000 in
set_option maxHeartbeats 4000000 in
theorem s_X12_thrown {X : Cg} (cx : Cx X cX12_thrown RX12 1) (hfr : 0 ≤ (xR X).frames) (hlo : 0 ≤ (xR X).locals) (hr : (xM X).sig.returnType = (some .int)) (r0 : Option Nat) : Sim X 1 (FiM X vI) 0 [(0, va_rf r0)] [] (f_X12_thrown r0) := by
  unfold f_X12_thrown
  refine sm_aload_n cx 0 dX12_thrown_0 rfl rfl ?_
  refine sm_getI cx fl_X12_97 dX12_thrown_1 (fun v1 => ?_)
  exact sm_iret cx hr dX12_thrown_4
set_option maxRecDepth 100000 in
set_option maxHeartbeats 4000000 in
theorem ct_X12_thrown (Z : Nat → Nat) {r0 : Option Nat} (a0 : Nat) (h0 : r0 = some a0) : Ct yX12_thrown cX12_thrown 1 (some .int) 0 0 Z [.ref a0] vI (f_X12_thrown r0) := by
  subst h0
  refine ct_of (lv0 := [(0, va_rf (some a0))]) (by decide +kernel) (by simp [lg_sl, Value.category, rf_cat]) (by show _ = [(0, Value.ref a0)]; simp [lv_args, Value.category, rf_cat]) (fun X cx hZ hfr hlo hr hin => ?_)
  subst hZ
  exact s_X12_thrown cx (Nat.le_of_eq hfr.symm) (Nat.le_of_eq hlo.symm) hr (some a0)
/-! PolicyTreeModel.bad(ZI)Z -/
theorem dX12_bad_0 : decode cX12_bad 0 = .ok (.iload_n 1, 1) := by decide +kernel
theorem dX12_bad_1 : decode cX12_bad 1 = .ok (.ifCond .eq 8, 3) := by decide +kernel
theorem dX12_bad_4 : decode cX12_bad 4 = .ok (.aload_n 0, 1) := by decide +kernel
theorem dX12_bad_5 : decode cX12_bad 5 = .ok (.iload_n 2, 1) := by decide +kernel
theorem dX12_bad_6 : decode cX12_bad 6 = .ok (.putfield 97, 3) := by decide +kernel
theorem dX12_bad_9 : decode cX12_bad 9 = .ok (.iload_n 1, 1) := by decide +kernel
theorem dX12_bad_10 : decode cX12_bad 10 = .ok (.ireturn, 1) := by decide +kernel
def f_X12_bad_9 (x1 : Int32) : Mo Int32 := rz .boolean x1
set_option maxRecDepth 100000 in
set_option maxHeartbeats 4000000 in
theorem s_X12_bad_9 {X : Cg} (cx : Cx X cX12_bad RX12 3) (hfr : 0 ≤ (xR X).frames) (hlo : 0 ≤ (xR X).locals) (hr : (xM X).sig.returnType = (some .boolean)) (x1 : Int32) : Sim X 3 (FiM X vI) 9 [(1, .int x1)] [] (f_X12_bad_9 x1) := by
  unfold f_X12_bad_9
  refine sm_iload_n cx 0 dX12_bad_9 rfl rfl ?_
  exact sm_zret cx hr dX12_bad_10
def f_X12_bad (r0 : Option Nat) (x1 : Int32) (x2 : Int32) : Mo Int32 := (if x1 = 0 then f_X12_bad_9 x1 else mb (pV 15 0 r0 (.int x2)) (fun _ => f_X12_bad_9 x1))
set_option maxRecDepth 100000 in
set_option maxHeartbeats 4000000 in
theorem s_X12_bad {X : Cg} (cx : Cx X cX12_bad RX12 3) (hfr : 0 ≤ (xR X).frames) (hlo : 0 ≤ (xR X).locals) (hr : (xM X).sig.returnType = (some .boolean)) (r0 : Option Nat) (x1 : Int32) (x2 : Int32) : Sim X 3 (FiM X vI) 0 [(0, va_rf r0), (1, .int x1), (2, .int x2)] [] (f_X12_bad r0 x1 x2) := by
  unfold f_X12_bad
  refine sm_iload_n cx 1 dX12_bad_0 rfl rfl ?_
  refine sm_if_eq (tgt := 9) cx dX12_bad_1 (by decide) ?_ ?_
  · exact sm_lv [1] rfl (s_X12_bad_9 cx hfr hlo hr x1)
  · refine sm_aload_n cx 0 dX12_bad_4 rfl rfl ?_
    refine sm_iload_n cx 2 dX12_bad_5 rfl rfl ?_
    refine sm_putV cx fl_X12_97 rfl rfl dX12_bad_6 ?_
    exact sm_lv [1] rfl (s_X12_bad_9 cx hfr hlo hr x1)
set_option maxRecDepth 100000 in
set_option maxHeartbeats 4000000 in
theorem ct_X12_bad (Z : Nat → Nat) {r0 : Option Nat} (a0 : Nat) (h0 : r0 = some a0) (x1 : Int32) (x2 : Int32) : Ct yX12_bad cX12_bad 3 (some .boolean) 0 0 Z [.ref a0, .int x1, .int x2] vI (f_X12_bad r0 x1 x2) := by
  subst h0
  refine ct_of (lv0 := [(0, va_rf (some a0)), (1, .int x1), (2, .int x2)]) (by decide +kernel) (by simp [lg_sl, Value.category, rf_cat]) (by show _ = [(0, Value.ref a0), (1, .int x1), (2, .int x2)]; simp [lv_args, Value.category, rf_cat]) (fun X cx hZ hfr hlo hr hin => ?_)
  subst hZ
  exact s_X12_bad cx (Nat.le_of_eq hfr.symm) (Nat.le_of_eq hlo.symm) hr (some a0) x1 x2
/-! PolicyTreeModel.none(II)Z -/
theorem dX12_none_0 : decode cX12_none 0 = .ok (.iload_n 1, 1) := by decide +kernel
theorem dX12_none_1 : decode cX12_none 1 = .ok (.ifCond .lt 8, 3) := by decide +kernel
theorem dX12_none_4 : decode cX12_none 4 = .ok (.iload_n 1, 1) := by decide +kernel
theorem dX12_none_5 : decode cX12_none 5 = .ok (.iload_n 2, 1) := by decide +kernel
theorem dX12_none_6 : decode cX12_none 6 = .ok (.if_icmp .lt 8, 3) := by decide +kernel
theorem dX12_none_9 : decode cX12_none 9 = .ok (.aload_n 0, 1) := by decide +kernel
theorem dX12_none_10 : decode cX12_none 10 = .ok (.iconst 1, 1) := by decide +kernel
theorem dX12_none_11 : decode cX12_none 11 = .ok (.putfield 97, 3) := by decide +kernel
theorem dX12_none_14 : decode cX12_none 14 = .ok (.aload_n 0, 1) := by decide +kernel
theorem dX12_none_15 : decode cX12_none 15 = .ok (.getfield 97, 3) := by decide +kernel
theorem dX12_none_18 : decode cX12_none 18 = .ok (.ifCond .le 7, 3) := by decide +kernel
theorem dX12_none_21 : decode cX12_none 21 = .ok (.iconst 1, 1) := by decide +kernel
theorem dX12_none_22 : decode cX12_none 22 = .ok (.goto 4, 3) := by decide +kernel
theorem dX12_none_25 : decode cX12_none 25 = .ok (.iconst 0, 1) := by decide +kernel
theorem dX12_none_26 : decode cX12_none 26 = .ok (.ireturn, 1) := by decide +kernel
def f_X12_none_26 (sx0 : Int32) : Mo Int32 := rz .boolean sx0
set_option maxRecDepth 100000 in
set_option maxHeartbeats 4000000 in
theorem s_X12_none_26 {X : Cg} (cx : Cx X cX12_none RX12 3) (hfr : 0 ≤ (xR X).frames) (hlo : 0 ≤ (xR X).locals) (hr : (xM X).sig.returnType = (some .boolean)) (sx0 : Int32) : Sim X 3 (FiM X vI) 26 [] [.int sx0] (f_X12_none_26 sx0) := by
  unfold f_X12_none_26
  exact sm_zret cx hr dX12_none_26
def f_X12_none_14 (r0 : Option Nat) : Mo Int32 := mb (gI 15 0 r0) (fun v15 => (if v15 ≤ 0 then f_X12_none_26 (0 : Int32) else f_X12_none_26 (1 : Int32)))
set_option maxRecDepth 100000 in
set_option maxHeartbeats 4000000 in
theorem s_X12_none_14 {X : Cg} (cx : Cx X cX12_none RX12 3) (hfr : 0 ≤ (xR X).frames) (hlo : 0 ≤ (xR X).locals) (hr : (xM X).sig.returnType = (some .boolean)) (r0 : Option Nat) : Sim X 3 (FiM X vI) 14 [(0, va_rf r0)] [] (f_X12_none_14 r0) := by
  unfold f_X12_none_14
  refine sm_aload_n cx 0 dX12_none_14 rfl rfl ?_
  refine sm_getI cx fl_X12_97 dX12_none_15 (fun v15 => ?_)
  refine sm_if_le (tgt := 25) cx dX12_none_18 (by decide) ?_ ?_
  · refine sm_iconst (v := 0) cx dX12_none_25 (by decide) ?_
    exact sm_lv [] rfl (s_X12_none_26 cx hfr hlo hr (0 : Int32))
  · refine sm_iconst (v := 1) cx dX12_none_21 (by decide) ?_
    refine sm_goto (tgt := 26) cx dX12_none_22 (by decide) ?_
    exact sm_lv [] rfl (s_X12_none_26 cx hfr hlo hr (1 : Int32))
def f_X12_none_9 (r0 : Option Nat) : Mo Int32 := mb (pV 15 0 r0 (.int (1 : Int32))) (fun _ => f_X12_none_14 r0)
set_option maxRecDepth 100000 in
set_option maxHeartbeats 4000000 in
theorem s_X12_none_9 {X : Cg} (cx : Cx X cX12_none RX12 3) (hfr : 0 ≤ (xR X).frames) (hlo : 0 ≤ (xR X).locals) (hr : (xM X).sig.returnType = (some .boolean)) (r0 : Option Nat) : Sim X 3 (FiM X vI) 9 [(0, va_rf r0)] [] (f_X12_none_9 r0) := by
  unfold f_X12_none_9
  refine sm_aload_n cx 0 dX12_none_9 rfl rfl ?_
  refine sm_iconst (v := 1) cx dX12_none_10 (by decide) ?_
  refine sm_putV cx fl_X12_97 rfl rfl dX12_none_11 ?_
  exact sm_lv [0] rfl (s_X12_none_14 cx hfr hlo hr r0)
def f_X12_none (r0 : Option Nat) (x1 : Int32) (x2 : Int32) : Mo Int32 := (if x1 < 0 then f_X12_none_9 r0 else (if x1 < x2 then f_X12_none_14 r0 else f_X12_none_9 r0))
set_option maxRecDepth 100000 in
set_option maxHeartbeats 4000000 in
theorem s_X12_none {X : Cg} (cx : Cx X cX12_none RX12 3) (hfr : 0 ≤ (xR X).frames) (hlo : 0 ≤ (xR X).locals) (hr : (xM X).sig.returnType = (some .boolean)) (r0 : Option Nat) (x1 : Int32) (x2 : Int32) : Sim X 3 (FiM X vI) 0 [(0, va_rf r0), (1, .int x1), (2, .int x2)] [] (f_X12_none r0 x1 x2) := by
  unfold f_X12_none
  refine sm_iload_n cx 1 dX12_none_0 rfl rfl ?_
  refine sm_if_lt (tgt := 9) cx dX12_none_1 (by decide) ?_ ?_
  · exact sm_lv [0] rfl (s_X12_none_9 cx hfr hlo hr r0)
  · refine sm_iload_n cx 1 dX12_none_4 rfl rfl ?_
    refine sm_iload_n cx 2 dX12_none_5 rfl rfl ?_
    refine sm_icmp_lt (tgt := 14) cx dX12_none_6 (by decide) ?_ ?_
    · exact sm_lv [0] rfl (s_X12_none_14 cx hfr hlo hr r0)
    · exact sm_lv [0] rfl (s_X12_none_9 cx hfr hlo hr r0)
set_option maxRecDepth 100000 in
set_option maxHeartbeats 4000000 in
theorem ct_X12_none (Z : Nat → Nat) {r0 : Option Nat} (a0 : Nat) (h0 : r0 = some a0) (x1 : Int32) (x2 : Int32) : Ct yX12_none cX12_none 3 (some .boolean) 0 0 Z [.ref a0, .int x1, .int x2] vI (f_X12_none r0 x1 x2) := by
  subst h0
  refine ct_of (lv0 := [(0, va_rf (some a0)), (1, .int x1), (2, .int x2)]) (by decide +kernel) (by simp [lg_sl, Value.category, rf_cat]) (by show _ = [(0, Value.ref a0), (1, .int x1), (2, .int x2)]; simp [lv_args, Value.category, rf_cat]) (fun X cx hZ hfr hlo hr hin => ?_)
  subst hZ
  exact s_X12_none cx (Nat.le_of_eq hfr.symm) (Nat.le_of_eq hlo.symm) hr (some a0) x1 x2
/-! PolicyTreeModel.node(I)I -/
theorem dX12_node_0 : decode cX12_node 0 = .ok (.aload_n 0, 1) := by decide +kernel
theorem dX12_node_1 : decode cX12_node 1 = .ok (.iconst 0, 1) := by decide +kernel
theorem dX12_node_2 : decode cX12_node 2 = .ok (.putfield 97, 3) := by decide +kernel
theorem dX12_node_5 : decode cX12_node 5 = .ok (.aload_n 0, 1) := by decide +kernel
theorem dX12_node_6 : decode cX12_node 6 = .ok (.iload_n 1, 1) := by decide +kernel
theorem dX12_node_7 : decode cX12_node 7 = .ok (.aload_n 0, 1) := by decide +kernel
theorem dX12_node_8 : decode cX12_node 8 = .ok (.getfield 94, 3) := by decide +kernel
theorem dX12_node_11 : decode cX12_node 11 = .ok (.invokevirtual 100, 3) := by decide +kernel
theorem dX12_node_14 : decode cX12_node 14 = .ok (.ifCond .ne 25, 3) := by decide +kernel
theorem dX12_node_17 : decode cX12_node 17 = .ok (.aload_n 0, 1) := by decide +kernel
theorem dX12_node_18 : decode cX12_node 18 = .ok (.aload_n 0, 1) := by decide +kernel
theorem dX12_node_19 : decode cX12_node 19 = .ok (.getfield 94, 3) := by decide +kernel
theorem dX12_node_22 : decode cX12_node 22 = .ok (.bipush 60, 2) := by decide +kernel
theorem dX12_node_24 : decode cX12_node 24 = .ok (.if_icmp .ne 7, 3) := by decide +kernel
theorem dX12_node_27 : decode cX12_node 27 = .ok (.iconst 1, 1) := by decide +kernel
theorem dX12_node_28 : decode cX12_node 28 = .ok (.goto 4, 3) := by decide +kernel
theorem dX12_node_31 : decode cX12_node 31 = .ok (.iconst 0, 1) := by decide +kernel
theorem dX12_node_32 : decode cX12_node 32 = .ok (.iconst 2, 1) := by decide +kernel
theorem dX12_node_33 : decode cX12_node 33 = .ok (.invokevirtual 104, 3) := by decide +kernel
theorem dX12_node_36 : decode cX12_node 36 = .ok (.ifCond .eq 5, 3) := by decide +kernel
theorem dX12_node_39 : decode cX12_node 39 = .ok (.iconst 0, 1) := by decide +kernel
theorem dX12_node_40 : decode cX12_node 40 = .ok (.ireturn, 1) := by decide +kernel
theorem dX12_node_41 : decode cX12_node 41 = .ok (.aload_n 0, 1) := by decide +kernel
theorem dX12_node_42 : decode cX12_node 42 = .ok (.getfield 9, 3) := by decide +kernel
theorem dX12_node_45 : decode cX12_node 45 = .ok (.aload_n 0, 1) := by decide +kernel
theorem dX12_node_46 : decode cX12_node 46 = .ok (.getfield 94, 3) := by decide +kernel
theorem dX12_node_49 : decode cX12_node 49 = .ok (.iload_n 1, 1) := by decide +kernel
theorem dX12_node_50 : decode cX12_node 50 = .ok (.iastore, 1) := by decide +kernel
theorem dX12_node_51 : decode cX12_node 51 = .ok (.aload_n 0, 1) := by decide +kernel
theorem dX12_node_52 : decode cX12_node 52 = .ok (.dup, 1) := by decide +kernel
theorem dX12_node_53 : decode cX12_node 53 = .ok (.getfield 94, 3) := by decide +kernel
theorem dX12_node_56 : decode cX12_node 56 = .ok (.iconst 1, 1) := by decide +kernel
theorem dX12_node_57 : decode cX12_node 57 = .ok (.iadd, 1) := by decide +kernel
theorem dX12_node_58 : decode cX12_node 58 = .ok (.putfield 94, 3) := by decide +kernel
theorem dX12_node_61 : decode cX12_node 61 = .ok (.aload_n 0, 1) := by decide +kernel
theorem dX12_node_62 : decode cX12_node 62 = .ok (.getfield 94, 3) := by decide +kernel
theorem dX12_node_65 : decode cX12_node 65 = .ok (.iconst 1, 1) := by decide +kernel
theorem dX12_node_66 : decode cX12_node 66 = .ok (.isub, 1) := by decide +kernel
theorem dX12_node_67 : decode cX12_node 67 = .ok (.ireturn, 1) := by decide +kernel
def f_X12_node_39 : Mo Int32 := mp (0 : Int32)
set_option maxRecDepth 100000 in
set_option maxHeartbeats 4000000 in
theorem s_X12_node_39 {X : Cg} (cx : Cx X cX12_node RX12 2) (hfr : 1 ≤ (xR X).frames) (hlo : 22 ≤ (xR X).locals) (hr : (xM X).sig.returnType = (some .int)) : Sim X 2 (FiM X vI) 39 [] [] (f_X12_node_39) := by
  unfold f_X12_node_39
  refine sm_iconst (v := 0) cx dX12_node_39 (by decide) ?_
  exact sm_iret cx hr dX12_node_40
def f_X12_node_32 (r0 : Option Nat) (x1 : Int32) (sr0 : Option Nat) (sx1 : Int32) : Mo Int32 := mb (mo 15 sr0 (f_X12_bad sr0 sx1 (2 : Int32))) (fun v33 => (if v33 = 0 then mb (gR 15 1 r0) (fun v42 => mb (gI 15 3 r0) (fun v46 => mb (sI 1 v42 v46 x1) (fun _ => mb (gI 15 3 r0) (fun v53 => mb (pV 15 3 r0 (.int (v53 + (1 : Int32)))) (fun _ => mb (gI 15 3 r0) (fun v62 => mp (v62 - (1 : Int32)))))))) else f_X12_node_39))
set_option maxRecDepth 100000 in
set_option maxHeartbeats 4000000 in
theorem s_X12_node_32 {X : Cg} (cx : Cx X cX12_node RX12 2) (hfr : 1 ≤ (xR X).frames) (hlo : 22 ≤ (xR X).locals) (hr : (xM X).sig.returnType = (some .int)) (r0 : Option Nat) (x1 : Int32) (sr0 : Option Nat) (sx1 : Int32) : Sim X 2 (FiM X vI) 32 [(0, va_rf r0), (1, .int x1)] [.int sx1, va_rf sr0] (f_X12_node_32 r0 x1 sr0 sx1) := by
  unfold f_X12_node_32
  refine sm_iconst (v := 2) cx dX12_node_32 (by decide) ?_
  refine sm_callV (T := TX12) (N := 47) (toV := vI) cx [.int sx1, .int (2 : Int32)] rfl cv_X12_104 (fun a h => ct_X12_bad (xZ X) a h sx1 (2 : Int32)) (Nat.le_trans (by decide) hfr) (Nat.le_trans (by decide) hlo) rfl (cat_le _ (by decide)) dX12_node_33 (fun v33 => ?_)
  refine sm_if_eq (tgt := 41) cx dX12_node_36 (by decide) ?_ ?_
  · refine sm_aload_n cx 0 dX12_node_41 rfl rfl ?_
    refine sm_getR cx fl_X12_9 dX12_node_42 (fun v42 => ?_)
    refine sm_aload_n cx 0 dX12_node_45 rfl rfl ?_
    refine sm_getI cx fl_X12_94 dX12_node_46 (fun v46 => ?_)
    refine sm_iload_n cx 1 dX12_node_49 rfl rfl ?_
    refine sm_iast cx dX12_node_50 ?_
    refine sm_aload_n cx 0 dX12_node_51 rfl rfl ?_
    refine sm_dup cx dX12_node_52 (rf_cat _) ?_
    refine sm_getI cx fl_X12_94 dX12_node_53 (fun v53 => ?_)
    refine sm_iconst (v := 1) cx dX12_node_56 (by decide) ?_
    refine sm_iadd cx dX12_node_57 ?_
    refine sm_putV cx fl_X12_94 rfl rfl dX12_node_58 ?_
    refine sm_aload_n cx 0 dX12_node_61 rfl rfl ?_
    refine sm_getI cx fl_X12_94 dX12_node_62 (fun v62 => ?_)
    refine sm_iconst (v := 1) cx dX12_node_65 (by decide) ?_
    refine sm_isub cx dX12_node_66 ?_
    exact sm_iret cx hr dX12_node_67
  · exact sm_lv [] rfl (s_X12_node_39 cx hfr hlo hr)
def f_X12_node (r0 : Option Nat) (x1 : Int32) : Mo Int32 := mb (pV 15 0 r0 (.int (0 : Int32))) (fun _ => mb (gI 15 3 r0) (fun v8 => mb (mo 15 r0 (f_X12_none r0 x1 v8)) (fun v11 => (if v11 = 0 then mb (gI 15 3 r0) (fun v19 => (if v19 = (60 : Int32) then f_X12_node_32 r0 x1 r0 (1 : Int32) else f_X12_node_32 r0 x1 r0 (0 : Int32))) else f_X12_node_39))))
set_option maxRecDepth 100000 in
set_option maxHeartbeats 4000000 in
theorem s_X12_node {X : Cg} (cx : Cx X cX12_node RX12 2) (hfr : 1 ≤ (xR X).frames) (hlo : 22 ≤ (xR X).locals) (hr : (xM X).sig.returnType = (some .int)) (r0 : Option Nat) (x1 : Int32) : Sim X 2 (FiM X vI) 0 [(0, va_rf r0), (1, .int x1)] [] (f_X12_node r0 x1) := by
  unfold f_X12_node
  refine sm_aload_n cx 0 dX12_node_0 rfl rfl ?_
  refine sm_iconst (v := 0) cx dX12_node_1 (by decide) ?_
  refine sm_putV cx fl_X12_97 rfl rfl dX12_node_2 ?_
  refine sm_aload_n cx 0 dX12_node_5 rfl rfl ?_
  refine sm_iload_n cx 1 dX12_node_6 rfl rfl ?_
  refine sm_aload_n cx 0 dX12_node_7 rfl rfl ?_
  refine sm_getI cx fl_X12_94 dX12_node_8 (fun v8 => ?_)
  refine sm_callV (T := TX12) (N := 47) (toV := vI) cx [.int x1, .int v8] rfl cv_X12_100 (fun a h => ct_X12_none (xZ X) a h x1 v8) (Nat.le_trans (by decide) hfr) (Nat.le_trans (by decide) hlo) rfl (cat_le _ (by decide)) dX12_node_11 (fun v11 => ?_)
  refine sm_if_ne (tgt := 39) cx dX12_node_14 (by decide) ?_ ?_
  · exact sm_lv [] rfl (s_X12_node_39 cx hfr hlo hr)
  · refine sm_aload_n cx 0 dX12_node_17 rfl rfl ?_
    refine sm_aload_n cx 0 dX12_node_18 rfl rfl ?_
    refine sm_getI cx fl_X12_94 dX12_node_19 (fun v19 => ?_)
    refine sm_bipush (v := 60) cx dX12_node_22 (by decide) ?_
    refine sm_icmp_ne (tgt := 31) cx dX12_node_24 (by decide) ?_ ?_
    · refine sm_iconst (v := 0) cx dX12_node_31 (by decide) ?_
      exact sm_lv [0, 1] rfl (s_X12_node_32 cx hfr hlo hr r0 x1 r0 (0 : Int32))
    · refine sm_iconst (v := 1) cx dX12_node_27 (by decide) ?_
      refine sm_goto (tgt := 32) cx dX12_node_28 (by decide) ?_
      exact sm_lv [0, 1] rfl (s_X12_node_32 cx hfr hlo hr r0 x1 r0 (1 : Int32))
set_option maxRecDepth 100000 in
set_option maxHeartbeats 4000000 in
theorem ct_X12_node (Z : Nat → Nat) {r0 : Option Nat} (a0 : Nat) (h0 : r0 = some a0) (x1 : Int32) : Ct yX12_node cX12_node 2 (some .int) 1 22 Z [.ref a0, .int x1] vI (f_X12_node r0 x1) := by
  subst h0
  refine ct_of (lv0 := [(0, va_rf (some a0)), (1, .int x1)]) (by decide +kernel) (by simp [lg_sl, Value.category, rf_cat]) (by show _ = [(0, Value.ref a0), (1, .int x1)]; simp [lv_args, Value.category, rf_cat]) (fun X cx hZ hfr hlo hr hin => ?_)
  subst hZ
  exact s_X12_node cx (Nat.le_of_eq hfr.symm) (Nat.le_of_eq hlo.symm) hr (some a0) x1
/-! PolicyTreeModel.block(IZ)Z -/
theorem dX12_block_0 : decode cX12_block 0 = .ok (.aload_n 0, 1) := by decide +kernel
theorem dX12_block_1 : decode cX12_block 1 = .ok (.iconst 0, 1) := by decide +kernel
theorem dX12_block_2 : decode cX12_block 2 = .ok (.putfield 97, 3) := by decide +kernel
theorem dX12_block_5 : decode cX12_block 5 = .ok (.aload_n 0, 1) := by decide +kernel
theorem dX12_block_6 : decode cX12_block 6 = .ok (.iload_n 1, 1) := by decide +kernel
theorem dX12_block_7 : decode cX12_block 7 = .ok (.aload_n 0, 1) := by decide +kernel
theorem dX12_block_8 : decode cX12_block 8 = .ok (.getfield 94, 3) := by decide +kernel
theorem dX12_block_11 : decode cX12_block 11 = .ok (.invokevirtual 100, 3) := by decide +kernel
theorem dX12_block_14 : decode cX12_block 14 = .ok (.ifCond .eq 5, 3) := by decide +kernel
theorem dX12_block_17 : decode cX12_block 17 = .ok (.iconst 0, 1) := by decide +kernel
theorem dX12_block_18 : decode cX12_block 18 = .ok (.ireturn, 1) := by decide +kernel
theorem dX12_block_19 : decode cX12_block 19 = .ok (.aload_n 0, 1) := by decide +kernel
theorem dX12_block_20 : decode cX12_block 20 = .ok (.getfield 13, 3) := by decide +kernel
theorem dX12_block_23 : decode cX12_block 23 = .ok (.iload_n 1, 1) := by decide +kernel
theorem dX12_block_24 : decode cX12_block 24 = .ok (.baload, 1) := by decide +kernel
theorem dX12_block_25 : decode cX12_block 25 = .ok (.istore_n 3, 1) := by decide +kernel
theorem dX12_block_26 : decode cX12_block 26 = .ok (.aload_n 0, 1) := by decide +kernel
theorem dX12_block_27 : decode cX12_block 27 = .ok (.getfield 13, 3) := by decide +kernel
theorem dX12_block_30 : decode cX12_block 30 = .ok (.iload_n 1, 1) := by decide +kernel
theorem dX12_block_31 : decode cX12_block 31 = .ok (.iload_n 2, 1) := by decide +kernel
theorem dX12_block_32 : decode cX12_block 32 = .ok (.bastore, 1) := by decide +kernel
theorem dX12_block_33 : decode cX12_block 33 = .ok (.iload_n 3, 1) := by decide +kernel
theorem dX12_block_34 : decode cX12_block 34 = .ok (.ireturn, 1) := by decide +kernel
def f_X12_block (r0 : Option Nat) (x1 : Int32) (x2 : Int32) : Mo Int32 := mb (pV 15 0 r0 (.int (0 : Int32))) (fun _ => mb (gI 15 3 r0) (fun v8 => mb (mo 15 r0 (f_X12_none r0 x1 v8)) (fun v11 => (if v11 = 0 then mb (gR 15 2 r0) (fun v20 => mb (aI 3 v20 x1) (fun v24 => mb (gR 15 2 r0) (fun v27 => mb (sI 3 v27 x1 x2) (fun _ => rz .boolean v24)))) else rz .boolean (0 : Int32)))))
set_option maxRecDepth 100000 in
set_option maxHeartbeats 4000000 in
theorem s_X12_block {X : Cg} (cx : Cx X cX12_block RX12 4) (hfr : 1 ≤ (xR X).frames) (hlo : 22 ≤ (xR X).locals) (hr : (xM X).sig.returnType = (some .boolean)) (r0 : Option Nat) (x1 : Int32) (x2 : Int32) : Sim X 4 (FiM X vI) 0 [(0, va_rf r0), (1, .int x1), (2, .int x2)] [] (f_X12_block r0 x1 x2) := by
  unfold f_X12_block
  refine sm_aload_n cx 0 dX12_block_0 rfl rfl ?_
  refine sm_iconst (v := 0) cx dX12_block_1 (by decide) ?_
  refine sm_putV cx fl_X12_97 rfl rfl dX12_block_2 ?_
  refine sm_aload_n cx 0 dX12_block_5 rfl rfl ?_
  refine sm_iload_n cx 1 dX12_block_6 rfl rfl ?_
  refine sm_aload_n cx 0 dX12_block_7 rfl rfl ?_
  refine sm_getI cx fl_X12_94 dX12_block_8 (fun v8 => ?_)
  refine sm_callV (T := TX12) (N := 47) (toV := vI) cx [.int x1, .int v8] rfl cv_X12_100 (fun a h => ct_X12_none (xZ X) a h x1 v8) (Nat.le_trans (by decide) hfr) (Nat.le_trans (by decide) hlo) rfl (cat_le _ (by decide)) dX12_block_11 (fun v11 => ?_)
  refine sm_if_eq (tgt := 19) cx dX12_block_14 (by decide) ?_ ?_
  · refine sm_aload_n cx 0 dX12_block_19 rfl rfl ?_
    refine sm_getR cx fl_X12_13 dX12_block_20 (fun v20 => ?_)
    refine sm_iload_n cx 1 dX12_block_23 rfl rfl ?_
    refine sm_zald cx dX12_block_24 (fun v24 => ?_)
    refine sm_istore_n cx [(3, .int v24), (0, va_rf r0), (1, .int x1), (2, .int x2)] dX12_block_25 rfl (by decide) rfl (nc1 rfl) rfl ?_
    refine sm_aload_n cx 1 dX12_block_26 rfl rfl ?_
    refine sm_getR cx fl_X12_13 dX12_block_27 (fun v27 => ?_)
    refine sm_iload_n cx 2 dX12_block_30 rfl rfl ?_
    refine sm_iload_n cx 3 dX12_block_31 rfl rfl ?_
    refine sm_zast cx dX12_block_32 ?_
    refine sm_iload_n cx 0 dX12_block_33 rfl rfl ?_
    exact sm_zret cx hr dX12_block_34
  · refine sm_iconst (v := 0) cx dX12_block_17 (by decide) ?_
    exact sm_zret cx hr dX12_block_18
set_option maxRecDepth 100000 in
set_option maxHeartbeats 4000000 in
theorem ct_X12_block (Z : Nat → Nat) {r0 : Option Nat} (a0 : Nat) (h0 : r0 = some a0) (x1 : Int32) (x2 : Int32) : Ct yX12_block cX12_block 4 (some .boolean) 1 22 Z [.ref a0, .int x1, .int x2] vI (f_X12_block r0 x1 x2) := by
  subst h0
  refine ct_of (lv0 := [(0, va_rf (some a0)), (1, .int x1), (2, .int x2)]) (by decide +kernel) (by simp [lg_sl, Value.category, rf_cat]) (by show _ = [(0, Value.ref a0), (1, .int x1), (2, .int x2)]; simp [lv_args, Value.category, rf_cat]) (fun X cx hZ hfr hlo hr hin => ?_)
  subst hZ
  exact s_X12_block cx (Nat.le_of_eq hfr.symm) (Nat.le_of_eq hlo.symm) hr (some a0) x1 x2
/-! PolicyTreeModel.isBelow(II)Z -/
theorem dX12_isBelow_0 : decode cX12_isBelow 0 = .ok (.iload_n 1, 1) := by decide +kernel
theorem dX12_isBelow_1 : decode cX12_isBelow 1 = .ok (.istore_n 3, 1) := by decide +kernel
theorem dX12_isBelow_2 : decode cX12_isBelow 2 = .ok (.iload_n 3, 1) := by decide +kernel
theorem dX12_isBelow_3 : decode cX12_isBelow 3 = .ok (.ifCond .lt 18, 3) := by decide +kernel
theorem dX12_isBelow_6 : decode cX12_isBelow 6 = .ok (.iload_n 3, 1) := by decide +kernel
theorem dX12_isBelow_7 : decode cX12_isBelow 7 = .ok (.iload_n 2, 1) := by decide +kernel
theorem dX12_isBelow_8 : decode cX12_isBelow 8 = .ok (.if_icmp .eq 13, 3) := by decide +kernel
theorem dX12_isBelow_11 : decode cX12_isBelow 11 = .ok (.aload_n 0, 1) := by decide +kernel
theorem dX12_isBelow_12 : decode cX12_isBelow 12 = .ok (.getfield 9, 3) := by decide +kernel
theorem dX12_isBelow_15 : decode cX12_isBelow 15 = .ok (.iload_n 3, 1) := by decide +kernel
theorem dX12_isBelow_16 : decode cX12_isBelow 16 = .ok (.iaload, 1) := by decide +kernel
theorem dX12_isBelow_17 : decode cX12_isBelow 17 = .ok (.istore_n 3, 1) := by decide +kernel
theorem dX12_isBelow_18 : decode cX12_isBelow 18 = .ok (.goto (-16), 3) := by decide +kernel
theorem dX12_isBelow_21 : decode cX12_isBelow 21 = .ok (.iload_n 3, 1) := by decide +kernel
theorem dX12_isBelow_22 : decode cX12_isBelow 22 = .ok (.ifCond .lt 7, 3) := by decide +kernel
theorem dX12_isBelow_25 : decode cX12_isBelow 25 = .ok (.iconst 1, 1) := by decide +kernel
theorem dX12_isBelow_26 : decode cX12_isBelow 26 = .ok (.goto 4, 3) := by decide +kernel
theorem dX12_isBelow_29 : decode cX12_isBelow 29 = .ok (.iconst 0, 1) := by decide +kernel
theorem dX12_isBelow_30 : decode cX12_isBelow 30 = .ok (.ireturn, 1) := by decide +kernel
def f_X12_isBelow_30 (sx0 : Int32) : Mo Int32 := rz .boolean sx0
set_option maxRecDepth 100000 in
set_option maxHeartbeats 4000000 in
theorem s_X12_isBelow_30 {X : Cg} (cx : Cx X cX12_isBelow RX12 4) (hfr : 0 ≤ (xR X).frames) (hlo : 0 ≤ (xR X).locals) (hr : (xM X).sig.returnType = (some .boolean)) (sx0 : Int32) : Sim X 4 (FiM X vI) 30 [] [.int sx0] (f_X12_isBelow_30 sx0) := by
  unfold f_X12_isBelow_30
  exact sm_zret cx hr dX12_isBelow_30
def f_X12_isBelow_21 (x3 : Int32) : Mo Int32 := (if x3 < 0 then f_X12_isBelow_30 (0 : Int32) else f_X12_isBelow_30 (1 : Int32))
set_option maxRecDepth 100000 in
set_option maxHeartbeats 4000000 in
theorem s_X12_isBelow_21 {X : Cg} (cx : Cx X cX12_isBelow RX12 4) (hfr : 0 ≤ (xR X).frames) (hlo : 0 ≤ (xR X).locals) (hr : (xM X).sig.returnType = (some .boolean)) (x3 : Int32) : Sim X 4 (FiM X vI) 21 [(3, .int x3)] [] (f_X12_isBelow_21 x3) := by
  unfold f_X12_isBelow_21
  refine sm_iload_n cx 0 dX12_isBelow_21 rfl rfl ?_
  refine sm_if_lt (tgt := 29) cx dX12_isBelow_22 (by decide) ?_ ?_
  · refine sm_iconst (v := 0) cx dX12_isBelow_29 (by decide) ?_
    exact sm_lv [] rfl (s_X12_isBelow_30 cx hfr hlo hr (0 : Int32))
  · refine sm_iconst (v := 1) cx dX12_isBelow_25 (by decide) ?_
    refine sm_goto (tgt := 30) cx dX12_isBelow_26 (by decide) ?_
    exact sm_lv [] rfl (s_X12_isBelow_30 cx hfr hlo hr (1 : Int32))
def f_X12_isBelow_2 (r0 : Option Nat) (x2 : Int32) : Nat → Int32 → Mo Int32
  | 0, _ => mf
  | n + 1, x3 => (if x3 < 0 then f_X12_isBelow_21 x3 else (if x3 = x2 then f_X12_isBelow_21 x3 else mb (gR 15 1 r0) (fun v12 => mb (aI 1 v12 x3) (fun v16 => (f_X12_isBelow_2 r0 x2 n) v16))))
set_option maxRecDepth 100000 in
set_option maxHeartbeats 4000000 in
theorem s_X12_isBelow_2 {X : Cg} (cx : Cx X cX12_isBelow RX12 4) (hfr : 0 ≤ (xR X).frames) (hlo : 0 ≤ (xR X).locals) (hr : (xM X).sig.returnType = (some .boolean)) (r0 : Option Nat) (x2 : Int32) : ∀ (n : Nat) (x3 : Int32), Sim X 4 (FiM X vI) 2 [(0, va_rf r0), (2, .int x2), (3, .int x3)] [] (f_X12_isBelow_2 r0 x2 n x3) := by
  intro n
  induction n with
  | zero =>
    intro _
    exact sm_mf
  | succ n ih =>
    intro x3
    rw [f_X12_isBelow_2]
    refine sm_iload_n cx 2 dX12_isBelow_2 rfl rfl ?_
    refine sm_if_lt (tgt := 21) cx dX12_isBelow_3 (by decide) ?_ ?_
    · exact sm_lv [2] rfl (s_X12_isBelow_21 cx hfr hlo hr x3)
    · refine sm_iload_n cx 2 dX12_isBelow_6 rfl rfl ?_
      refine sm_iload_n cx 1 dX12_isBelow_7 rfl rfl ?_
      refine sm_icmp_eq (tgt := 21) cx dX12_isBelow_8 (by decide) ?_ ?_
      · exact sm_lv [2] rfl (s_X12_isBelow_21 cx hfr hlo hr x3)
      · refine sm_aload_n cx 0 dX12_isBelow_11 rfl rfl ?_
        refine sm_getR cx fl_X12_9 dX12_isBelow_12 (fun v12 => ?_)
        refine sm_iload_n cx 2 dX12_isBelow_15 rfl rfl ?_
        refine sm_iald cx dX12_isBelow_16 (fun v16 => ?_)
        refine sm_istore_n cx [(3, .int v16), (0, va_rf r0), (2, .int x2)] dX12_isBelow_17 rfl (by decide) rfl (nc1 rfl) rfl ?_
        refine sm_goto (tgt := 2) cx dX12_isBelow_18 (by decide) ?_
        exact sm_lv [1, 2, 0] rfl (ih v16)
def f_X12_isBelow (r0 : Option Nat) (x1 : Int32) (x2 : Int32) : Mo Int32 := f_X12_isBelow_2 r0 x2 fuL x1
set_option maxRecDepth 100000 in
set_option maxHeartbeats 4000000 in
theorem s_X12_isBelow {X : Cg} (cx : Cx X cX12_isBelow RX12 4) (hfr : 0 ≤ (xR X).frames) (hlo : 0 ≤ (xR X).locals) (hr : (xM X).sig.returnType = (some .boolean)) (r0 : Option Nat) (x1 : Int32) (x2 : Int32) : Sim X 4 (FiM X vI) 0 [(0, va_rf r0), (1, .int x1), (2, .int x2)] [] (f_X12_isBelow r0 x1 x2) := by
  unfold f_X12_isBelow
  refine sm_iload_n cx 1 dX12_isBelow_0 rfl rfl ?_
  refine sm_istore_n cx [(3, .int x1), (0, va_rf r0), (1, .int x1), (2, .int x2)] dX12_isBelow_1 rfl (by decide) rfl (nc1 rfl) rfl ?_
  exact sm_lv [1, 3, 0] rfl (s_X12_isBelow_2 cx hfr hlo hr r0 x2 fuL x1)
set_option maxRecDepth 100000 in
set_option maxHeartbeats 4000000 in
theorem ct_X12_isBelow (Z : Nat → Nat) {r0 : Option Nat} (a0 : Nat) (h0 : r0 = some a0) (x1 : Int32) (x2 : Int32) : Ct yX12_isBelow cX12_isBelow 4 (some .boolean) 0 0 Z [.ref a0, .int x1, .int x2] vI (f_X12_isBelow r0 x1 x2) := by
  subst h0
  refine ct_of (lv0 := [(0, va_rf (some a0)), (1, .int x1), (2, .int x2)]) (by decide +kernel) (by simp [lg_sl, Value.category, rf_cat]) (by show _ = [(0, Value.ref a0), (1, .int x1), (2, .int x2)]; simp [lv_args, Value.category, rf_cat]) (fun X cx hZ hfr hlo hr hin => ?_)
  subst hZ
  exact s_X12_isBelow cx (Nat.le_of_eq hfr.symm) (Nat.le_of_eq hlo.symm) hr (some a0) x1 x2
