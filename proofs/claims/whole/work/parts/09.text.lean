theorem cv_J0_335 : CalV RJ0 335 RJ0 yJ0_coder_7d493 cJ0_coder_7d493 1 (some .byte) 0 := ⟨wd_V wd_4_130 wd_4_131 wd_4_132 wd_1_27 wd_4_133, rfl, by decide +kernel, by decide +kernel, by decide +kernel⟩
theorem cs_J0_1059 : CalS RJ0 1059 yJ3_checkIndex_8e157 cJ3_checkIndex_8e157 3 (some .int) 3 := ⟨wd_S wd_4_152 wd_2_136 wd_1_23 wd_2_137, by decide +kernel, by decide +kernel, by decide +kernel⟩
theorem cs_J1_9 : CalS RJ1 9 yJ0_checkIndex_df160 cJ0_checkIndex_df160 2 none 2 := ⟨wd_S wd_4_147 wd_4_148 wd_1_27 wd_4_149, by decide +kernel, by decide +kernel, by decide +kernel⟩
theorem cv_J0_492 : CalV RJ0 492 RJ0 yJ0_isLatin1_aae02 cJ0_isLatin1_aae02 1 (some .boolean) 0 := ⟨wd_V wd_4_140 wd_4_141 wd_4_142 wd_1_27 wd_4_143, rfl, by decide +kernel, by decide +kernel, by decide +kernel⟩
theorem cs_J0_495 : CalS RJ0 495 yJ1_charAt_3b067 cJ1_charAt_3b067 2 (some .char) 2 := ⟨wd_S wd_4_144 wd_4_145 wd_1_28 wd_4_146, by decide +kernel, by decide +kernel, by decide +kernel⟩
/-! java/lang/String.coder()B -/
theorem dJ0_coder_7d493_0 : decode cJ0_coder_7d493 0 = .ok (.getstatic 38, 3) := by decide +kernel
theorem dJ0_coder_7d493_3 : decode cJ0_coder_7d493 3 = .ok (.ifCond .eq 10, 3) := by decide +kernel
theorem dJ0_coder_7d493_6 : decode cJ0_coder_7d493 6 = .ok (.aload_n 0, 1) := by decide +kernel
theorem dJ0_coder_7d493_7 : decode cJ0_coder_7d493 7 = .ok (.getfield 15, 3) := by decide +kernel
theorem dJ0_coder_7d493_10 : decode cJ0_coder_7d493 10 = .ok (.goto 4, 3) := by decide +kernel
theorem dJ0_coder_7d493_13 : decode cJ0_coder_7d493 13 = .ok (.iconst 1, 1) := by decide +kernel
theorem dJ0_coder_7d493_14 : decode cJ0_coder_7d493 14 = .ok (.ireturn, 1) := by decide +kernel
def f_J0_coder_7d493_14 (Z : Nat → Nat) (sx0 : Int32) : Mo Int32 := rz .byte sx0
set_option maxRecDepth 100000 in
set_option maxHeartbeats 4000000 in
theorem s_J0_coder_7d493_14 {X : Cg} (cx : Cx X cJ0_coder_7d493 RJ0 1) (hfr : 0 ≤ (xR X).frames) (hlo : 0 ≤ (xR X).locals) (hr : (xM X).sig.returnType = (some .byte)) (sx0 : Int32) : Sim X 1 (FiM X vI) 14 [] [.int sx0] (f_J0_coder_7d493_14 (xZ X) sx0) := by
  unfold f_J0_coder_7d493_14
  exact sm_zret cx hr dJ0_coder_7d493_14
def f_J0_coder_7d493 (Z : Nat → Nat) (r0 : Option Nat) : Mo Int32 := (if (1 : Int32) = 0 then f_J0_coder_7d493_14 Z (1 : Int32) else mb (gSc Z r0) (fun v7 => f_J0_coder_7d493_14 Z v7))
set_option maxRecDepth 100000 in
set_option maxHeartbeats 4000000 in
theorem s_J0_coder_7d493 {X : Cg} (cx : Cx X cJ0_coder_7d493 RJ0 1) (hfr : 0 ≤ (xR X).frames) (hlo : 0 ≤ (xR X).locals) (hr : (xM X).sig.returnType = (some .byte)) (r0 : Option Nat) : Sim X 1 (FiM X vI) 0 [(0, va_rf r0)] [] (f_J0_coder_7d493 (xZ X) r0) := by
  unfold f_J0_coder_7d493
  refine sm_gsC cx wd_4_134 dJ0_coder_7d493_0 ?_
  refine sm_if_eq (tgt := 13) cx dJ0_coder_7d493_3 (by decide) ?_ ?_
  · refine sm_iconst (v := 1) cx dJ0_coder_7d493_13 (by decide) ?_
    exact sm_lv [] rfl (s_J0_coder_7d493_14 cx hfr hlo hr (1 : Int32))
  · refine sm_aload_n cx 0 dJ0_coder_7d493_6 rfl rfl ?_
    refine sm_gSc cx wd_5_228 dJ0_coder_7d493_7 (fun v7 => ?_)
    refine sm_goto (tgt := 14) cx dJ0_coder_7d493_10 (by decide) ?_
    exact sm_lv [] rfl (s_J0_coder_7d493_14 cx hfr hlo hr v7)
set_option maxRecDepth 100000 in
set_option maxHeartbeats 4000000 in
theorem ct_J0_coder_7d493 (Z : Nat → Nat) {r0 : Option Nat} (a0 : Nat) (h0 : r0 = some a0) : Ct yJ0_coder_7d493 cJ0_coder_7d493 1 (some .byte) 0 0 Z [.ref a0] vI (f_J0_coder_7d493 Z r0) := by
  subst h0
  refine ct_of (lv0 := [(0, va_rf (some a0))]) (by decide +kernel) (by simp [lg_sl, ct_i, ct_l, ct_r, rf_cat]) (by show _ = ([(0, Value.ref a0)] : List (Nat × Value)); simp [lv_args, ct_i, ct_l, ct_r, rf_cat]) (fun X cx hZ hfr hlo hr hin => ?_)
  subst hZ
  exact s_J0_coder_7d493 cx (Nat.le_of_eq hfr.symm) (Nat.le_of_eq hlo.symm) hr (some a0)
/-! java/lang/String.isLatin1()Z -/
theorem dJ0_isLatin1_aae02_0 : decode cJ0_isLatin1_aae02 0 = .ok (.getstatic 38, 3) := by decide +kernel
theorem dJ0_isLatin1_aae02_3 : decode cJ0_isLatin1_aae02 3 = .ok (.ifCond .eq 14, 3) := by decide +kernel
theorem dJ0_isLatin1_aae02_6 : decode cJ0_isLatin1_aae02 6 = .ok (.aload_n 0, 1) := by decide +kernel
theorem dJ0_isLatin1_aae02_7 : decode cJ0_isLatin1_aae02 7 = .ok (.getfield 15, 3) := by decide +kernel
theorem dJ0_isLatin1_aae02_10 : decode cJ0_isLatin1_aae02 10 = .ok (.ifCond .ne 7, 3) := by decide +kernel
theorem dJ0_isLatin1_aae02_13 : decode cJ0_isLatin1_aae02 13 = .ok (.iconst 1, 1) := by decide +kernel
theorem dJ0_isLatin1_aae02_14 : decode cJ0_isLatin1_aae02 14 = .ok (.goto 4, 3) := by decide +kernel
theorem dJ0_isLatin1_aae02_17 : decode cJ0_isLatin1_aae02 17 = .ok (.iconst 0, 1) := by decide +kernel
theorem dJ0_isLatin1_aae02_18 : decode cJ0_isLatin1_aae02 18 = .ok (.ireturn, 1) := by decide +kernel
def f_J0_isLatin1_aae02_18 (Z : Nat → Nat) (sx0 : Int32) : Mo Int32 := rz .boolean sx0
set_option maxRecDepth 100000 in
set_option maxHeartbeats 4000000 in
theorem s_J0_isLatin1_aae02_18 {X : Cg} (cx : Cx X cJ0_isLatin1_aae02 RJ0 1) (hfr : 0 ≤ (xR X).frames) (hlo : 0 ≤ (xR X).locals) (hr : (xM X).sig.returnType = (some .boolean)) (sx0 : Int32) : Sim X 1 (FiM X vI) 18 [] [.int sx0] (f_J0_isLatin1_aae02_18 (xZ X) sx0) := by
  unfold f_J0_isLatin1_aae02_18
  exact sm_zret cx hr dJ0_isLatin1_aae02_18
def f_J0_isLatin1_aae02_17 (Z : Nat → Nat) : Mo Int32 := f_J0_isLatin1_aae02_18 Z (0 : Int32)
set_option maxRecDepth 100000 in
set_option maxHeartbeats 4000000 in
theorem s_J0_isLatin1_aae02_17 {X : Cg} (cx : Cx X cJ0_isLatin1_aae02 RJ0 1) (hfr : 0 ≤ (xR X).frames) (hlo : 0 ≤ (xR X).locals) (hr : (xM X).sig.returnType = (some .boolean)) : Sim X 1 (FiM X vI) 17 [] [] (f_J0_isLatin1_aae02_17 (xZ X)) := by
  unfold f_J0_isLatin1_aae02_17
  refine sm_iconst (v := 0) cx dJ0_isLatin1_aae02_17 (by decide) ?_
  exact sm_lv [] rfl (s_J0_isLatin1_aae02_18 cx hfr hlo hr (0 : Int32))
def f_J0_isLatin1_aae02 (Z : Nat → Nat) (r0 : Option Nat) : Mo Int32 := (if (1 : Int32) = 0 then f_J0_isLatin1_aae02_17 Z else mb (gSc Z r0) (fun v7 => (if v7 = 0 then f_J0_isLatin1_aae02_18 Z (1 : Int32) else f_J0_isLatin1_aae02_17 Z)))
set_option maxRecDepth 100000 in
set_option maxHeartbeats 4000000 in
theorem s_J0_isLatin1_aae02 {X : Cg} (cx : Cx X cJ0_isLatin1_aae02 RJ0 1) (hfr : 0 ≤ (xR X).frames) (hlo : 0 ≤ (xR X).locals) (hr : (xM X).sig.returnType = (some .boolean)) (r0 : Option Nat) : Sim X 1 (FiM X vI) 0 [(0, va_rf r0)] [] (f_J0_isLatin1_aae02 (xZ X) r0) := by
  unfold f_J0_isLatin1_aae02
  refine sm_gsC cx wd_4_134 dJ0_isLatin1_aae02_0 ?_
  refine sm_if_eq (tgt := 17) cx dJ0_isLatin1_aae02_3 (by decide) ?_ ?_
  · exact sm_lv [] rfl (s_J0_isLatin1_aae02_17 cx hfr hlo hr)
  · refine sm_aload_n cx 0 dJ0_isLatin1_aae02_6 rfl rfl ?_
    refine sm_gSc cx wd_5_228 dJ0_isLatin1_aae02_7 (fun v7 => ?_)
    refine sm_if_ne (tgt := 17) cx dJ0_isLatin1_aae02_10 (by decide) ?_ ?_
    · exact sm_lv [] rfl (s_J0_isLatin1_aae02_17 cx hfr hlo hr)
    · refine sm_iconst (v := 1) cx dJ0_isLatin1_aae02_13 (by decide) ?_
      refine sm_goto (tgt := 18) cx dJ0_isLatin1_aae02_14 (by decide) ?_
      exact sm_lv [] rfl (s_J0_isLatin1_aae02_18 cx hfr hlo hr (1 : Int32))
set_option maxRecDepth 100000 in
set_option maxHeartbeats 4000000 in
theorem ct_J0_isLatin1_aae02 (Z : Nat → Nat) {r0 : Option Nat} (a0 : Nat) (h0 : r0 = some a0) : Ct yJ0_isLatin1_aae02 cJ0_isLatin1_aae02 1 (some .boolean) 0 0 Z [.ref a0] vI (f_J0_isLatin1_aae02 Z r0) := by
  subst h0
  refine ct_of (lv0 := [(0, va_rf (some a0))]) (by decide +kernel) (by simp [lg_sl, ct_i, ct_l, ct_r, rf_cat]) (by show _ = ([(0, Value.ref a0)] : List (Nat × Value)); simp [lv_args, ct_i, ct_l, ct_r, rf_cat]) (fun X cx hZ hfr hlo hr hin => ?_)
  subst hZ
  exact s_J0_isLatin1_aae02 cx (Nat.le_of_eq hfr.symm) (Nat.le_of_eq hlo.symm) hr (some a0)
/-! java/lang/String.length()I -/
theorem dJ0_length_8abf5_0 : decode cJ0_length_8abf5 0 = .ok (.aload_n 0, 1) := by decide +kernel
theorem dJ0_length_8abf5_1 : decode cJ0_length_8abf5 1 = .ok (.getfield 9, 3) := by decide +kernel
theorem dJ0_length_8abf5_4 : decode cJ0_length_8abf5 4 = .ok (.arraylength, 1) := by decide +kernel
theorem dJ0_length_8abf5_5 : decode cJ0_length_8abf5 5 = .ok (.aload_n 0, 1) := by decide +kernel
theorem dJ0_length_8abf5_6 : decode cJ0_length_8abf5 6 = .ok (.invokevirtual 335, 3) := by decide +kernel
theorem dJ0_length_8abf5_9 : decode cJ0_length_8abf5 9 = .ok (.ishr, 1) := by decide +kernel
theorem dJ0_length_8abf5_10 : decode cJ0_length_8abf5 10 = .ok (.ireturn, 1) := by decide +kernel
def f_J0_length_8abf5 (Z : Nat → Nat) (r0 : Option Nat) : Mo Int32 := mb (gSv Z r0) (fun v1 => mb (aSn Z v1) (fun v4 => mb (moS Z r0 (f_J0_coder_7d493 Z r0)) (fun v6 => mp (v4 >>> (v6 &&& 31)))))
set_option maxRecDepth 100000 in
set_option maxHeartbeats 4000000 in
theorem s_J0_length_8abf5 {X : Cg} (cx : Cx X cJ0_length_8abf5 RJ0 1) (hfr : 1 ≤ (xR X).frames) (hlo : 20 ≤ (xR X).locals) (hr : (xM X).sig.returnType = (some .int)) (r0 : Option Nat) : Sim X 1 (FiM X vI) 0 [(0, va_rf r0)] [] (f_J0_length_8abf5 (xZ X) r0) := by
  unfold f_J0_length_8abf5
  refine sm_aload_n cx 0 dJ0_length_8abf5_0 rfl rfl ?_
  refine sm_gSv cx wd_5_227 dJ0_length_8abf5_1 (fun v1 => ?_)
  refine sm_aSn cx dJ0_length_8abf5_4 (fun v4 => ?_)
  refine sm_aload_n cx 0 dJ0_length_8abf5_5 rfl rfl ?_
  refine sm_callW (toV := vI) cx [] cv_J0_335 (fun a h => ct_J0_coder_7d493 (xZ X) a h) (Nat.le_trans (by decide) hfr) (Nat.le_trans (by decide) hlo) rfl (cat_le _ (Nat.le_of_ble_eq_true rfl)) dJ0_length_8abf5_6 (fun v6 => ?_)
  refine sm_ishr cx dJ0_length_8abf5_9 ?_
  exact sm_iret cx hr dJ0_length_8abf5_10
set_option maxRecDepth 100000 in
set_option maxHeartbeats 4000000 in
theorem ct_J0_length_8abf5 (Z : Nat → Nat) {r0 : Option Nat} (a0 : Nat) (h0 : r0 = some a0) : Ct yJ0_length_8abf5 cJ0_length_8abf5 1 (some .int) 1 20 Z [.ref a0] vI (f_J0_length_8abf5 Z r0) := by
  subst h0
  refine ct_of (lv0 := [(0, va_rf (some a0))]) (by decide +kernel) (by simp [lg_sl, ct_i, ct_l, ct_r, rf_cat]) (by show _ = ([(0, Value.ref a0)] : List (Nat × Value)); simp [lv_args, ct_i, ct_l, ct_r, rf_cat]) (fun X cx hZ hfr hlo hr hin => ?_)
  subst hZ
  exact s_J0_length_8abf5 cx (Nat.le_of_eq hfr.symm) (Nat.le_of_eq hlo.symm) hr (some a0)
/-! jdk/internal/util/Preconditions.checkIndex(IILjava/util/function/BiFunction;)I -/
theorem dJ3_checkIndex_8e157_0 : decode cJ3_checkIndex_8e157 0 = .ok (.iload_n 0, 1) := by decide +kernel
theorem dJ3_checkIndex_8e157_1 : decode cJ3_checkIndex_8e157 1 = .ok (.ifCond .lt 8, 3) := by decide +kernel
theorem dJ3_checkIndex_8e157_4 : decode cJ3_checkIndex_8e157 4 = .ok (.iload_n 0, 1) := by decide +kernel
theorem dJ3_checkIndex_8e157_5 : decode cJ3_checkIndex_8e157 5 = .ok (.iload_n 1, 1) := by decide +kernel
theorem dJ3_checkIndex_8e157_6 : decode cJ3_checkIndex_8e157 6 = .ok (.if_icmp .lt 10, 3) := by decide +kernel
theorem dJ3_checkIndex_8e157_9 : decode cJ3_checkIndex_8e157 9 = .ok (.aload_n 2, 1) := by decide +kernel
theorem dJ3_checkIndex_8e157_10 : decode cJ3_checkIndex_8e157 10 = .ok (.iload_n 0, 1) := by decide +kernel
theorem dJ3_checkIndex_8e157_11 : decode cJ3_checkIndex_8e157 11 = .ok (.iload_n 1, 1) := by decide +kernel
theorem dJ3_checkIndex_8e157_12 : decode cJ3_checkIndex_8e157 12 = .ok (.invokestatic 95, 3) := by decide +kernel
theorem dJ3_checkIndex_8e157_15 : decode cJ3_checkIndex_8e157 15 = .ok (.athrow, 1) := by decide +kernel
theorem dJ3_checkIndex_8e157_16 : decode cJ3_checkIndex_8e157 16 = .ok (.iload_n 0, 1) := by decide +kernel
theorem dJ3_checkIndex_8e157_17 : decode cJ3_checkIndex_8e157 17 = .ok (.ireturn, 1) := by decide +kernel
def f_J3_checkIndex_8e157_9 (x0 : Int32) (x1 : Int32) (r2 : Option Nat) : Mo Int32 := mf
set_option maxRecDepth 100000 in
set_option maxHeartbeats 4000000 in
theorem s_J3_checkIndex_8e157_9 {X : Cg} (cx : Cx X cJ3_checkIndex_8e157 RJ3 3) (hfr : 0 ≤ (xR X).frames) (hlo : 0 ≤ (xR X).locals) (hr : (xM X).sig.returnType = (some .int)) (x0 : Int32) (x1 : Int32) (r2 : Option Nat) : Sim X 3 (FiM X vI) 9 [(0, .int x0), (1, .int x1), (2, va_rf r2)] [] (f_J3_checkIndex_8e157_9 x0 x1 r2) := by
  unfold f_J3_checkIndex_8e157_9
  refine sm_aload_n cx 2 dJ3_checkIndex_8e157_9 rfl rfl ?_
  refine sm_iload_n cx 0 dJ3_checkIndex_8e157_10 rfl rfl ?_
  refine sm_iload_n cx 1 dJ3_checkIndex_8e157_11 rfl rfl ?_
  exact sm_mf
def f_J3_checkIndex_8e157 (x0 : Int32) (x1 : Int32) (r2 : Option Nat) : Mo Int32 := (if x0 < 0 then f_J3_checkIndex_8e157_9 x0 x1 r2 else (if x0 < x1 then mp x0 else f_J3_checkIndex_8e157_9 x0 x1 r2))
set_option maxRecDepth 100000 in
set_option maxHeartbeats 4000000 in
theorem s_J3_checkIndex_8e157 {X : Cg} (cx : Cx X cJ3_checkIndex_8e157 RJ3 3) (hfr : 0 ≤ (xR X).frames) (hlo : 0 ≤ (xR X).locals) (hr : (xM X).sig.returnType = (some .int)) (x0 : Int32) (x1 : Int32) (r2 : Option Nat) : Sim X 3 (FiM X vI) 0 [(0, .int x0), (1, .int x1), (2, va_rf r2)] [] (f_J3_checkIndex_8e157 x0 x1 r2) := by
  unfold f_J3_checkIndex_8e157
  refine sm_iload_n cx 0 dJ3_checkIndex_8e157_0 rfl rfl ?_
  refine sm_if_lt (tgt := 9) cx dJ3_checkIndex_8e157_1 (by decide) ?_ ?_
  · exact sm_lv [0, 1, 2] rfl (s_J3_checkIndex_8e157_9 cx hfr hlo hr x0 x1 r2)
  · refine sm_iload_n cx 0 dJ3_checkIndex_8e157_4 rfl rfl ?_
    refine sm_iload_n cx 1 dJ3_checkIndex_8e157_5 rfl rfl ?_
    refine sm_icmp_lt (tgt := 16) cx dJ3_checkIndex_8e157_6 (by decide) ?_ ?_
    · refine sm_iload_n cx 0 dJ3_checkIndex_8e157_16 rfl rfl ?_
      exact sm_iret cx hr dJ3_checkIndex_8e157_17
    · exact sm_lv [0, 1, 2] rfl (s_J3_checkIndex_8e157_9 cx hfr hlo hr x0 x1 r2)
set_option maxRecDepth 100000 in
set_option maxHeartbeats 4000000 in
theorem ct_J3_checkIndex_8e157 (Z : Nat → Nat) (x0 : Int32) (x1 : Int32) (r2 : Option Nat) : Ct yJ3_checkIndex_8e157 cJ3_checkIndex_8e157 3 (some .int) 0 0 Z [.int x0, .int x1, va_rf r2] vI (f_J3_checkIndex_8e157 x0 x1 r2) := by
  refine ct_of (lv0 := [(0, .int x0), (1, .int x1), (2, va_rf r2)]) (by decide +kernel) (by simp [lg_sl, ct_i, ct_l, ct_r, rf_cat]) (by show _ = ([(0, .int x0), (1, .int x1), (2, va_rf r2)] : List (Nat × Value)); simp [lv_args, ct_i, ct_l, ct_r, rf_cat]) (fun X cx hZ hfr hlo hr hin => ?_)
  subst hZ
  exact s_J3_checkIndex_8e157 cx (Nat.le_of_eq hfr.symm) (Nat.le_of_eq hlo.symm) hr x0 x1 r2
/-! java/lang/String.checkIndex(II)V -/
theorem dJ0_checkIndex_df160_0 : decode cJ0_checkIndex_df160 0 = .ok (.iload_n 0, 1) := by decide +kernel
theorem dJ0_checkIndex_df160_1 : decode cJ0_checkIndex_df160 1 = .ok (.iload_n 1, 1) := by decide +kernel
theorem dJ0_checkIndex_df160_2 : decode cJ0_checkIndex_df160 2 = .ok (.getstatic 1053, 3) := by decide +kernel
theorem dJ0_checkIndex_df160_5 : decode cJ0_checkIndex_df160 5 = .ok (.invokestatic 1059, 3) := by decide +kernel
theorem dJ0_checkIndex_df160_8 : decode cJ0_checkIndex_df160 8 = .ok (.pop, 1) := by decide +kernel
theorem dJ0_checkIndex_df160_9 : decode cJ0_checkIndex_df160 9 = .ok (.return_, 1) := by decide +kernel
def f_J0_checkIndex_df160 (Z : Nat → Nat) (x0 : Int32) (x1 : Int32) : Mo Unit := mb (f_J3_checkIndex_8e157 x0 x1 (zF Z)) (fun v5 => mp ())
set_option maxRecDepth 100000 in
set_option maxHeartbeats 4000000 in
theorem s_J0_checkIndex_df160 {X : Cg} (cx : Cx X cJ0_checkIndex_df160 RJ0 2) (hfr : 1 ≤ (xR X).frames) (hlo : 22 ≤ (xR X).locals) (hr : (xM X).sig.returnType = none) (x0 : Int32) (x1 : Int32) : Sim X 2 (FiM X vV) 0 [(0, .int x0), (1, .int x1)] [] (f_J0_checkIndex_df160 (xZ X) x0 x1) := by
  unfold f_J0_checkIndex_df160
  refine sm_iload_n cx 0 dJ0_checkIndex_df160_0 rfl rfl ?_
  refine sm_iload_n cx 1 dJ0_checkIndex_df160_1 rfl rfl ?_
  refine sm_gsF cx wd_4_150 dJ0_checkIndex_df160_2 ?_
  refine sm_callS (toV := vI) cx [.int x0, .int x1, va_rf (zF (xZ X))] cs_J0_1059 (ct_J3_checkIndex_8e157 (xZ X) x0 x1 (zF (xZ X))) (Nat.le_trans (by decide) hfr) (Nat.le_trans (by decide) hlo) rfl (cat_le _ (Nat.le_of_ble_eq_true rfl)) dJ0_checkIndex_df160_5 (fun v5 => ?_)
  refine sm_pop cx dJ0_checkIndex_df160_8 rfl ?_
  exact sm_vret cx hr dJ0_checkIndex_df160_9
set_option maxRecDepth 100000 in
set_option maxHeartbeats 4000000 in
theorem ct_J0_checkIndex_df160 (Z : Nat → Nat) (x0 : Int32) (x1 : Int32) : Ct yJ0_checkIndex_df160 cJ0_checkIndex_df160 2 none 1 22 Z [.int x0, .int x1] vV (f_J0_checkIndex_df160 Z x0 x1) := by
  refine ct_of (lv0 := [(0, .int x0), (1, .int x1)]) (by decide +kernel) (by simp [lg_sl, ct_i, ct_l, ct_r, rf_cat]) (by show _ = ([(0, .int x0), (1, .int x1)] : List (Nat × Value)); simp [lv_args, ct_i, ct_l, ct_r, rf_cat]) (fun X cx hZ hfr hlo hr hin => ?_)
  subst hZ
  exact s_J0_checkIndex_df160 cx (Nat.le_of_eq hfr.symm) (Nat.le_of_eq hlo.symm) hr x0 x1
/-! java/lang/StringLatin1.charAt([BI)C -/
theorem dJ1_charAt_3b067_0 : decode cJ1_charAt_3b067 0 = .ok (.iload_n 1, 1) := by decide +kernel
theorem dJ1_charAt_3b067_1 : decode cJ1_charAt_3b067 1 = .ok (.aload_n 0, 1) := by decide +kernel
theorem dJ1_charAt_3b067_2 : decode cJ1_charAt_3b067 2 = .ok (.arraylength, 1) := by decide +kernel
theorem dJ1_charAt_3b067_3 : decode cJ1_charAt_3b067 3 = .ok (.invokestatic 9, 3) := by decide +kernel
theorem dJ1_charAt_3b067_6 : decode cJ1_charAt_3b067 6 = .ok (.aload_n 0, 1) := by decide +kernel
theorem dJ1_charAt_3b067_7 : decode cJ1_charAt_3b067 7 = .ok (.iload_n 1, 1) := by decide +kernel
theorem dJ1_charAt_3b067_8 : decode cJ1_charAt_3b067 8 = .ok (.baload, 1) := by decide +kernel
theorem dJ1_charAt_3b067_9 : decode cJ1_charAt_3b067 9 = .ok (.sipush 255, 3) := by decide +kernel
theorem dJ1_charAt_3b067_12 : decode cJ1_charAt_3b067 12 = .ok (.iand, 1) := by decide +kernel
theorem dJ1_charAt_3b067_13 : decode cJ1_charAt_3b067 13 = .ok (.i2c, 1) := by decide +kernel
theorem dJ1_charAt_3b067_14 : decode cJ1_charAt_3b067 14 = .ok (.ireturn, 1) := by decide +kernel
def f_J1_charAt_3b067 (Z : Nat → Nat) (r0 : Option Nat) (x1 : Int32) : Mo Int32 := mb (aSn Z r0) (fun v2 => mb (f_J0_checkIndex_df160 Z x1 v2) (fun _ => mb (aSb Z r0 x1) (fun v8 => rz .char (UInt32.toInt32 (Int32.toUInt32 (v8 &&& (255 : Int32)) % 65536)))))
set_option maxRecDepth 100000 in
set_option maxHeartbeats 4000000 in
theorem s_J1_charAt_3b067 {X : Cg} (cx : Cx X cJ1_charAt_3b067 RJ1 2) (hfr : 2 ≤ (xR X).frames) (hlo : 43 ≤ (xR X).locals) (hr : (xM X).sig.returnType = (some .char)) (r0 : Option Nat) (x1 : Int32) : Sim X 2 (FiM X vI) 0 [(0, va_rf r0), (1, .int x1)] [] (f_J1_charAt_3b067 (xZ X) r0 x1) := by
  unfold f_J1_charAt_3b067
  refine sm_iload_n cx 1 dJ1_charAt_3b067_0 rfl rfl ?_
  refine sm_aload_n cx 0 dJ1_charAt_3b067_1 rfl rfl ?_
  refine sm_aSn cx dJ1_charAt_3b067_2 (fun v2 => ?_)
  refine sm_callS (toV := vV) cx [.int x1, .int v2] cs_J1_9 (ct_J0_checkIndex_df160 (xZ X) x1 v2) (Nat.le_trans (by decide) hfr) (Nat.le_trans (by decide) hlo) rfl (cat_le _ (Nat.le_of_ble_eq_true rfl)) dJ1_charAt_3b067_3 (fun _ => ?_)
  refine sm_aload_n cx 0 dJ1_charAt_3b067_6 rfl rfl ?_
  refine sm_iload_n cx 1 dJ1_charAt_3b067_7 rfl rfl ?_
  refine sm_aSb cx dJ1_charAt_3b067_8 (fun v8 => ?_)
  refine sm_sipush (v := 255) cx dJ1_charAt_3b067_9 (by decide) ?_
  refine sm_iand cx dJ1_charAt_3b067_12 ?_
  refine sm_i2c cx dJ1_charAt_3b067_13 ?_
  exact sm_zret cx hr dJ1_charAt_3b067_14
set_option maxRecDepth 100000 in
set_option maxHeartbeats 4000000 in
theorem ct_J1_charAt_3b067 (Z : Nat → Nat) (r0 : Option Nat) (x1 : Int32) : Ct yJ1_charAt_3b067 cJ1_charAt_3b067 2 (some .char) 2 43 Z [va_rf r0, .int x1] vI (f_J1_charAt_3b067 Z r0 x1) := by
  refine ct_of (lv0 := [(0, va_rf r0), (1, .int x1)]) (by decide +kernel) (by simp [lg_sl, ct_i, ct_l, ct_r, rf_cat]) (by show _ = ([(0, va_rf r0), (1, .int x1)] : List (Nat × Value)); simp [lv_args, ct_i, ct_l, ct_r, rf_cat]) (fun X cx hZ hfr hlo hr hin => ?_)
  subst hZ
  exact s_J1_charAt_3b067 cx (Nat.le_of_eq hfr.symm) (Nat.le_of_eq hlo.symm) hr r0 x1
/-! java/lang/String.charAt(I)C -/
theorem dJ0_charAt_5068e_0 : decode cJ0_charAt_5068e 0 = .ok (.aload_n 0, 1) := by decide +kernel
theorem dJ0_charAt_5068e_1 : decode cJ0_charAt_5068e 1 = .ok (.invokevirtual 492, 3) := by decide +kernel
theorem dJ0_charAt_5068e_4 : decode cJ0_charAt_5068e 4 = .ok (.ifCond .eq 12, 3) := by decide +kernel
theorem dJ0_charAt_5068e_7 : decode cJ0_charAt_5068e 7 = .ok (.aload_n 0, 1) := by decide +kernel
theorem dJ0_charAt_5068e_8 : decode cJ0_charAt_5068e 8 = .ok (.getfield 9, 3) := by decide +kernel
theorem dJ0_charAt_5068e_11 : decode cJ0_charAt_5068e 11 = .ok (.iload_n 1, 1) := by decide +kernel
theorem dJ0_charAt_5068e_12 : decode cJ0_charAt_5068e 12 = .ok (.invokestatic 495, 3) := by decide +kernel
theorem dJ0_charAt_5068e_15 : decode cJ0_charAt_5068e 15 = .ok (.ireturn, 1) := by decide +kernel
theorem dJ0_charAt_5068e_16 : decode cJ0_charAt_5068e 16 = .ok (.aload_n 0, 1) := by decide +kernel
theorem dJ0_charAt_5068e_17 : decode cJ0_charAt_5068e 17 = .ok (.getfield 9, 3) := by decide +kernel
theorem dJ0_charAt_5068e_20 : decode cJ0_charAt_5068e 20 = .ok (.iload_n 1, 1) := by decide +kernel
theorem dJ0_charAt_5068e_21 : decode cJ0_charAt_5068e 21 = .ok (.invokestatic 498, 3) := by decide +kernel
theorem dJ0_charAt_5068e_24 : decode cJ0_charAt_5068e 24 = .ok (.ireturn, 1) := by decide +kernel
def f_J0_charAt_5068e (Z : Nat → Nat) (r0 : Option Nat) (x1 : Int32) : Mo Int32 := mb (moS Z r0 (f_J0_isLatin1_aae02 Z r0)) (fun v1 => (if v1 = 0 then mb (gSv Z r0) (fun v17 => mf) else mb (gSv Z r0) (fun v8 => mb (f_J1_charAt_3b067 Z v8 x1) (fun v12 => rz .char v12))))
set_option maxRecDepth 100000 in
set_option maxHeartbeats 4000000 in
theorem s_J0_charAt_5068e {X : Cg} (cx : Cx X cJ0_charAt_5068e RJ0 2) (hfr : 3 ≤ (xR X).frames) (hlo : 64 ≤ (xR X).locals) (hr : (xM X).sig.returnType = (some .char)) (r0 : Option Nat) (x1 : Int32) : Sim X 2 (FiM X vI) 0 [(0, va_rf r0), (1, .int x1)] [] (f_J0_charAt_5068e (xZ X) r0 x1) := by
  unfold f_J0_charAt_5068e
  refine sm_aload_n cx 0 dJ0_charAt_5068e_0 rfl rfl ?_
  refine sm_callW (toV := vI) cx [] cv_J0_492 (fun a h => ct_J0_isLatin1_aae02 (xZ X) a h) (Nat.le_trans (by decide) hfr) (Nat.le_trans (by decide) hlo) rfl (cat_le _ (Nat.le_of_ble_eq_true rfl)) dJ0_charAt_5068e_1 (fun v1 => ?_)
  refine sm_if_eq (tgt := 16) cx dJ0_charAt_5068e_4 (by decide) ?_ ?_
  · refine sm_aload_n cx 0 dJ0_charAt_5068e_16 rfl rfl ?_
    refine sm_gSv cx wd_5_227 dJ0_charAt_5068e_17 (fun v17 => ?_)
    refine sm_iload_n cx 1 dJ0_charAt_5068e_20 rfl rfl ?_
    exact sm_mf
  · refine sm_aload_n cx 0 dJ0_charAt_5068e_7 rfl rfl ?_
    refine sm_gSv cx wd_5_227 dJ0_charAt_5068e_8 (fun v8 => ?_)
    refine sm_iload_n cx 1 dJ0_charAt_5068e_11 rfl rfl ?_
    refine sm_callS (toV := vI) cx [va_rf v8, .int x1] cs_J0_495 (ct_J1_charAt_3b067 (xZ X) v8 x1) (Nat.le_trans (by decide) hfr) (Nat.le_trans (by decide) hlo) rfl (cat_le _ (Nat.le_of_ble_eq_true rfl)) dJ0_charAt_5068e_12 (fun v12 => ?_)
    exact sm_zret cx hr dJ0_charAt_5068e_15
set_option maxRecDepth 100000 in
set_option maxHeartbeats 4000000 in
theorem ct_J0_charAt_5068e (Z : Nat → Nat) {r0 : Option Nat} (a0 : Nat) (h0 : r0 = some a0) (x1 : Int32) : Ct yJ0_charAt_5068e cJ0_charAt_5068e 2 (some .char) 3 64 Z [.ref a0, .int x1] vI (f_J0_charAt_5068e Z r0 x1) := by
  subst h0
  refine ct_of (lv0 := [(0, va_rf (some a0)), (1, .int x1)]) (by decide +kernel) (by simp [lg_sl, ct_i, ct_l, ct_r, rf_cat]) (by show _ = ([(0, Value.ref a0), (1, .int x1)] : List (Nat × Value)); simp [lv_args, ct_i, ct_l, ct_r, rf_cat]) (fun X cx hZ hfr hlo hr hin => ?_)
  subst hZ
  exact s_J0_charAt_5068e cx (Nat.le_of_eq hfr.symm) (Nat.le_of_eq hlo.symm) hr (some a0) x1
