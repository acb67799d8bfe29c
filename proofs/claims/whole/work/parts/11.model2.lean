theorem fl_X12_131 : FldOk RX12 131 15 16 .int false true := ⟨RX12, TX12, 47, "PolicyTreeModel", tyX12, rfl, by decide, inT_X12, tyX12_ok, nmX12, wd_6_143, Or.inl rfl, tyX12_ok 16 (by decide), rfl, fun _ => rfl⟩
theorem fl_X12_134 : FldOk RX12 134 15 17 .int false true := ⟨RX12, TX12, 47, "PolicyTreeModel", tyX12, rfl, by decide, inT_X12, tyX12_ok, nmX12, wd_6_144, Or.inl rfl, tyX12_ok 17 (by decide), rfl, fun _ => rfl⟩
theorem fl_X12_140 : FldOk RX12 140 15 18 .int false true := ⟨RX12, TX12, 47, "PolicyTreeModel", tyX12, rfl, by decide, inT_X12, tyX12_ok, nmX12, wd_6_145, Or.inl rfl, tyX12_ok 18 (by decide), rfl, fun _ => rfl⟩
theorem fl_X12_160 : FldOk RX12 160 15 22 .int false true := ⟨RX12, TX12, 47, "PolicyTreeModel", tyX12, rfl, by decide, inT_X12, tyX12_ok, nmX12, wd_6_149, Or.inl rfl, tyX12_ok 22 (by decide), rfl, fun _ => rfl⟩
theorem fl_X12_180 : FldOk RX12 180 15 20 .int false true := ⟨RX12, TX12, 47, "PolicyTreeModel", tyX12, rfl, by decide, inT_X12, tyX12_ok, nmX12, wd_6_147, Or.inl rfl, tyX12_ok 20 (by decide), rfl, fun _ => rfl⟩
theorem cv_X12_137 : CalV RX12 137 RX12 yX12_byteAt cX12_byteAt 2 (some .int) 1 := ⟨wd_V wd_7_113 wd_7_115 wp_3_4 wd_1_16 wd_7_116, rfl, by decide +kernel, by decide +kernel, by decide +kernel⟩
theorem cv_X12_146 : CalV RX12 146 RJ0 yJ0_length_8abf5 cJ0_length_8abf5 1 (some .int) 0 := ⟨wd_V wd_7_134 wd_4_127 wd_4_128 wd_1_27 wd_4_129, rfl, by decide +kernel, by decide +kernel, by decide +kernel⟩
theorem cv_X12_152 : CalV RX12 152 RJ0 yJ0_charAt_5068e cJ0_charAt_5068e 2 (some .char) 1 := ⟨wd_V wd_7_135 wd_4_137 wd_4_138 wd_1_27 wd_4_139, rfl, by decide +kernel, by decide +kernel, by decide +kernel⟩
theorem cv_X12_143 : CalV RX12 143 RX12 yX12_blanks cX12_blanks 1 none 0 := ⟨wd_V wd_7_109 wd_7_111 wp_3_3 wd_1_16 wd_7_112, rfl, by decide +kernel, by decide +kernel, by decide +kernel⟩
theorem cv_X12_156 : CalV RX12 156 RX12 yX12_isWord cX12_isWord 3 (some .boolean) 1 := ⟨wd_V wd_7_130 wd_7_132 wp_3_8 wd_1_16 wd_7_133, rfl, by decide +kernel, by decide +kernel, by decide +kernel⟩
theorem cv_X12_183 : CalV RX12 183 RX12 yX12_wrong cX12_wrong 3 none 2 := ⟨wd_V wd_7_140 wd_7_142 wp_3_10 wd_1_16 wd_7_143, rfl, by decide +kernel, by decide +kernel, by decide +kernel⟩
theorem cv_X12_171 : CalV RX12 171 RX12 yX12_emits cX12_emits 4 none 1 := ⟨wd_V wd_7_144 wd_7_146 wp_3_11 wd_1_16 wd_7_147, rfl, by decide +kernel, by decide +kernel, by decide +kernel⟩
theorem cv_X12_168 : CalV RX12 168 RX12 yX12_eat cX12_eat 3 (some .boolean) 1 := ⟨wd_V wd_7_149 wd_7_151 wp_3_12 wd_1_16 wd_7_152, rfl, by decide +kernel, by decide +kernel, by decide +kernel⟩
theorem cv_X12_198 : CalV RX12 198 RX12 yX12_number cX12_number 5 none 2 := ⟨wd_V wd_7_153 wd_7_155 wp_3_13 wd_1_16 wd_7_156, rfl, by decide +kernel, by decide +kernel, by decide +kernel⟩
theorem cv_X12_189 : CalV RX12 189 RX12 yX12_opens cX12_opens 1 (some .boolean) 0 := ⟨wd_V wd_7_136 wd_7_138 wp_3_9 wd_1_16 wd_7_139, rfl, by decide +kernel, by decide +kernel, by decide +kernel⟩
theorem cv_X12_193 : CalV RX12 193 RX12 yX12_any cX12_any 1 none 0 := ⟨wd_V wd_7_117 wd_7_119 wp_3_5 wd_1_16 wd_7_120, rfl, by decide +kernel, by decide +kernel, by decide +kernel⟩
theorem cv_X12_175 : CalV RX12 175 RX12 yX12_one cX12_one 1 none 0 := ⟨wd_V wd_7_125 wd_7_127 wp_3_7 wd_1_16 wd_7_128, rfl, by decide +kernel, by decide +kernel, by decide +kernel⟩
theorem cv_X12_163 : CalV RX12 163 RX12 yX12_all cX12_all 1 none 0 := ⟨wd_V wd_7_121 wd_7_123 wp_3_6 wd_1_16 wd_7_124, rfl, by decide +kernel, by decide +kernel, by decide +kernel⟩
/-! PolicyTreeModel.byteAt(I)I -/
theorem dX12_byteAt_0 : decode cX12_byteAt 0 = .ok (.iload_n 1, 1) := by decide +kernel
theorem dX12_byteAt_1 : decode cX12_byteAt 1 = .ok (.aload_n 0, 1) := by decide +kernel
theorem dX12_byteAt_2 : decode cX12_byteAt 2 = .ok (.getfield 131, 3) := by decide +kernel
theorem dX12_byteAt_5 : decode cX12_byteAt 5 = .ok (.if_icmp .ge 16, 3) := by decide +kernel
theorem dX12_byteAt_8 : decode cX12_byteAt 8 = .ok (.aload_n 0, 1) := by decide +kernel
theorem dX12_byteAt_9 : decode cX12_byteAt 9 = .ok (.getfield 38, 3) := by decide +kernel
theorem dX12_byteAt_12 : decode cX12_byteAt 12 = .ok (.iload_n 1, 1) := by decide +kernel
theorem dX12_byteAt_13 : decode cX12_byteAt 13 = .ok (.baload, 1) := by decide +kernel
theorem dX12_byteAt_14 : decode cX12_byteAt 14 = .ok (.sipush 255, 3) := by decide +kernel
theorem dX12_byteAt_17 : decode cX12_byteAt 17 = .ok (.iand, 1) := by decide +kernel
theorem dX12_byteAt_18 : decode cX12_byteAt 18 = .ok (.goto 4, 3) := by decide +kernel
theorem dX12_byteAt_21 : decode cX12_byteAt 21 = .ok (.iconst 0, 1) := by decide +kernel
theorem dX12_byteAt_22 : decode cX12_byteAt 22 = .ok (.ireturn, 1) := by decide +kernel
def f_X12_byteAt_22 (sx0 : Int32) : Mo Int32 := mp sx0
set_option maxRecDepth 100000 in
set_option maxHeartbeats 4000000 in
theorem s_X12_byteAt_22 {X : Cg} (cx : Cx X cX12_byteAt RX12 2) (hfr : 0 ≤ (xR X).frames) (hlo : 0 ≤ (xR X).locals) (hr : (xM X).sig.returnType = (some .int)) (sx0 : Int32) : Sim X 2 (FiM X vI) 22 [] [.int sx0] (f_X12_byteAt_22 sx0) := by
  unfold f_X12_byteAt_22
  exact sm_iret cx hr dX12_byteAt_22
def f_X12_byteAt (r0 : Option Nat) (x1 : Int32) : Mo Int32 := mb (gI 15 16 r0) (fun v2 => (if v2 ≤ x1 then f_X12_byteAt_22 (0 : Int32) else mb (gR 15 14 r0) (fun v9 => mb (aI 0 v9 x1) (fun v13 => f_X12_byteAt_22 (v13 &&& (255 : Int32))))))
set_option maxRecDepth 100000 in
set_option maxHeartbeats 4000000 in
theorem s_X12_byteAt {X : Cg} (cx : Cx X cX12_byteAt RX12 2) (hfr : 0 ≤ (xR X).frames) (hlo : 0 ≤ (xR X).locals) (hr : (xM X).sig.returnType = (some .int)) (r0 : Option Nat) (x1 : Int32) : Sim X 2 (FiM X vI) 0 [(0, va_rf r0), (1, .int x1)] [] (f_X12_byteAt r0 x1) := by
  unfold f_X12_byteAt
  refine sm_iload_n cx 1 dX12_byteAt_0 rfl rfl ?_
  refine sm_aload_n cx 0 dX12_byteAt_1 rfl rfl ?_
  refine sm_getI cx fl_X12_131 dX12_byteAt_2 (fun v2 => ?_)
  refine sm_icmp_ge (tgt := 21) cx dX12_byteAt_5 (by decide) ?_ ?_
  · refine sm_iconst (v := 0) cx dX12_byteAt_21 (by decide) ?_
    exact sm_lv [] rfl (s_X12_byteAt_22 cx hfr hlo hr (0 : Int32))
  · refine sm_aload_n cx 0 dX12_byteAt_8 rfl rfl ?_
    refine sm_getR cx fl_X12_38 dX12_byteAt_9 (fun v9 => ?_)
    refine sm_iload_n cx 1 dX12_byteAt_12 rfl rfl ?_
    refine sm_bald cx dX12_byteAt_13 (fun v13 => ?_)
    refine sm_sipush (v := 255) cx dX12_byteAt_14 (by decide) ?_
    refine sm_iand cx dX12_byteAt_17 ?_
    refine sm_goto (tgt := 22) cx dX12_byteAt_18 (by decide) ?_
    exact sm_lv [] rfl (s_X12_byteAt_22 cx hfr hlo hr (v13 &&& (255 : Int32)))
set_option maxRecDepth 100000 in
set_option maxHeartbeats 4000000 in
theorem ct_X12_byteAt (Z : Nat → Nat) {r0 : Option Nat} (a0 : Nat) (h0 : r0 = some a0) (x1 : Int32) : Ct yX12_byteAt cX12_byteAt 2 (some .int) 0 0 Z [.ref a0, .int x1] vI (f_X12_byteAt r0 x1) := by
  subst h0
  refine ct_of (lv0 := [(0, va_rf (some a0)), (1, .int x1)]) (by decide +kernel) (by simp [lg_sl, ct_i, ct_l, ct_r, rf_cat]) (by show _ = ([(0, Value.ref a0), (1, .int x1)] : List (Nat × Value)); simp [lv_args, ct_i, ct_l, ct_r, rf_cat]) (fun X cx hZ hfr hlo hr hin => ?_)
  subst hZ
  exact s_X12_byteAt cx (Nat.le_of_eq hfr.symm) (Nat.le_of_eq hlo.symm) hr (some a0) x1
/-! PolicyTreeModel.blanks()V -/
theorem dX12_blanks_0 : decode cX12_blanks 0 = .ok (.aload_n 0, 1) := by decide +kernel
theorem dX12_blanks_1 : decode cX12_blanks 1 = .ok (.getfield 134, 3) := by decide +kernel
theorem dX12_blanks_4 : decode cX12_blanks 4 = .ok (.aload_n 0, 1) := by decide +kernel
theorem dX12_blanks_5 : decode cX12_blanks 5 = .ok (.getfield 131, 3) := by decide +kernel
theorem dX12_blanks_8 : decode cX12_blanks 8 = .ok (.if_icmp .ge 29, 3) := by decide +kernel
theorem dX12_blanks_11 : decode cX12_blanks 11 = .ok (.aload_n 0, 1) := by decide +kernel
theorem dX12_blanks_12 : decode cX12_blanks 12 = .ok (.aload_n 0, 1) := by decide +kernel
theorem dX12_blanks_13 : decode cX12_blanks 13 = .ok (.getfield 134, 3) := by decide +kernel
theorem dX12_blanks_16 : decode cX12_blanks 16 = .ok (.invokevirtual 137, 3) := by decide +kernel
theorem dX12_blanks_19 : decode cX12_blanks 19 = .ok (.bipush 32, 2) := by decide +kernel
theorem dX12_blanks_21 : decode cX12_blanks 21 = .ok (.if_icmp .ne 16, 3) := by decide +kernel
theorem dX12_blanks_24 : decode cX12_blanks 24 = .ok (.aload_n 0, 1) := by decide +kernel
theorem dX12_blanks_25 : decode cX12_blanks 25 = .ok (.dup, 1) := by decide +kernel
theorem dX12_blanks_26 : decode cX12_blanks 26 = .ok (.getfield 134, 3) := by decide +kernel
theorem dX12_blanks_29 : decode cX12_blanks 29 = .ok (.iconst 1, 1) := by decide +kernel
theorem dX12_blanks_30 : decode cX12_blanks 30 = .ok (.iadd, 1) := by decide +kernel
theorem dX12_blanks_31 : decode cX12_blanks 31 = .ok (.putfield 134, 3) := by decide +kernel
theorem dX12_blanks_34 : decode cX12_blanks 34 = .ok (.goto (-34), 3) := by decide +kernel
theorem dX12_blanks_37 : decode cX12_blanks 37 = .ok (.return_, 1) := by decide +kernel
def f_X12_blanks_37 : Mo Unit := mp ()
set_option maxRecDepth 100000 in
set_option maxHeartbeats 4000000 in
theorem s_X12_blanks_37 {X : Cg} (cx : Cx X cX12_blanks RX12 1) (hfr : 1 ≤ (xR X).frames) (hlo : 21 ≤ (xR X).locals) (hr : (xM X).sig.returnType = none) : Sim X 1 (FiM X vV) 37 [] [] (f_X12_blanks_37) := by
  unfold f_X12_blanks_37
  exact sm_vret cx hr dX12_blanks_37
def f_X12_blanks_0 (r0 : Option Nat) : Nat → Mo Unit
  | 0 => mf
  | n + 1 => mb (gI 15 17 r0) (fun v1 => mb (gI 15 16 r0) (fun v5 => (if v5 ≤ v1 then f_X12_blanks_37 else mb (gI 15 17 r0) (fun v13 => mb (mo 15 r0 (f_X12_byteAt r0 v13)) (fun v16 => (if v16 = (32 : Int32) then mb (gI 15 17 r0) (fun v26 => mb (pV 15 17 r0 (.int (v26 + (1 : Int32)))) (fun _ => (f_X12_blanks_0 r0 n))) else f_X12_blanks_37))))))
set_option maxRecDepth 100000 in
set_option maxHeartbeats 4000000 in
theorem s_X12_blanks_0 {X : Cg} (cx : Cx X cX12_blanks RX12 1) (hfr : 1 ≤ (xR X).frames) (hlo : 21 ≤ (xR X).locals) (hr : (xM X).sig.returnType = none) (r0 : Option Nat) : ∀ (n : Nat), Sim X 1 (FiM X vV) 0 [(0, va_rf r0)] [] (f_X12_blanks_0 r0 n) := by
  intro n
  induction n with
  | zero =>
    exact sm_mf
  | succ n ih =>
    rw [f_X12_blanks_0]
    refine sm_aload_n cx 0 dX12_blanks_0 rfl rfl ?_
    refine sm_getI cx fl_X12_134 dX12_blanks_1 (fun v1 => ?_)
    refine sm_aload_n cx 0 dX12_blanks_4 rfl rfl ?_
    refine sm_getI cx fl_X12_131 dX12_blanks_5 (fun v5 => ?_)
    refine sm_icmp_ge (tgt := 37) cx dX12_blanks_8 (by decide) ?_ ?_
    · exact sm_lv [] rfl (s_X12_blanks_37 cx hfr hlo hr)
    · refine sm_aload_n cx 0 dX12_blanks_11 rfl rfl ?_
      refine sm_aload_n cx 0 dX12_blanks_12 rfl rfl ?_
      refine sm_getI cx fl_X12_134 dX12_blanks_13 (fun v13 => ?_)
      refine sm_callV (T := TX12) (N := 47) (toV := vI) cx [.int v13] rfl cv_X12_137 (fun a h => ct_X12_byteAt (xZ X) a h v13) (Nat.le_trans (by decide) hfr) (Nat.le_trans (by decide) hlo) rfl (cat_le _ (Nat.le_of_ble_eq_true rfl)) dX12_blanks_16 (fun v16 => ?_)
      refine sm_bipush (v := 32) cx dX12_blanks_19 (by decide) ?_
      refine sm_icmp_ne (tgt := 37) cx dX12_blanks_21 (by decide) ?_ ?_
      · exact sm_lv [] rfl (s_X12_blanks_37 cx hfr hlo hr)
      · refine sm_aload_n cx 0 dX12_blanks_24 rfl rfl ?_
        refine sm_dup cx dX12_blanks_25 (rf_cat _) ?_
        refine sm_getI cx fl_X12_134 dX12_blanks_26 (fun v26 => ?_)
        refine sm_iconst (v := 1) cx dX12_blanks_29 (by decide) ?_
        refine sm_iadd cx dX12_blanks_30 ?_
        refine sm_putV cx fl_X12_134 rfl rfl dX12_blanks_31 ?_
        refine sm_goto (tgt := 0) cx dX12_blanks_34 (by decide) ?_
        exact sm_lv [0] rfl (ih)
def f_X12_blanks (r0 : Option Nat) : Mo Unit := f_X12_blanks_0 r0 fuL
set_option maxRecDepth 100000 in
set_option maxHeartbeats 4000000 in
theorem s_X12_blanks {X : Cg} (cx : Cx X cX12_blanks RX12 1) (hfr : 1 ≤ (xR X).frames) (hlo : 21 ≤ (xR X).locals) (hr : (xM X).sig.returnType = none) (r0 : Option Nat) : Sim X 1 (FiM X vV) 0 [(0, va_rf r0)] [] (f_X12_blanks r0) := by
  unfold f_X12_blanks
  exact sm_lv [0] rfl (s_X12_blanks_0 cx hfr hlo hr r0 fuL)
set_option maxRecDepth 100000 in
set_option maxHeartbeats 4000000 in
theorem ct_X12_blanks (Z : Nat → Nat) {r0 : Option Nat} (a0 : Nat) (h0 : r0 = some a0) : Ct yX12_blanks cX12_blanks 1 none 1 21 Z [.ref a0] vV (f_X12_blanks r0) := by
  subst h0
  refine ct_of (lv0 := [(0, va_rf (some a0))]) (by decide +kernel) (by simp [lg_sl, ct_i, ct_l, ct_r, rf_cat]) (by show _ = ([(0, Value.ref a0)] : List (Nat × Value)); simp [lv_args, ct_i, ct_l, ct_r, rf_cat]) (fun X cx hZ hfr hlo hr hin => ?_)
  subst hZ
  exact s_X12_blanks cx (Nat.le_of_eq hfr.symm) (Nat.le_of_eq hlo.symm) hr (some a0)
/-! PolicyTreeModel.wrong(II)V -/
theorem dX12_wrong_0 : decode cX12_wrong 0 = .ok (.aload_n 0, 1) := by decide +kernel
theorem dX12_wrong_1 : decode cX12_wrong 1 = .ok (.getfield 140, 3) := by decide +kernel
theorem dX12_wrong_4 : decode cX12_wrong 4 = .ok (.ifCond .le 4, 3) := by decide +kernel
theorem dX12_wrong_7 : decode cX12_wrong 7 = .ok (.return_, 1) := by decide +kernel
theorem dX12_wrong_8 : decode cX12_wrong 8 = .ok (.aload_n 0, 1) := by decide +kernel
theorem dX12_wrong_9 : decode cX12_wrong 9 = .ok (.iload_n 1, 1) := by decide +kernel
theorem dX12_wrong_10 : decode cX12_wrong 10 = .ok (.putfield 140, 3) := by decide +kernel
theorem dX12_wrong_13 : decode cX12_wrong 13 = .ok (.aload_n 0, 1) := by decide +kernel
theorem dX12_wrong_14 : decode cX12_wrong 14 = .ok (.iload_n 2, 1) := by decide +kernel
theorem dX12_wrong_15 : decode cX12_wrong 15 = .ok (.putfield 42, 3) := by decide +kernel
theorem dX12_wrong_18 : decode cX12_wrong 18 = .ok (.return_, 1) := by decide +kernel
def f_X12_wrong (r0 : Option Nat) (x1 : Int32) (x2 : Int32) : Mo Unit := mb (gI 15 18 r0) (fun v1 => (if v1 ≤ 0 then mb (pV 15 18 r0 (.int x1)) (fun _ => mb (pV 15 19 r0 (.int x2)) (fun _ => mp ())) else mp ()))
set_option maxRecDepth 100000 in
set_option maxHeartbeats 4000000 in
theorem s_X12_wrong {X : Cg} (cx : Cx X cX12_wrong RX12 3) (hfr : 0 ≤ (xR X).frames) (hlo : 0 ≤ (xR X).locals) (hr : (xM X).sig.returnType = none) (r0 : Option Nat) (x1 : Int32) (x2 : Int32) : Sim X 3 (FiM X vV) 0 [(0, va_rf r0), (1, .int x1), (2, .int x2)] [] (f_X12_wrong r0 x1 x2) := by
  unfold f_X12_wrong
  refine sm_aload_n cx 0 dX12_wrong_0 rfl rfl ?_
  refine sm_getI cx fl_X12_140 dX12_wrong_1 (fun v1 => ?_)
  refine sm_if_le (tgt := 8) cx dX12_wrong_4 (by decide) ?_ ?_
  · refine sm_aload_n cx 0 dX12_wrong_8 rfl rfl ?_
    refine sm_iload_n cx 1 dX12_wrong_9 rfl rfl ?_
    refine sm_putV cx fl_X12_140 rfl rfl dX12_wrong_10 ?_
    refine sm_aload_n cx 0 dX12_wrong_13 rfl rfl ?_
    refine sm_iload_n cx 2 dX12_wrong_14 rfl rfl ?_
    refine sm_putV cx fl_X12_42 rfl rfl dX12_wrong_15 ?_
    exact sm_vret cx hr dX12_wrong_18
  · exact sm_vret cx hr dX12_wrong_7
set_option maxRecDepth 100000 in
set_option maxHeartbeats 4000000 in
theorem ct_X12_wrong (Z : Nat → Nat) {r0 : Option Nat} (a0 : Nat) (h0 : r0 = some a0) (x1 : Int32) (x2 : Int32) : Ct yX12_wrong cX12_wrong 3 none 0 0 Z [.ref a0, .int x1, .int x2] vV (f_X12_wrong r0 x1 x2) := by
  subst h0
  refine ct_of (lv0 := [(0, va_rf (some a0)), (1, .int x1), (2, .int x2)]) (by decide +kernel) (by simp [lg_sl, ct_i, ct_l, ct_r, rf_cat]) (by show _ = ([(0, Value.ref a0), (1, .int x1), (2, .int x2)] : List (Nat × Value)); simp [lv_args, ct_i, ct_l, ct_r, rf_cat]) (fun X cx hZ hfr hlo hr hin => ?_)
  subst hZ
  exact s_X12_wrong cx (Nat.le_of_eq hfr.symm) (Nat.le_of_eq hlo.symm) hr (some a0) x1 x2
/-! PolicyTreeModel.isWord(Ljava/lang/String;)Z -/
theorem dX12_isWord_0 : decode cX12_isWord 0 = .ok (.aload_n 0, 1) := by decide +kernel
theorem dX12_isWord_1 : decode cX12_isWord 1 = .ok (.invokevirtual 143, 3) := by decide +kernel
theorem dX12_isWord_4 : decode cX12_isWord 4 = .ok (.iconst 0, 1) := by decide +kernel
theorem dX12_isWord_5 : decode cX12_isWord 5 = .ok (.istore_n 2, 1) := by decide +kernel
theorem dX12_isWord_6 : decode cX12_isWord 6 = .ok (.iload_n 2, 1) := by decide +kernel
theorem dX12_isWord_7 : decode cX12_isWord 7 = .ok (.aload_n 1, 1) := by decide +kernel
theorem dX12_isWord_8 : decode cX12_isWord 8 = .ok (.invokevirtual 146, 3) := by decide +kernel
theorem dX12_isWord_11 : decode cX12_isWord 11 = .ok (.if_icmp .ge 29, 3) := by decide +kernel
theorem dX12_isWord_14 : decode cX12_isWord 14 = .ok (.aload_n 0, 1) := by decide +kernel
theorem dX12_isWord_15 : decode cX12_isWord 15 = .ok (.aload_n 0, 1) := by decide +kernel
theorem dX12_isWord_16 : decode cX12_isWord 16 = .ok (.getfield 134, 3) := by decide +kernel
theorem dX12_isWord_19 : decode cX12_isWord 19 = .ok (.iload_n 2, 1) := by decide +kernel
theorem dX12_isWord_20 : decode cX12_isWord 20 = .ok (.iadd, 1) := by decide +kernel
theorem dX12_isWord_21 : decode cX12_isWord 21 = .ok (.invokevirtual 137, 3) := by decide +kernel
theorem dX12_isWord_24 : decode cX12_isWord 24 = .ok (.aload_n 1, 1) := by decide +kernel
theorem dX12_isWord_25 : decode cX12_isWord 25 = .ok (.iload_n 2, 1) := by decide +kernel
theorem dX12_isWord_26 : decode cX12_isWord 26 = .ok (.invokevirtual 152, 3) := by decide +kernel
theorem dX12_isWord_29 : decode cX12_isWord 29 = .ok (.if_icmp .eq 5, 3) := by decide +kernel
theorem dX12_isWord_32 : decode cX12_isWord 32 = .ok (.iconst 0, 1) := by decide +kernel
theorem dX12_isWord_33 : decode cX12_isWord 33 = .ok (.ireturn, 1) := by decide +kernel
theorem dX12_isWord_34 : decode cX12_isWord 34 = .ok (.iinc 2 1, 3) := by decide +kernel
theorem dX12_isWord_37 : decode cX12_isWord 37 = .ok (.goto (-31), 3) := by decide +kernel
theorem dX12_isWord_40 : decode cX12_isWord 40 = .ok (.aload_n 0, 1) := by decide +kernel
theorem dX12_isWord_41 : decode cX12_isWord 41 = .ok (.aload_n 0, 1) := by decide +kernel
theorem dX12_isWord_42 : decode cX12_isWord 42 = .ok (.getfield 134, 3) := by decide +kernel
theorem dX12_isWord_45 : decode cX12_isWord 45 = .ok (.aload_n 1, 1) := by decide +kernel
theorem dX12_isWord_46 : decode cX12_isWord 46 = .ok (.invokevirtual 146, 3) := by decide +kernel
theorem dX12_isWord_49 : decode cX12_isWord 49 = .ok (.iadd, 1) := by decide +kernel
theorem dX12_isWord_50 : decode cX12_isWord 50 = .ok (.invokevirtual 137, 3) := by decide +kernel
theorem dX12_isWord_53 : decode cX12_isWord 53 = .ok (.istore_n 2, 1) := by decide +kernel
theorem dX12_isWord_54 : decode cX12_isWord 54 = .ok (.iload_n 2, 1) := by decide +kernel
theorem dX12_isWord_55 : decode cX12_isWord 55 = .ok (.bipush 97, 2) := by decide +kernel
theorem dX12_isWord_57 : decode cX12_isWord 57 = .ok (.if_icmp .lt 9, 3) := by decide +kernel
theorem dX12_isWord_60 : decode cX12_isWord 60 = .ok (.iload_n 2, 1) := by decide +kernel
theorem dX12_isWord_61 : decode cX12_isWord 61 = .ok (.bipush 122, 2) := by decide +kernel
theorem dX12_isWord_63 : decode cX12_isWord 63 = .ok (.if_icmp .le 7, 3) := by decide +kernel
theorem dX12_isWord_66 : decode cX12_isWord 66 = .ok (.iconst 1, 1) := by decide +kernel
theorem dX12_isWord_67 : decode cX12_isWord 67 = .ok (.goto 4, 3) := by decide +kernel
theorem dX12_isWord_70 : decode cX12_isWord 70 = .ok (.iconst 0, 1) := by decide +kernel
theorem dX12_isWord_71 : decode cX12_isWord 71 = .ok (.ireturn, 1) := by decide +kernel
def f_X12_isWord_71 (Z : Nat → Nat) (sx0 : Int32) : Mo Int32 := rz .boolean sx0
set_option maxRecDepth 100000 in
set_option maxHeartbeats 4000000 in
theorem s_X12_isWord_71 {X : Cg} (cx : Cx X cX12_isWord RX12 3) (hfr : 4 ≤ (xR X).frames) (hlo : 85 ≤ (xR X).locals) (hr : (xM X).sig.returnType = (some .boolean)) (sx0 : Int32) : Sim X 3 (FiM X vI) 71 [] [.int sx0] (f_X12_isWord_71 (xZ X) sx0) := by
  unfold f_X12_isWord_71
  exact sm_zret cx hr dX12_isWord_71
def f_X12_isWord_66 (Z : Nat → Nat) : Mo Int32 := f_X12_isWord_71 Z (1 : Int32)
set_option maxRecDepth 100000 in
set_option maxHeartbeats 4000000 in
theorem s_X12_isWord_66 {X : Cg} (cx : Cx X cX12_isWord RX12 3) (hfr : 4 ≤ (xR X).frames) (hlo : 85 ≤ (xR X).locals) (hr : (xM X).sig.returnType = (some .boolean)) : Sim X 3 (FiM X vI) 66 [] [] (f_X12_isWord_66 (xZ X)) := by
  unfold f_X12_isWord_66
  refine sm_iconst (v := 1) cx dX12_isWord_66 (by decide) ?_
  refine sm_goto (tgt := 71) cx dX12_isWord_67 (by decide) ?_
  exact sm_lv [] rfl (s_X12_isWord_71 cx hfr hlo hr (1 : Int32))
def f_X12_isWord_6 (Z : Nat → Nat) (r0 : Option Nat) (r1 : Option Nat) : Nat → Int32 → Mo Int32
  | 0, _ => mf
  | n + 1, x2 => mb (moS Z r1 (f_J0_length_8abf5 Z r1)) (fun v8 => (if v8 ≤ x2 then mb (gI 15 17 r0) (fun v42 => mb (moS Z r1 (f_J0_length_8abf5 Z r1)) (fun v46 => mb (mo 15 r0 (f_X12_byteAt r0 (v42 + v46))) (fun v50 => (if v50 < (97 : Int32) then f_X12_isWord_66 Z else (if v50 ≤ (122 : Int32) then f_X12_isWord_71 Z (0 : Int32) else f_X12_isWord_66 Z))))) else mb (gI 15 17 r0) (fun v16 => mb (mo 15 r0 (f_X12_byteAt r0 (v16 + x2))) (fun v21 => mb (moS Z r1 (f_J0_charAt_5068e Z r1 x2)) (fun v26 => (if v21 = v26 then (f_X12_isWord_6 Z r0 r1 n) (x2 + 1) else rz .boolean (0 : Int32)))))))
set_option maxRecDepth 100000 in
set_option maxHeartbeats 4000000 in
theorem s_X12_isWord_6 {X : Cg} (cx : Cx X cX12_isWord RX12 3) (hfr : 4 ≤ (xR X).frames) (hlo : 85 ≤ (xR X).locals) (hr : (xM X).sig.returnType = (some .boolean)) (r0 : Option Nat) (r1 : Option Nat) : ∀ (n : Nat) (x2 : Int32), Sim X 3 (FiM X vI) 6 [(0, va_rf r0), (1, va_rf r1), (2, .int x2)] [] (f_X12_isWord_6 (xZ X) r0 r1 n x2) := by
  intro n
  induction n with
  | zero =>
    intro _
    exact sm_mf
  | succ n ih =>
    intro x2
    rw [f_X12_isWord_6]
    refine sm_iload_n cx 2 dX12_isWord_6 rfl rfl ?_
    refine sm_aload_n cx 1 dX12_isWord_7 rfl rfl ?_
    refine sm_callW (toV := vI) cx [] cv_X12_146 (fun a h => ct_J0_length_8abf5 (xZ X) a h) (Nat.le_trans (by decide) hfr) (Nat.le_trans (by decide) hlo) rfl (cat_le _ (Nat.le_of_ble_eq_true rfl)) dX12_isWord_8 (fun v8 => ?_)
    refine sm_icmp_ge (tgt := 40) cx dX12_isWord_11 (by decide) ?_ ?_
    · refine sm_aload_n cx 0 dX12_isWord_40 rfl rfl ?_
      refine sm_aload_n cx 0 dX12_isWord_41 rfl rfl ?_
      refine sm_getI cx fl_X12_134 dX12_isWord_42 (fun v42 => ?_)
      refine sm_aload_n cx 1 dX12_isWord_45 rfl rfl ?_
      refine sm_callW (toV := vI) cx [] cv_X12_146 (fun a h => ct_J0_length_8abf5 (xZ X) a h) (Nat.le_trans (by decide) hfr) (Nat.le_trans (by decide) hlo) rfl (cat_le _ (Nat.le_of_ble_eq_true rfl)) dX12_isWord_46 (fun v46 => ?_)
      refine sm_iadd cx dX12_isWord_49 ?_
      refine sm_callV (T := TX12) (N := 47) (toV := vI) cx [.int (v42 + v46)] rfl cv_X12_137 (fun a h => ct_X12_byteAt (xZ X) a h (v42 + v46)) (Nat.le_trans (by decide) hfr) (Nat.le_trans (by decide) hlo) rfl (cat_le _ (Nat.le_of_ble_eq_true rfl)) dX12_isWord_50 (fun v50 => ?_)
      refine sm_istore_n cx [(2, .int v50), (0, va_rf r0), (1, va_rf r1)] dX12_isWord_53 rfl (by decide) rfl (nc1 (rf_cat _)) rfl ?_
      refine sm_iload_n cx 0 dX12_isWord_54 rfl rfl ?_
      refine sm_bipush (v := 97) cx dX12_isWord_55 (by decide) ?_
      refine sm_icmp_lt (tgt := 66) cx dX12_isWord_57 (by decide) ?_ ?_
      · exact sm_lv [] rfl (s_X12_isWord_66 cx hfr hlo hr)
      · refine sm_iload_n cx 0 dX12_isWord_60 rfl rfl ?_
        refine sm_bipush (v := 122) cx dX12_isWord_61 (by decide) ?_
        refine sm_icmp_le (tgt := 70) cx dX12_isWord_63 (by decide) ?_ ?_
        · refine sm_iconst (v := 0) cx dX12_isWord_70 (by decide) ?_
          exact sm_lv [] rfl (s_X12_isWord_71 cx hfr hlo hr (0 : Int32))
        · exact sm_lv [] rfl (s_X12_isWord_66 cx hfr hlo hr)
    · refine sm_aload_n cx 0 dX12_isWord_14 rfl rfl ?_
      refine sm_aload_n cx 0 dX12_isWord_15 rfl rfl ?_
      refine sm_getI cx fl_X12_134 dX12_isWord_16 (fun v16 => ?_)
      refine sm_iload_n cx 2 dX12_isWord_19 rfl rfl ?_
      refine sm_iadd cx dX12_isWord_20 ?_
      refine sm_callV (T := TX12) (N := 47) (toV := vI) cx [.int (v16 + x2)] rfl cv_X12_137 (fun a h => ct_X12_byteAt (xZ X) a h (v16 + x2)) (Nat.le_trans (by decide) hfr) (Nat.le_trans (by decide) hlo) rfl (cat_le _ (Nat.le_of_ble_eq_true rfl)) dX12_isWord_21 (fun v21 => ?_)
      refine sm_aload_n cx 1 dX12_isWord_24 rfl rfl ?_
      refine sm_iload_n cx 2 dX12_isWord_25 rfl rfl ?_
      refine sm_callW (toV := vI) cx [.int x2] cv_X12_152 (fun a h => ct_J0_charAt_5068e (xZ X) a h x2) (Nat.le_trans (by decide) hfr) (Nat.le_trans (by decide) hlo) rfl (cat_le _ (Nat.le_of_ble_eq_true rfl)) dX12_isWord_26 (fun v26 => ?_)
      refine sm_icmp_eq (tgt := 34) cx dX12_isWord_29 (by decide) ?_ ?_
      · refine sm_iinc cx 2 [(2, .int (x2 + 1)), (0, va_rf r0), (1, va_rf r1)] dX12_isWord_34 rfl rfl (by decide) rfl (nc1 (rf_cat _)) rfl ?_
        refine sm_goto (tgt := 6) cx dX12_isWord_37 (by decide) ?_
        exact sm_lv [1, 2, 0] rfl (ih (x2 + 1))
      · refine sm_iconst (v := 0) cx dX12_isWord_32 (by decide) ?_
        exact sm_zret cx hr dX12_isWord_33
def f_X12_isWord (Z : Nat → Nat) (r0 : Option Nat) (r1 : Option Nat) : Mo Int32 := mb (mo 15 r0 (f_X12_blanks r0)) (fun _ => f_X12_isWord_6 Z r0 r1 fuL (0 : Int32))
set_option maxRecDepth 100000 in
set_option maxHeartbeats 4000000 in
theorem s_X12_isWord {X : Cg} (cx : Cx X cX12_isWord RX12 3) (hfr : 4 ≤ (xR X).frames) (hlo : 85 ≤ (xR X).locals) (hr : (xM X).sig.returnType = (some .boolean)) (r0 : Option Nat) (r1 : Option Nat) : Sim X 3 (FiM X vI) 0 [(0, va_rf r0), (1, va_rf r1)] [] (f_X12_isWord (xZ X) r0 r1) := by
  unfold f_X12_isWord
  refine sm_aload_n cx 0 dX12_isWord_0 rfl rfl ?_
  refine sm_callV (T := TX12) (N := 47) (toV := vV) cx [] rfl cv_X12_143 (fun a h => ct_X12_blanks (xZ X) a h) (Nat.le_trans (by decide) hfr) (Nat.le_trans (by decide) hlo) rfl (cat_le _ (Nat.le_of_ble_eq_true rfl)) dX12_isWord_1 (fun _ => ?_)
  refine sm_iconst (v := 0) cx dX12_isWord_4 (by decide) ?_
  refine sm_istore_n cx [(2, .int (0 : Int32)), (0, va_rf r0), (1, va_rf r1)] dX12_isWord_5 rfl (by decide) rfl (nc1 (rf_cat _)) rfl ?_
  exact sm_lv [1, 2, 0] rfl (s_X12_isWord_6 cx hfr hlo hr r0 r1 fuL (0 : Int32))
set_option maxRecDepth 100000 in
set_option maxHeartbeats 4000000 in
theorem ct_X12_isWord (Z : Nat → Nat) {r0 : Option Nat} (a0 : Nat) (h0 : r0 = some a0) (r1 : Option Nat) : Ct yX12_isWord cX12_isWord 3 (some .boolean) 4 85 Z [.ref a0, va_rf r1] vI (f_X12_isWord Z r0 r1) := by
  subst h0
  refine ct_of (lv0 := [(0, va_rf (some a0)), (1, va_rf r1)]) (by decide +kernel) (by simp [lg_sl, ct_i, ct_l, ct_r, rf_cat]) (by show _ = ([(0, Value.ref a0), (1, va_rf r1)] : List (Nat × Value)); simp [lv_args, ct_i, ct_l, ct_r, rf_cat]) (fun X cx hZ hfr hlo hr hin => ?_)
  subst hZ
  exact s_X12_isWord cx (Nat.le_of_eq hfr.symm) (Nat.le_of_eq hlo.symm) hr (some a0) r1
/-! PolicyTreeModel.eat(Ljava/lang/String;)Z -/
theorem dX12_eat_0 : decode cX12_eat 0 = .ok (.aload_n 0, 1) := by decide +kernel
theorem dX12_eat_1 : decode cX12_eat 1 = .ok (.getfield 140, 3) := by decide +kernel
theorem dX12_eat_4 : decode cX12_eat 4 = .ok (.ifCond .ne 15, 3) := by decide +kernel
theorem dX12_eat_7 : decode cX12_eat 7 = .ok (.aload_n 0, 1) := by decide +kernel
theorem dX12_eat_8 : decode cX12_eat 8 = .ok (.aload_n 1, 1) := by decide +kernel
theorem dX12_eat_9 : decode cX12_eat 9 = .ok (.invokevirtual 156, 3) := by decide +kernel
theorem dX12_eat_12 : decode cX12_eat 12 = .ok (.ifCond .eq 7, 3) := by decide +kernel
theorem dX12_eat_15 : decode cX12_eat 15 = .ok (.iconst 1, 1) := by decide +kernel
theorem dX12_eat_16 : decode cX12_eat 16 = .ok (.goto 4, 3) := by decide +kernel
theorem dX12_eat_19 : decode cX12_eat 19 = .ok (.iconst 0, 1) := by decide +kernel
theorem dX12_eat_20 : decode cX12_eat 20 = .ok (.istore_n 2, 1) := by decide +kernel
theorem dX12_eat_21 : decode cX12_eat 21 = .ok (.iload_n 2, 1) := by decide +kernel
theorem dX12_eat_22 : decode cX12_eat 22 = .ok (.ifCond .eq 16, 3) := by decide +kernel
theorem dX12_eat_25 : decode cX12_eat 25 = .ok (.aload_n 0, 1) := by decide +kernel
theorem dX12_eat_26 : decode cX12_eat 26 = .ok (.dup, 1) := by decide +kernel
theorem dX12_eat_27 : decode cX12_eat 27 = .ok (.getfield 134, 3) := by decide +kernel
theorem dX12_eat_30 : decode cX12_eat 30 = .ok (.aload_n 1, 1) := by decide +kernel
theorem dX12_eat_31 : decode cX12_eat 31 = .ok (.invokevirtual 146, 3) := by decide +kernel
theorem dX12_eat_34 : decode cX12_eat 34 = .ok (.iadd, 1) := by decide +kernel
theorem dX12_eat_35 : decode cX12_eat 35 = .ok (.putfield 134, 3) := by decide +kernel
theorem dX12_eat_38 : decode cX12_eat 38 = .ok (.iload_n 2, 1) := by decide +kernel
theorem dX12_eat_39 : decode cX12_eat 39 = .ok (.ireturn, 1) := by decide +kernel
def f_X12_eat_38 (Z : Nat → Nat) (x2 : Int32) : Mo Int32 := rz .boolean x2
set_option maxRecDepth 100000 in
set_option maxHeartbeats 4000000 in
theorem s_X12_eat_38 {X : Cg} (cx : Cx X cX12_eat RX12 3) (hfr : 5 ≤ (xR X).frames) (hlo : 107 ≤ (xR X).locals) (hr : (xM X).sig.returnType = (some .boolean)) (x2 : Int32) : Sim X 3 (FiM X vI) 38 [(2, .int x2)] [] (f_X12_eat_38 (xZ X) x2) := by
  unfold f_X12_eat_38
  refine sm_iload_n cx 0 dX12_eat_38 rfl rfl ?_
  exact sm_zret cx hr dX12_eat_39
def f_X12_eat_20 (Z : Nat → Nat) (r0 : Option Nat) (r1 : Option Nat) (sx0 : Int32) : Mo Int32 := (if sx0 = 0 then f_X12_eat_38 Z sx0 else mb (gI 15 17 r0) (fun v27 => mb (moS Z r1 (f_J0_length_8abf5 Z r1)) (fun v31 => mb (pV 15 17 r0 (.int (v27 + v31))) (fun _ => f_X12_eat_38 Z sx0))))
set_option maxRecDepth 100000 in
set_option maxHeartbeats 4000000 in
theorem s_X12_eat_20 {X : Cg} (cx : Cx X cX12_eat RX12 3) (hfr : 5 ≤ (xR X).frames) (hlo : 107 ≤ (xR X).locals) (hr : (xM X).sig.returnType = (some .boolean)) (r0 : Option Nat) (r1 : Option Nat) (sx0 : Int32) : Sim X 3 (FiM X vI) 20 [(0, va_rf r0), (1, va_rf r1)] [.int sx0] (f_X12_eat_20 (xZ X) r0 r1 sx0) := by
  unfold f_X12_eat_20
  refine sm_istore_n cx [(2, .int sx0), (0, va_rf r0), (1, va_rf r1)] dX12_eat_20 rfl (by decide) rfl (nc1 (rf_cat _)) rfl ?_
  refine sm_iload_n cx 0 dX12_eat_21 rfl rfl ?_
  refine sm_if_eq (tgt := 38) cx dX12_eat_22 (by decide) ?_ ?_
  · exact sm_lv [0] rfl (s_X12_eat_38 cx hfr hlo hr sx0)
  · refine sm_aload_n cx 1 dX12_eat_25 rfl rfl ?_
    refine sm_dup cx dX12_eat_26 (rf_cat _) ?_
    refine sm_getI cx fl_X12_134 dX12_eat_27 (fun v27 => ?_)
    refine sm_aload_n cx 2 dX12_eat_30 rfl rfl ?_
    refine sm_callW (toV := vI) cx [] cv_X12_146 (fun a h => ct_J0_length_8abf5 (xZ X) a h) (Nat.le_trans (by decide) hfr) (Nat.le_trans (by decide) hlo) rfl (cat_le _ (Nat.le_of_ble_eq_true rfl)) dX12_eat_31 (fun v31 => ?_)
    refine sm_iadd cx dX12_eat_34 ?_
    refine sm_putV cx fl_X12_134 rfl rfl dX12_eat_35 ?_
    exact sm_lv [0] rfl (s_X12_eat_38 cx hfr hlo hr sx0)
def f_X12_eat_19 (Z : Nat → Nat) (r0 : Option Nat) (r1 : Option Nat) : Mo Int32 := f_X12_eat_20 Z r0 r1 (0 : Int32)
set_option maxRecDepth 100000 in
set_option maxHeartbeats 4000000 in
theorem s_X12_eat_19 {X : Cg} (cx : Cx X cX12_eat RX12 3) (hfr : 5 ≤ (xR X).frames) (hlo : 107 ≤ (xR X).locals) (hr : (xM X).sig.returnType = (some .boolean)) (r0 : Option Nat) (r1 : Option Nat) : Sim X 3 (FiM X vI) 19 [(0, va_rf r0), (1, va_rf r1)] [] (f_X12_eat_19 (xZ X) r0 r1) := by
  unfold f_X12_eat_19
  refine sm_iconst (v := 0) cx dX12_eat_19 (by decide) ?_
  exact sm_lv [0, 1] rfl (s_X12_eat_20 cx hfr hlo hr r0 r1 (0 : Int32))
def f_X12_eat (Z : Nat → Nat) (r0 : Option Nat) (r1 : Option Nat) : Mo Int32 := mb (gI 15 18 r0) (fun v1 => (if v1 = 0 then mb (mo 15 r0 (f_X12_isWord Z r0 r1)) (fun v9 => (if v9 = 0 then f_X12_eat_19 Z r0 r1 else f_X12_eat_20 Z r0 r1 (1 : Int32))) else f_X12_eat_19 Z r0 r1))
set_option maxRecDepth 100000 in
set_option maxHeartbeats 4000000 in
theorem s_X12_eat {X : Cg} (cx : Cx X cX12_eat RX12 3) (hfr : 5 ≤ (xR X).frames) (hlo : 107 ≤ (xR X).locals) (hr : (xM X).sig.returnType = (some .boolean)) (r0 : Option Nat) (r1 : Option Nat) : Sim X 3 (FiM X vI) 0 [(0, va_rf r0), (1, va_rf r1)] [] (f_X12_eat (xZ X) r0 r1) := by
  unfold f_X12_eat
  refine sm_aload_n cx 0 dX12_eat_0 rfl rfl ?_
  refine sm_getI cx fl_X12_140 dX12_eat_1 (fun v1 => ?_)
  refine sm_if_ne (tgt := 19) cx dX12_eat_4 (by decide) ?_ ?_
  · exact sm_lv [0, 1] rfl (s_X12_eat_19 cx hfr hlo hr r0 r1)
  · refine sm_aload_n cx 0 dX12_eat_7 rfl rfl ?_
    refine sm_aload_n cx 1 dX12_eat_8 rfl rfl ?_
    refine sm_callV (T := TX12) (N := 47) (toV := vI) cx [va_rf r1] rfl cv_X12_156 (fun a h => ct_X12_isWord (xZ X) a h r1) (Nat.le_trans (by decide) hfr) (Nat.le_trans (by decide) hlo) rfl (cat_le _ (Nat.le_of_ble_eq_true rfl)) dX12_eat_9 (fun v9 => ?_)
    refine sm_if_eq (tgt := 19) cx dX12_eat_12 (by decide) ?_ ?_
    · exact sm_lv [0, 1] rfl (s_X12_eat_19 cx hfr hlo hr r0 r1)
    · refine sm_iconst (v := 1) cx dX12_eat_15 (by decide) ?_
      refine sm_goto (tgt := 20) cx dX12_eat_16 (by decide) ?_
      exact sm_lv [0, 1] rfl (s_X12_eat_20 cx hfr hlo hr r0 r1 (1 : Int32))
set_option maxRecDepth 100000 in
set_option maxHeartbeats 4000000 in
theorem ct_X12_eat (Z : Nat → Nat) {r0 : Option Nat} (a0 : Nat) (h0 : r0 = some a0) (r1 : Option Nat) : Ct yX12_eat cX12_eat 3 (some .boolean) 5 107 Z [.ref a0, va_rf r1] vI (f_X12_eat Z r0 r1) := by
  subst h0
  refine ct_of (lv0 := [(0, va_rf (some a0)), (1, va_rf r1)]) (by decide +kernel) (by simp [lg_sl, ct_i, ct_l, ct_r, rf_cat]) (by show _ = ([(0, Value.ref a0), (1, va_rf r1)] : List (Nat × Value)); simp [lv_args, ct_i, ct_l, ct_r, rf_cat]) (fun X cx hZ hfr hlo hr hin => ?_)
  subst hZ
  exact s_X12_eat cx (Nat.le_of_eq hfr.symm) (Nat.le_of_eq hlo.symm) hr (some a0) r1
/-! PolicyTreeModel.emits(I)V -/
theorem dX12_emits_0 : decode cX12_emits 0 = .ok (.aload_n 0, 1) := by decide +kernel
theorem dX12_emits_1 : decode cX12_emits 1 = .ok (.getfield 160, 3) := by decide +kernel
theorem dX12_emits_4 : decode cX12_emits 4 = .ok (.aload_n 0, 1) := by decide +kernel
theorem dX12_emits_5 : decode cX12_emits 5 = .ok (.getfield 46, 3) := by decide +kernel
theorem dX12_emits_8 : decode cX12_emits 8 = .ok (.arraylength, 1) := by decide +kernel
theorem dX12_emits_9 : decode cX12_emits 9 = .ok (.if_icmp .ne 43, 3) := by decide +kernel
theorem dX12_emits_12 : decode cX12_emits 12 = .ok (.iconst 2, 1) := by decide +kernel
theorem dX12_emits_13 : decode cX12_emits 13 = .ok (.aload_n 0, 1) := by decide +kernel
theorem dX12_emits_14 : decode cX12_emits 14 = .ok (.getfield 46, 3) := by decide +kernel
theorem dX12_emits_17 : decode cX12_emits 17 = .ok (.arraylength, 1) := by decide +kernel
theorem dX12_emits_18 : decode cX12_emits 18 = .ok (.imul, 1) := by decide +kernel
theorem dX12_emits_19 : decode cX12_emits 19 = .ok (.newarray .int, 2) := by decide +kernel
theorem dX12_emits_21 : decode cX12_emits 21 = .ok (.astore_n 2, 1) := by decide +kernel
theorem dX12_emits_22 : decode cX12_emits 22 = .ok (.iconst 0, 1) := by decide +kernel
theorem dX12_emits_23 : decode cX12_emits 23 = .ok (.istore_n 3, 1) := by decide +kernel
theorem dX12_emits_24 : decode cX12_emits 24 = .ok (.iload_n 3, 1) := by decide +kernel
theorem dX12_emits_25 : decode cX12_emits 25 = .ok (.aload_n 0, 1) := by decide +kernel
theorem dX12_emits_26 : decode cX12_emits 26 = .ok (.getfield 160, 3) := by decide +kernel
theorem dX12_emits_29 : decode cX12_emits 29 = .ok (.if_icmp .ge 18, 3) := by decide +kernel
theorem dX12_emits_32 : decode cX12_emits 32 = .ok (.aload_n 2, 1) := by decide +kernel
theorem dX12_emits_33 : decode cX12_emits 33 = .ok (.iload_n 3, 1) := by decide +kernel
theorem dX12_emits_34 : decode cX12_emits 34 = .ok (.aload_n 0, 1) := by decide +kernel
theorem dX12_emits_35 : decode cX12_emits 35 = .ok (.getfield 46, 3) := by decide +kernel
theorem dX12_emits_38 : decode cX12_emits 38 = .ok (.iload_n 3, 1) := by decide +kernel
theorem dX12_emits_39 : decode cX12_emits 39 = .ok (.iaload, 1) := by decide +kernel
theorem dX12_emits_40 : decode cX12_emits 40 = .ok (.iastore, 1) := by decide +kernel
theorem dX12_emits_41 : decode cX12_emits 41 = .ok (.iinc 3 1, 3) := by decide +kernel
theorem dX12_emits_44 : decode cX12_emits 44 = .ok (.goto (-20), 3) := by decide +kernel
theorem dX12_emits_47 : decode cX12_emits 47 = .ok (.aload_n 0, 1) := by decide +kernel
theorem dX12_emits_48 : decode cX12_emits 48 = .ok (.aload_n 2, 1) := by decide +kernel
theorem dX12_emits_49 : decode cX12_emits 49 = .ok (.putfield 46, 3) := by decide +kernel
theorem dX12_emits_52 : decode cX12_emits 52 = .ok (.aload_n 0, 1) := by decide +kernel
theorem dX12_emits_53 : decode cX12_emits 53 = .ok (.getfield 46, 3) := by decide +kernel
theorem dX12_emits_56 : decode cX12_emits 56 = .ok (.aload_n 0, 1) := by decide +kernel
theorem dX12_emits_57 : decode cX12_emits 57 = .ok (.getfield 160, 3) := by decide +kernel
theorem dX12_emits_60 : decode cX12_emits 60 = .ok (.iload_n 1, 1) := by decide +kernel
theorem dX12_emits_61 : decode cX12_emits 61 = .ok (.iastore, 1) := by decide +kernel
theorem dX12_emits_62 : decode cX12_emits 62 = .ok (.aload_n 0, 1) := by decide +kernel
theorem dX12_emits_63 : decode cX12_emits 63 = .ok (.dup, 1) := by decide +kernel
theorem dX12_emits_64 : decode cX12_emits 64 = .ok (.getfield 160, 3) := by decide +kernel
theorem dX12_emits_67 : decode cX12_emits 67 = .ok (.iconst 1, 1) := by decide +kernel
theorem dX12_emits_68 : decode cX12_emits 68 = .ok (.iadd, 1) := by decide +kernel
theorem dX12_emits_69 : decode cX12_emits 69 = .ok (.putfield 160, 3) := by decide +kernel
theorem dX12_emits_72 : decode cX12_emits 72 = .ok (.return_, 1) := by decide +kernel
def f_X12_emits_52 (r0 : Option Nat) (x1 : Int32) : Mo Unit := mb (gR 15 21 r0) (fun v53 => mb (gI 15 22 r0) (fun v57 => mb (sI 1 v53 v57 x1) (fun _ => mb (gI 15 22 r0) (fun v64 => mb (pV 15 22 r0 (.int (v64 + (1 : Int32)))) (fun _ => mp ())))))
set_option maxRecDepth 100000 in
set_option maxHeartbeats 4000000 in
theorem s_X12_emits_52 {X : Cg} (cx : Cx X cX12_emits RX12 4) (hfr : 0 ≤ (xR X).frames) (hlo : 0 ≤ (xR X).locals) (hr : (xM X).sig.returnType = none) (r0 : Option Nat) (x1 : Int32) : Sim X 4 (FiM X vV) 52 [(0, va_rf r0), (1, .int x1)] [] (f_X12_emits_52 r0 x1) := by
  unfold f_X12_emits_52
  refine sm_aload_n cx 0 dX12_emits_52 rfl rfl ?_
  refine sm_getR cx fl_X12_46 dX12_emits_53 (fun v53 => ?_)
  refine sm_aload_n cx 0 dX12_emits_56 rfl rfl ?_
  refine sm_getI cx fl_X12_160 dX12_emits_57 (fun v57 => ?_)
  refine sm_iload_n cx 1 dX12_emits_60 rfl rfl ?_
  refine sm_iast cx dX12_emits_61 ?_
  refine sm_aload_n cx 0 dX12_emits_62 rfl rfl ?_
  refine sm_dup cx dX12_emits_63 (rf_cat _) ?_
  refine sm_getI cx fl_X12_160 dX12_emits_64 (fun v64 => ?_)
  refine sm_iconst (v := 1) cx dX12_emits_67 (by decide) ?_
  refine sm_iadd cx dX12_emits_68 ?_
  refine sm_putV cx fl_X12_160 rfl rfl dX12_emits_69 ?_
  exact sm_vret cx hr dX12_emits_72
def f_X12_emits_24 (r0 : Option Nat) (x1 : Int32) (r2 : Option Nat) : Nat → Int32 → Mo Unit
  | 0, _ => mf
  | n + 1, x3 => mb (gI 15 22 r0) (fun v26 => (if v26 ≤ x3 then mb (pV 15 21 r0 (va_rf r2)) (fun _ => f_X12_emits_52 r0 x1) else mb (gR 15 21 r0) (fun v35 => mb (aI 1 v35 x3) (fun v39 => mb (sI 1 r2 x3 v39) (fun _ => (f_X12_emits_24 r0 x1 r2 n) (x3 + 1))))))
set_option maxRecDepth 100000 in
set_option maxHeartbeats 4000000 in
theorem s_X12_emits_24 {X : Cg} (cx : Cx X cX12_emits RX12 4) (hfr : 0 ≤ (xR X).frames) (hlo : 0 ≤ (xR X).locals) (hr : (xM X).sig.returnType = none) (r0 : Option Nat) (x1 : Int32) (r2 : Option Nat) : ∀ (n : Nat) (x3 : Int32), Sim X 4 (FiM X vV) 24 [(0, va_rf r0), (1, .int x1), (2, va_rf r2), (3, .int x3)] [] (f_X12_emits_24 r0 x1 r2 n x3) := by
  intro n
  induction n with
  | zero =>
    intro _
    exact sm_mf
  | succ n ih =>
    intro x3
    rw [f_X12_emits_24]
    refine sm_iload_n cx 3 dX12_emits_24 rfl rfl ?_
    refine sm_aload_n cx 0 dX12_emits_25 rfl rfl ?_
    refine sm_getI cx fl_X12_160 dX12_emits_26 (fun v26 => ?_)
    refine sm_icmp_ge (tgt := 47) cx dX12_emits_29 (by decide) ?_ ?_
    · refine sm_aload_n cx 0 dX12_emits_47 rfl rfl ?_
      refine sm_aload_n cx 2 dX12_emits_48 rfl rfl ?_
      refine sm_putV cx fl_X12_46 (nr_ra _) (ft_ra _) dX12_emits_49 ?_
      exact sm_lv [0, 1] rfl (s_X12_emits_52 cx hfr hlo hr r0 x1)
    · refine sm_aload_n cx 2 dX12_emits_32 rfl rfl ?_
      refine sm_iload_n cx 3 dX12_emits_33 rfl rfl ?_
      refine sm_aload_n cx 0 dX12_emits_34 rfl rfl ?_
      refine sm_getR cx fl_X12_46 dX12_emits_35 (fun v35 => ?_)
      refine sm_iload_n cx 3 dX12_emits_38 rfl rfl ?_
      refine sm_iald cx dX12_emits_39 (fun v39 => ?_)
      refine sm_iast cx dX12_emits_40 ?_
      refine sm_iinc cx 3 [(3, .int (x3 + 1)), (0, va_rf r0), (1, .int x1), (2, va_rf r2)] dX12_emits_41 rfl rfl (by decide) rfl (nc1 (rf_cat _)) rfl ?_
      refine sm_goto (tgt := 24) cx dX12_emits_44 (by decide) ?_
      exact sm_lv [1, 2, 3, 0] rfl (ih (x3 + 1))
def f_X12_emits (r0 : Option Nat) (x1 : Int32) : Mo Unit := mb (gI 15 22 r0) (fun v1 => mb (gR 15 21 r0) (fun v5 => mb (aN 1 v5) (fun v8 => (if v1 = v8 then mb (gR 15 21 r0) (fun v14 => mb (aN 1 v14) (fun v17 => mb (nA 1 ((2 : Int32) * v17)) (fun v19 => f_X12_emits_24 r0 x1 v19 fuL (0 : Int32)))) else f_X12_emits_52 r0 x1))))
set_option maxRecDepth 100000 in
set_option maxHeartbeats 4000000 in
theorem s_X12_emits {X : Cg} (cx : Cx X cX12_emits RX12 4) (hfr : 0 ≤ (xR X).frames) (hlo : 0 ≤ (xR X).locals) (hr : (xM X).sig.returnType = none) (r0 : Option Nat) (x1 : Int32) : Sim X 4 (FiM X vV) 0 [(0, va_rf r0), (1, .int x1)] [] (f_X12_emits r0 x1) := by
  unfold f_X12_emits
  refine sm_aload_n cx 0 dX12_emits_0 rfl rfl ?_
  refine sm_getI cx fl_X12_160 dX12_emits_1 (fun v1 => ?_)
  refine sm_aload_n cx 0 dX12_emits_4 rfl rfl ?_
  refine sm_getR cx fl_X12_46 dX12_emits_5 (fun v5 => ?_)
  refine sm_alen cx 1 (by decide) dX12_emits_8 (fun v8 => ?_)
  refine sm_icmp_ne (tgt := 52) cx dX12_emits_9 (by decide) ?_ ?_
  · exact sm_lv [0, 1] rfl (s_X12_emits_52 cx hfr hlo hr r0 x1)
  · refine sm_iconst (v := 2) cx dX12_emits_12 (by decide) ?_
    refine sm_aload_n cx 0 dX12_emits_13 rfl rfl ?_
    refine sm_getR cx fl_X12_46 dX12_emits_14 (fun v14 => ?_)
    refine sm_alen cx 1 (by decide) dX12_emits_17 (fun v17 => ?_)
    refine sm_imul cx dX12_emits_18 ?_
    refine sm_newa1 cx dX12_emits_19 (fun v19 => ?_)
    refine sm_astore_n cx [(2, va_rf v19), (0, va_rf r0), (1, .int x1)] dX12_emits_21 rfl (by decide) rfl (nc1 rfl) rfl ?_
    refine sm_iconst (v := 0) cx dX12_emits_22 (by decide) ?_
    refine sm_istore_n cx [(3, .int (0 : Int32)), (2, va_rf v19), (0, va_rf r0), (1, .int x1)] dX12_emits_23 rfl (by decide) rfl (nc1 (rf_cat _)) rfl ?_
    exact sm_lv [2, 3, 1, 0] rfl (s_X12_emits_24 cx hfr hlo hr r0 x1 v19 fuL (0 : Int32))
set_option maxRecDepth 100000 in
set_option maxHeartbeats 4000000 in
theorem ct_X12_emits (Z : Nat → Nat) {r0 : Option Nat} (a0 : Nat) (h0 : r0 = some a0) (x1 : Int32) : Ct yX12_emits cX12_emits 4 none 0 0 Z [.ref a0, .int x1] vV (f_X12_emits r0 x1) := by
  subst h0
  refine ct_of (lv0 := [(0, va_rf (some a0)), (1, .int x1)]) (by decide +kernel) (by simp [lg_sl, ct_i, ct_l, ct_r, rf_cat]) (by show _ = ([(0, Value.ref a0), (1, .int x1)] : List (Nat × Value)); simp [lv_args, ct_i, ct_l, ct_r, rf_cat]) (fun X cx hZ hfr hlo hr hin => ?_)
  subst hZ
  exact s_X12_emits cx (Nat.le_of_eq hfr.symm) (Nat.le_of_eq hlo.symm) hr (some a0) x1
/-! PolicyTreeModel.opens()Z -/
theorem dX12_opens_0 : decode cX12_opens 0 = .ok (.aload_n 0, 1) := by decide +kernel
theorem dX12_opens_1 : decode cX12_opens 1 = .ok (.getfield 180, 3) := by decide +kernel
theorem dX12_opens_4 : decode cX12_opens 4 = .ok (.bipush 10, 2) := by decide +kernel
theorem dX12_opens_6 : decode cX12_opens 6 = .ok (.if_icmp .ne 15, 3) := by decide +kernel
theorem dX12_opens_9 : decode cX12_opens 9 = .ok (.aload_n 0, 1) := by decide +kernel
theorem dX12_opens_10 : decode cX12_opens 10 = .ok (.iconst 3, 1) := by decide +kernel
theorem dX12_opens_11 : decode cX12_opens 11 = .ok (.aload_n 0, 1) := by decide +kernel
theorem dX12_opens_12 : decode cX12_opens 12 = .ok (.getfield 134, 3) := by decide +kernel
theorem dX12_opens_15 : decode cX12_opens 15 = .ok (.invokevirtual 183, 3) := by decide +kernel
theorem dX12_opens_18 : decode cX12_opens 18 = .ok (.goto 13, 3) := by decide +kernel
theorem dX12_opens_21 : decode cX12_opens 21 = .ok (.aload_n 0, 1) := by decide +kernel
theorem dX12_opens_22 : decode cX12_opens 22 = .ok (.dup, 1) := by decide +kernel
theorem dX12_opens_23 : decode cX12_opens 23 = .ok (.getfield 180, 3) := by decide +kernel
theorem dX12_opens_26 : decode cX12_opens 26 = .ok (.iconst 1, 1) := by decide +kernel
theorem dX12_opens_27 : decode cX12_opens 27 = .ok (.iadd, 1) := by decide +kernel
theorem dX12_opens_28 : decode cX12_opens 28 = .ok (.putfield 180, 3) := by decide +kernel
theorem dX12_opens_31 : decode cX12_opens 31 = .ok (.aload_n 0, 1) := by decide +kernel
theorem dX12_opens_32 : decode cX12_opens 32 = .ok (.getfield 140, 3) := by decide +kernel
theorem dX12_opens_35 : decode cX12_opens 35 = .ok (.ifCond .ne 7, 3) := by decide +kernel
theorem dX12_opens_38 : decode cX12_opens 38 = .ok (.iconst 1, 1) := by decide +kernel
theorem dX12_opens_39 : decode cX12_opens 39 = .ok (.goto 4, 3) := by decide +kernel
theorem dX12_opens_42 : decode cX12_opens 42 = .ok (.iconst 0, 1) := by decide +kernel
theorem dX12_opens_43 : decode cX12_opens 43 = .ok (.ireturn, 1) := by decide +kernel
def f_X12_opens_43 (sx0 : Int32) : Mo Int32 := rz .boolean sx0
set_option maxRecDepth 100000 in
set_option maxHeartbeats 4000000 in
theorem s_X12_opens_43 {X : Cg} (cx : Cx X cX12_opens RX12 1) (hfr : 1 ≤ (xR X).frames) (hlo : 22 ≤ (xR X).locals) (hr : (xM X).sig.returnType = (some .boolean)) (sx0 : Int32) : Sim X 1 (FiM X vI) 43 [] [.int sx0] (f_X12_opens_43 sx0) := by
  unfold f_X12_opens_43
  exact sm_zret cx hr dX12_opens_43
def f_X12_opens_31 (r0 : Option Nat) : Mo Int32 := mb (gI 15 18 r0) (fun v32 => (if v32 = 0 then f_X12_opens_43 (1 : Int32) else f_X12_opens_43 (0 : Int32)))
set_option maxRecDepth 100000 in
set_option maxHeartbeats 4000000 in
theorem s_X12_opens_31 {X : Cg} (cx : Cx X cX12_opens RX12 1) (hfr : 1 ≤ (xR X).frames) (hlo : 22 ≤ (xR X).locals) (hr : (xM X).sig.returnType = (some .boolean)) (r0 : Option Nat) : Sim X 1 (FiM X vI) 31 [(0, va_rf r0)] [] (f_X12_opens_31 r0) := by
  unfold f_X12_opens_31
  refine sm_aload_n cx 0 dX12_opens_31 rfl rfl ?_
  refine sm_getI cx fl_X12_140 dX12_opens_32 (fun v32 => ?_)
  refine sm_if_ne (tgt := 42) cx dX12_opens_35 (by decide) ?_ ?_
  · refine sm_iconst (v := 0) cx dX12_opens_42 (by decide) ?_
    exact sm_lv [] rfl (s_X12_opens_43 cx hfr hlo hr (0 : Int32))
  · refine sm_iconst (v := 1) cx dX12_opens_38 (by decide) ?_
    refine sm_goto (tgt := 43) cx dX12_opens_39 (by decide) ?_
    exact sm_lv [] rfl (s_X12_opens_43 cx hfr hlo hr (1 : Int32))
def f_X12_opens (r0 : Option Nat) : Mo Int32 := mb (gI 15 20 r0) (fun v1 => (if v1 = (10 : Int32) then mb (gI 15 17 r0) (fun v12 => mb (mo 15 r0 (f_X12_wrong r0 (3 : Int32) v12)) (fun _ => f_X12_opens_31 r0)) else mb (gI 15 20 r0) (fun v23 => mb (pV 15 20 r0 (.int (v23 + (1 : Int32)))) (fun _ => f_X12_opens_31 r0))))
set_option maxRecDepth 100000 in
set_option maxHeartbeats 4000000 in
theorem s_X12_opens {X : Cg} (cx : Cx X cX12_opens RX12 1) (hfr : 1 ≤ (xR X).frames) (hlo : 22 ≤ (xR X).locals) (hr : (xM X).sig.returnType = (some .boolean)) (r0 : Option Nat) : Sim X 1 (FiM X vI) 0 [(0, va_rf r0)] [] (f_X12_opens r0) := by
  unfold f_X12_opens
  refine sm_aload_n cx 0 dX12_opens_0 rfl rfl ?_
  refine sm_getI cx fl_X12_180 dX12_opens_1 (fun v1 => ?_)
  refine sm_bipush (v := 10) cx dX12_opens_4 (by decide) ?_
  refine sm_icmp_ne (tgt := 21) cx dX12_opens_6 (by decide) ?_ ?_
  · refine sm_aload_n cx 0 dX12_opens_21 rfl rfl ?_
    refine sm_dup cx dX12_opens_22 (rf_cat _) ?_
    refine sm_getI cx fl_X12_180 dX12_opens_23 (fun v23 => ?_)
    refine sm_iconst (v := 1) cx dX12_opens_26 (by decide) ?_
    refine sm_iadd cx dX12_opens_27 ?_
    refine sm_putV cx fl_X12_180 rfl rfl dX12_opens_28 ?_
    exact sm_lv [0] rfl (s_X12_opens_31 cx hfr hlo hr r0)
  · refine sm_aload_n cx 0 dX12_opens_9 rfl rfl ?_
    refine sm_iconst (v := 3) cx dX12_opens_10 (by decide) ?_
    refine sm_aload_n cx 0 dX12_opens_11 rfl rfl ?_
    refine sm_getI cx fl_X12_134 dX12_opens_12 (fun v12 => ?_)
    refine sm_callV (T := TX12) (N := 47) (toV := vV) cx [.int (3 : Int32), .int v12] rfl cv_X12_183 (fun a h => ct_X12_wrong (xZ X) a h (3 : Int32) v12) (Nat.le_trans (by decide) hfr) (Nat.le_trans (by decide) hlo) rfl (cat_le _ (Nat.le_of_ble_eq_true rfl)) dX12_opens_15 (fun _ => ?_)
    refine sm_goto (tgt := 31) cx dX12_opens_18 (by decide) ?_
    exact sm_lv [0] rfl (s_X12_opens_31 cx hfr hlo hr r0)
set_option maxRecDepth 100000 in
set_option maxHeartbeats 4000000 in
theorem ct_X12_opens (Z : Nat → Nat) {r0 : Option Nat} (a0 : Nat) (h0 : r0 = some a0) : Ct yX12_opens cX12_opens 1 (some .boolean) 1 22 Z [.ref a0] vI (f_X12_opens r0) := by
  subst h0
  refine ct_of (lv0 := [(0, va_rf (some a0))]) (by decide +kernel) (by simp [lg_sl, ct_i, ct_l, ct_r, rf_cat]) (by show _ = ([(0, Value.ref a0)] : List (Nat × Value)); simp [lv_args, ct_i, ct_l, ct_r, rf_cat]) (fun X cx hZ hfr hlo hr hin => ?_)
  subst hZ
  exact s_X12_opens cx (Nat.le_of_eq hfr.symm) (Nat.le_of_eq hlo.symm) hr (some a0)
/-! PolicyTreeModel.number(II)V -/
theorem dX12_number_0 : decode cX12_number 0 = .ok (.aload_n 0, 1) := by decide +kernel
theorem dX12_number_1 : decode cX12_number 1 = .ok (.invokevirtual 143, 3) := by decide +kernel
theorem dX12_number_4 : decode cX12_number 4 = .ok (.aload_n 0, 1) := by decide +kernel
theorem dX12_number_5 : decode cX12_number 5 = .ok (.getfield 134, 3) := by decide +kernel
theorem dX12_number_8 : decode cX12_number 8 = .ok (.istore_n 3, 1) := by decide +kernel
theorem dX12_number_9 : decode cX12_number 9 = .ok (.iconst 0, 1) := by decide +kernel
theorem dX12_number_10 : decode cX12_number 10 = .ok (.istore 4, 2) := by decide +kernel
theorem dX12_number_12 : decode cX12_number 12 = .ok (.aload_n 0, 1) := by decide +kernel
theorem dX12_number_13 : decode cX12_number 13 = .ok (.aload_n 0, 1) := by decide +kernel
theorem dX12_number_14 : decode cX12_number 14 = .ok (.getfield 134, 3) := by decide +kernel
theorem dX12_number_17 : decode cX12_number 17 = .ok (.invokevirtual 137, 3) := by decide +kernel
theorem dX12_number_20 : decode cX12_number 20 = .ok (.bipush 48, 2) := by decide +kernel
theorem dX12_number_22 : decode cX12_number 22 = .ok (.if_icmp .lt 61, 3) := by decide +kernel
theorem dX12_number_25 : decode cX12_number 25 = .ok (.aload_n 0, 1) := by decide +kernel
theorem dX12_number_26 : decode cX12_number 26 = .ok (.aload_n 0, 1) := by decide +kernel
theorem dX12_number_27 : decode cX12_number 27 = .ok (.getfield 134, 3) := by decide +kernel
theorem dX12_number_30 : decode cX12_number 30 = .ok (.invokevirtual 137, 3) := by decide +kernel
theorem dX12_number_33 : decode cX12_number 33 = .ok (.bipush 57, 2) := by decide +kernel
theorem dX12_number_35 : decode cX12_number 35 = .ok (.if_icmp .gt 48, 3) := by decide +kernel
theorem dX12_number_38 : decode cX12_number 38 = .ok (.iload 4, 2) := by decide +kernel
theorem dX12_number_40 : decode cX12_number 40 = .ok (.sipush 1000, 3) := by decide +kernel
theorem dX12_number_43 : decode cX12_number 43 = .ok (.if_icmp .le 8, 3) := by decide +kernel
theorem dX12_number_46 : decode cX12_number 46 = .ok (.iload 4, 2) := by decide +kernel
theorem dX12_number_48 : decode cX12_number 48 = .ok (.goto 20, 3) := by decide +kernel
theorem dX12_number_51 : decode cX12_number 51 = .ok (.bipush 10, 2) := by decide +kernel
theorem dX12_number_53 : decode cX12_number 53 = .ok (.iload 4, 2) := by decide +kernel
theorem dX12_number_55 : decode cX12_number 55 = .ok (.imul, 1) := by decide +kernel
theorem dX12_number_56 : decode cX12_number 56 = .ok (.aload_n 0, 1) := by decide +kernel
theorem dX12_number_57 : decode cX12_number 57 = .ok (.aload_n 0, 1) := by decide +kernel
theorem dX12_number_58 : decode cX12_number 58 = .ok (.getfield 134, 3) := by decide +kernel
theorem dX12_number_61 : decode cX12_number 61 = .ok (.invokevirtual 137, 3) := by decide +kernel
theorem dX12_number_64 : decode cX12_number 64 = .ok (.iadd, 1) := by decide +kernel
theorem dX12_number_65 : decode cX12_number 65 = .ok (.bipush 48, 2) := by decide +kernel
theorem dX12_number_67 : decode cX12_number 67 = .ok (.isub, 1) := by decide +kernel
theorem dX12_number_68 : decode cX12_number 68 = .ok (.istore 4, 2) := by decide +kernel
theorem dX12_number_70 : decode cX12_number 70 = .ok (.aload_n 0, 1) := by decide +kernel
theorem dX12_number_71 : decode cX12_number 71 = .ok (.dup, 1) := by decide +kernel
theorem dX12_number_72 : decode cX12_number 72 = .ok (.getfield 134, 3) := by decide +kernel
theorem dX12_number_75 : decode cX12_number 75 = .ok (.iconst 1, 1) := by decide +kernel
theorem dX12_number_76 : decode cX12_number 76 = .ok (.iadd, 1) := by decide +kernel
theorem dX12_number_77 : decode cX12_number 77 = .ok (.putfield 134, 3) := by decide +kernel
theorem dX12_number_80 : decode cX12_number 80 = .ok (.goto (-68), 3) := by decide +kernel
theorem dX12_number_83 : decode cX12_number 83 = .ok (.aload_n 0, 1) := by decide +kernel
theorem dX12_number_84 : decode cX12_number 84 = .ok (.getfield 134, 3) := by decide +kernel
theorem dX12_number_87 : decode cX12_number 87 = .ok (.iload_n 3, 1) := by decide +kernel
theorem dX12_number_88 : decode cX12_number 88 = .ok (.if_icmp .ne 9, 3) := by decide +kernel
theorem dX12_number_91 : decode cX12_number 91 = .ok (.aload_n 0, 1) := by decide +kernel
theorem dX12_number_92 : decode cX12_number 92 = .ok (.iconst 1, 1) := by decide +kernel
theorem dX12_number_93 : decode cX12_number 93 = .ok (.iload_n 3, 1) := by decide +kernel
theorem dX12_number_94 : decode cX12_number 94 = .ok (.invokevirtual 183, 3) := by decide +kernel
theorem dX12_number_97 : decode cX12_number 97 = .ok (.iload 4, 2) := by decide +kernel
theorem dX12_number_99 : decode cX12_number 99 = .ok (.iload_n 2, 1) := by decide +kernel
theorem dX12_number_100 : decode cX12_number 100 = .ok (.if_icmp .lt 9, 3) := by decide +kernel
theorem dX12_number_103 : decode cX12_number 103 = .ok (.aload_n 0, 1) := by decide +kernel
theorem dX12_number_104 : decode cX12_number 104 = .ok (.iconst 2, 1) := by decide +kernel
theorem dX12_number_105 : decode cX12_number 105 = .ok (.iload_n 3, 1) := by decide +kernel
theorem dX12_number_106 : decode cX12_number 106 = .ok (.invokevirtual 183, 3) := by decide +kernel
theorem dX12_number_109 : decode cX12_number 109 = .ok (.aload_n 0, 1) := by decide +kernel
theorem dX12_number_110 : decode cX12_number 110 = .ok (.bipush 100, 2) := by decide +kernel
theorem dX12_number_112 : decode cX12_number 112 = .ok (.iload_n 1, 1) := by decide +kernel
theorem dX12_number_113 : decode cX12_number 113 = .ok (.imul, 1) := by decide +kernel
theorem dX12_number_114 : decode cX12_number 114 = .ok (.iload 4, 2) := by decide +kernel
theorem dX12_number_116 : decode cX12_number 116 = .ok (.iadd, 1) := by decide +kernel
theorem dX12_number_117 : decode cX12_number 117 = .ok (.invokevirtual 171, 3) := by decide +kernel
theorem dX12_number_120 : decode cX12_number 120 = .ok (.return_, 1) := by decide +kernel
def f_X12_number_68 (k12 : Int32 → Mo Unit) (r0 : Option Nat) (x1 : Int32) (x2 : Int32) (x3 : Int32) (sx0 : Int32) : Mo Unit := mb (gI 15 17 r0) (fun v72 => mb (pV 15 17 r0 (.int (v72 + (1 : Int32)))) (fun _ => k12 sx0))
set_option maxRecDepth 100000 in
set_option maxHeartbeats 4000000 in
theorem s_X12_number_68 {X : Cg} (cx : Cx X cX12_number RX12 5) (hfr : 2 ≤ (xR X).frames) (hlo : 41 ≤ (xR X).locals) (hr : (xM X).sig.returnType = none) (r0 : Option Nat) (x1 : Int32) (x2 : Int32) (x3 : Int32) (sx0 : Int32) {k12 : Int32 → Mo Unit} (hk12 : ∀ (x4 : Int32), Sim X 5 (FiM X vV) 12 [(0, va_rf r0), (1, .int x1), (2, .int x2), (3, .int x3), (4, .int x4)] [] (k12 x4)) : Sim X 5 (FiM X vV) 68 [(0, va_rf r0), (1, .int x1), (2, .int x2), (3, .int x3)] [.int sx0] (f_X12_number_68 k12 r0 x1 x2 x3 sx0) := by
  unfold f_X12_number_68
  refine sm_istore cx [(4, .int sx0), (0, va_rf r0), (1, .int x1), (2, .int x2), (3, .int x3)] dX12_number_68 (by decide) rfl (nc1 rfl) rfl ?_
  refine sm_aload_n cx 1 dX12_number_70 rfl rfl ?_
  refine sm_dup cx dX12_number_71 (rf_cat _) ?_
  refine sm_getI cx fl_X12_134 dX12_number_72 (fun v72 => ?_)
  refine sm_iconst (v := 1) cx dX12_number_75 (by decide) ?_
  refine sm_iadd cx dX12_number_76 ?_
  refine sm_putV cx fl_X12_134 rfl rfl dX12_number_77 ?_
  refine sm_goto (tgt := 12) cx dX12_number_80 (by decide) ?_
  exact sm_lv [1, 2, 3, 4, 0] rfl (hk12 sx0)
def f_X12_number_109 (r0 : Option Nat) (x1 : Int32) (x4 : Int32) : Mo Unit := mb (mo 15 r0 (f_X12_emits r0 (((100 : Int32) * x1) + x4))) (fun _ => mp ())
set_option maxRecDepth 100000 in
set_option maxHeartbeats 4000000 in
theorem s_X12_number_109 {X : Cg} (cx : Cx X cX12_number RX12 5) (hfr : 2 ≤ (xR X).frames) (hlo : 41 ≤ (xR X).locals) (hr : (xM X).sig.returnType = none) (r0 : Option Nat) (x1 : Int32) (x4 : Int32) : Sim X 5 (FiM X vV) 109 [(0, va_rf r0), (1, .int x1), (4, .int x4)] [] (f_X12_number_109 r0 x1 x4) := by
  unfold f_X12_number_109
  refine sm_aload_n cx 0 dX12_number_109 rfl rfl ?_
  refine sm_bipush (v := 100) cx dX12_number_110 (by decide) ?_
  refine sm_iload_n cx 1 dX12_number_112 rfl rfl ?_
  refine sm_imul cx dX12_number_113 ?_
  refine sm_iload cx 2 dX12_number_114 rfl ?_
  refine sm_iadd cx dX12_number_116 ?_
  refine sm_callV (T := TX12) (N := 47) (toV := vV) cx [.int (((100 : Int32) * x1) + x4)] rfl cv_X12_171 (fun a h => ct_X12_emits (xZ X) a h (((100 : Int32) * x1) + x4)) (Nat.le_trans (by decide) hfr) (Nat.le_trans (by decide) hlo) rfl (cat_le _ (Nat.le_of_ble_eq_true rfl)) dX12_number_117 (fun _ => ?_)
  exact sm_vret cx hr dX12_number_120
def f_X12_number_97 (r0 : Option Nat) (x1 : Int32) (x2 : Int32) (x3 : Int32) (x4 : Int32) : Mo Unit := (if x4 < x2 then f_X12_number_109 r0 x1 x4 else mb (mo 15 r0 (f_X12_wrong r0 (2 : Int32) x3)) (fun _ => f_X12_number_109 r0 x1 x4))
set_option maxRecDepth 100000 in
set_option maxHeartbeats 4000000 in
theorem s_X12_number_97 {X : Cg} (cx : Cx X cX12_number RX12 5) (hfr : 2 ≤ (xR X).frames) (hlo : 41 ≤ (xR X).locals) (hr : (xM X).sig.returnType = none) (r0 : Option Nat) (x1 : Int32) (x2 : Int32) (x3 : Int32) (x4 : Int32) : Sim X 5 (FiM X vV) 97 [(0, va_rf r0), (1, .int x1), (2, .int x2), (3, .int x3), (4, .int x4)] [] (f_X12_number_97 r0 x1 x2 x3 x4) := by
  unfold f_X12_number_97
  refine sm_iload cx 4 dX12_number_97 rfl ?_
  refine sm_iload_n cx 2 dX12_number_99 rfl rfl ?_
  refine sm_icmp_lt (tgt := 109) cx dX12_number_100 (by decide) ?_ ?_
  · exact sm_lv [0, 1, 4] rfl (s_X12_number_109 cx hfr hlo hr r0 x1 x4)
  · refine sm_aload_n cx 0 dX12_number_103 rfl rfl ?_
    refine sm_iconst (v := 2) cx dX12_number_104 (by decide) ?_
    refine sm_iload_n cx 3 dX12_number_105 rfl rfl ?_
    refine sm_callV (T := TX12) (N := 47) (toV := vV) cx [.int (2 : Int32), .int x3] rfl cv_X12_183 (fun a h => ct_X12_wrong (xZ X) a h (2 : Int32) x3) (Nat.le_trans (by decide) hfr) (Nat.le_trans (by decide) hlo) rfl (cat_le _ (Nat.le_of_ble_eq_true rfl)) dX12_number_106 (fun _ => ?_)
    exact sm_lv [0, 1, 4] rfl (s_X12_number_109 cx hfr hlo hr r0 x1 x4)
def f_X12_number_83 (r0 : Option Nat) (x1 : Int32) (x2 : Int32) (x3 : Int32) (x4 : Int32) : Mo Unit := mb (gI 15 17 r0) (fun v84 => (if v84 = x3 then mb (mo 15 r0 (f_X12_wrong r0 (1 : Int32) x3)) (fun _ => f_X12_number_97 r0 x1 x2 x3 x4) else f_X12_number_97 r0 x1 x2 x3 x4))
set_option maxRecDepth 100000 in
set_option maxHeartbeats 4000000 in
theorem s_X12_number_83 {X : Cg} (cx : Cx X cX12_number RX12 5) (hfr : 2 ≤ (xR X).frames) (hlo : 41 ≤ (xR X).locals) (hr : (xM X).sig.returnType = none) (r0 : Option Nat) (x1 : Int32) (x2 : Int32) (x3 : Int32) (x4 : Int32) : Sim X 5 (FiM X vV) 83 [(0, va_rf r0), (1, .int x1), (2, .int x2), (3, .int x3), (4, .int x4)] [] (f_X12_number_83 r0 x1 x2 x3 x4) := by
  unfold f_X12_number_83
  refine sm_aload_n cx 0 dX12_number_83 rfl rfl ?_
  refine sm_getI cx fl_X12_134 dX12_number_84 (fun v84 => ?_)
  refine sm_iload_n cx 3 dX12_number_87 rfl rfl ?_
  refine sm_icmp_ne (tgt := 97) cx dX12_number_88 (by decide) ?_ ?_
  · exact sm_lv [0, 1, 2, 3, 4] rfl (s_X12_number_97 cx hfr hlo hr r0 x1 x2 x3 x4)
  · refine sm_aload_n cx 0 dX12_number_91 rfl rfl ?_
    refine sm_iconst (v := 1) cx dX12_number_92 (by decide) ?_
    refine sm_iload_n cx 3 dX12_number_93 rfl rfl ?_
    refine sm_callV (T := TX12) (N := 47) (toV := vV) cx [.int (1 : Int32), .int x3] rfl cv_X12_183 (fun a h => ct_X12_wrong (xZ X) a h (1 : Int32) x3) (Nat.le_trans (by decide) hfr) (Nat.le_trans (by decide) hlo) rfl (cat_le _ (Nat.le_of_ble_eq_true rfl)) dX12_number_94 (fun _ => ?_)
    exact sm_lv [0, 1, 2, 3, 4] rfl (s_X12_number_97 cx hfr hlo hr r0 x1 x2 x3 x4)
def f_X12_number_12 (r0 : Option Nat) (x1 : Int32) (x2 : Int32) (x3 : Int32) : Nat → Int32 → Mo Unit
  | 0, _ => mf
  | n + 1, x4 => mb (gI 15 17 r0) (fun v14 => mb (mo 15 r0 (f_X12_byteAt r0 v14)) (fun v17 => (if v17 < (48 : Int32) then f_X12_number_83 r0 x1 x2 x3 x4 else mb (gI 15 17 r0) (fun v27 => mb (mo 15 r0 (f_X12_byteAt r0 v27)) (fun v30 => (if (57 : Int32) < v30 then f_X12_number_83 r0 x1 x2 x3 x4 else (if x4 ≤ (1000 : Int32) then mb (gI 15 17 r0) (fun v58 => mb (mo 15 r0 (f_X12_byteAt r0 v58)) (fun v61 => f_X12_number_68 (f_X12_number_12 r0 x1 x2 x3 n) r0 x1 x2 x3 ((((10 : Int32) * x4) + v61) - (48 : Int32)))) else f_X12_number_68 (f_X12_number_12 r0 x1 x2 x3 n) r0 x1 x2 x3 x4)))))))
set_option maxRecDepth 100000 in
set_option maxHeartbeats 4000000 in
theorem s_X12_number_12 {X : Cg} (cx : Cx X cX12_number RX12 5) (hfr : 2 ≤ (xR X).frames) (hlo : 41 ≤ (xR X).locals) (hr : (xM X).sig.returnType = none) (r0 : Option Nat) (x1 : Int32) (x2 : Int32) (x3 : Int32) : ∀ (n : Nat) (x4 : Int32), Sim X 5 (FiM X vV) 12 [(0, va_rf r0), (1, .int x1), (2, .int x2), (3, .int x3), (4, .int x4)] [] (f_X12_number_12 r0 x1 x2 x3 n x4) := by
  intro n
  induction n with
  | zero =>
    intro _
    exact sm_mf
  | succ n ih =>
    intro x4
    rw [f_X12_number_12]
    refine sm_aload_n cx 0 dX12_number_12 rfl rfl ?_
    refine sm_aload_n cx 0 dX12_number_13 rfl rfl ?_
    refine sm_getI cx fl_X12_134 dX12_number_14 (fun v14 => ?_)
    refine sm_callV (T := TX12) (N := 47) (toV := vI) cx [.int v14] rfl cv_X12_137 (fun a h => ct_X12_byteAt (xZ X) a h v14) (Nat.le_trans (by decide) hfr) (Nat.le_trans (by decide) hlo) rfl (cat_le _ (Nat.le_of_ble_eq_true rfl)) dX12_number_17 (fun v17 => ?_)
    refine sm_bipush (v := 48) cx dX12_number_20 (by decide) ?_
    refine sm_icmp_lt (tgt := 83) cx dX12_number_22 (by decide) ?_ ?_
    · exact sm_lv [0, 1, 2, 3, 4] rfl (s_X12_number_83 cx hfr hlo hr r0 x1 x2 x3 x4)
    · refine sm_aload_n cx 0 dX12_number_25 rfl rfl ?_
      refine sm_aload_n cx 0 dX12_number_26 rfl rfl ?_
      refine sm_getI cx fl_X12_134 dX12_number_27 (fun v27 => ?_)
      refine sm_callV (T := TX12) (N := 47) (toV := vI) cx [.int v27] rfl cv_X12_137 (fun a h => ct_X12_byteAt (xZ X) a h v27) (Nat.le_trans (by decide) hfr) (Nat.le_trans (by decide) hlo) rfl (cat_le _ (Nat.le_of_ble_eq_true rfl)) dX12_number_30 (fun v30 => ?_)
      refine sm_bipush (v := 57) cx dX12_number_33 (by decide) ?_
      refine sm_icmp_gt (tgt := 83) cx dX12_number_35 (by decide) ?_ ?_
      · exact sm_lv [0, 1, 2, 3, 4] rfl (s_X12_number_83 cx hfr hlo hr r0 x1 x2 x3 x4)
      · refine sm_iload cx 4 dX12_number_38 rfl ?_
        refine sm_sipush (v := 1000) cx dX12_number_40 (by decide) ?_
        refine sm_icmp_le (tgt := 51) cx dX12_number_43 (by decide) ?_ ?_
        · refine sm_bipush (v := 10) cx dX12_number_51 (by decide) ?_
          refine sm_iload cx 4 dX12_number_53 rfl ?_
          refine sm_imul cx dX12_number_55 ?_
          refine sm_aload_n cx 0 dX12_number_56 rfl rfl ?_
          refine sm_aload_n cx 0 dX12_number_57 rfl rfl ?_
          refine sm_getI cx fl_X12_134 dX12_number_58 (fun v58 => ?_)
          refine sm_callV (T := TX12) (N := 47) (toV := vI) cx [.int v58] rfl cv_X12_137 (fun a h => ct_X12_byteAt (xZ X) a h v58) (Nat.le_trans (by decide) hfr) (Nat.le_trans (by decide) hlo) rfl (cat_le _ (Nat.le_of_ble_eq_true rfl)) dX12_number_61 (fun v61 => ?_)
          refine sm_iadd cx dX12_number_64 ?_
          refine sm_bipush (v := 48) cx dX12_number_65 (by decide) ?_
          refine sm_isub cx dX12_number_67 ?_
          exact sm_lv [0, 1, 2, 3] rfl (s_X12_number_68 cx hfr hlo hr r0 x1 x2 x3 ((((10 : Int32) * x4) + v61) - (48 : Int32)) ih)
        · refine sm_iload cx 4 dX12_number_46 rfl ?_
          refine sm_goto (tgt := 68) cx dX12_number_48 (by decide) ?_
          exact sm_lv [0, 1, 2, 3] rfl (s_X12_number_68 cx hfr hlo hr r0 x1 x2 x3 x4 ih)
def f_X12_number (r0 : Option Nat) (x1 : Int32) (x2 : Int32) : Mo Unit := mb (mo 15 r0 (f_X12_blanks r0)) (fun _ => mb (gI 15 17 r0) (fun v5 => f_X12_number_12 r0 x1 x2 v5 fuL (0 : Int32)))
set_option maxRecDepth 100000 in
set_option maxHeartbeats 4000000 in
theorem s_X12_number {X : Cg} (cx : Cx X cX12_number RX12 5) (hfr : 2 ≤ (xR X).frames) (hlo : 41 ≤ (xR X).locals) (hr : (xM X).sig.returnType = none) (r0 : Option Nat) (x1 : Int32) (x2 : Int32) : Sim X 5 (FiM X vV) 0 [(0, va_rf r0), (1, .int x1), (2, .int x2)] [] (f_X12_number r0 x1 x2) := by
  unfold f_X12_number
  refine sm_aload_n cx 0 dX12_number_0 rfl rfl ?_
  refine sm_callV (T := TX12) (N := 47) (toV := vV) cx [] rfl cv_X12_143 (fun a h => ct_X12_blanks (xZ X) a h) (Nat.le_trans (by decide) hfr) (Nat.le_trans (by decide) hlo) rfl (cat_le _ (Nat.le_of_ble_eq_true rfl)) dX12_number_1 (fun _ => ?_)
  refine sm_aload_n cx 0 dX12_number_4 rfl rfl ?_
  refine sm_getI cx fl_X12_134 dX12_number_5 (fun v5 => ?_)
  refine sm_istore_n cx [(3, .int v5), (0, va_rf r0), (1, .int x1), (2, .int x2)] dX12_number_8 rfl (by decide) rfl (nc1 rfl) rfl ?_
  refine sm_iconst (v := 0) cx dX12_number_9 (by decide) ?_
  refine sm_istore cx [(4, .int (0 : Int32)), (3, .int v5), (0, va_rf r0), (1, .int x1), (2, .int x2)] dX12_number_10 (by decide) rfl (nc1 rfl) rfl ?_
  exact sm_lv [2, 3, 4, 1, 0] rfl (s_X12_number_12 cx hfr hlo hr r0 x1 x2 v5 fuL (0 : Int32))
set_option maxRecDepth 100000 in
set_option maxHeartbeats 4000000 in
theorem ct_X12_number (Z : Nat → Nat) {r0 : Option Nat} (a0 : Nat) (h0 : r0 = some a0) (x1 : Int32) (x2 : Int32) : Ct yX12_number cX12_number 5 none 2 41 Z [.ref a0, .int x1, .int x2] vV (f_X12_number r0 x1 x2) := by
  subst h0
  refine ct_of (lv0 := [(0, va_rf (some a0)), (1, .int x1), (2, .int x2)]) (by decide +kernel) (by simp [lg_sl, ct_i, ct_l, ct_r, rf_cat]) (by show _ = ([(0, Value.ref a0), (1, .int x1), (2, .int x2)] : List (Nat × Value)); simp [lv_args, ct_i, ct_l, ct_r, rf_cat]) (fun X cx hZ hfr hlo hr hin => ?_)
  subst hZ
  exact s_X12_number cx (Nat.le_of_eq hfr.symm) (Nat.le_of_eq hlo.symm) hr (some a0) x1 x2
/-! PolicyTreeModel.one()V -/
theorem dX12_one_0 : decode cX12_one 0 = .ok (.aload_n 0, 1) := by decide +kernel
theorem dX12_one_1 : decode cX12_one 1 = .ok (.getfield 140, 3) := by decide +kernel
theorem dX12_one_4 : decode cX12_one 4 = .ok (.ifCond .le 4, 3) := by decide +kernel
theorem dX12_one_7 : decode cX12_one 7 = .ok (.return_, 1) := by decide +kernel
theorem dX12_one_8 : decode cX12_one 8 = .ok (.aload_n 0, 1) := by decide +kernel
theorem dX12_one_9 : decode cX12_one 9 = .ok (.ldc 187, 2) := by decide +kernel
theorem dX12_one_11 : decode cX12_one 11 = .ok (.invokevirtual 156, 3) := by decide +kernel
theorem dX12_one_14 : decode cX12_one 14 = .ok (.ifCond .eq 43, 3) := by decide +kernel
theorem dX12_one_17 : decode cX12_one 17 = .ok (.aload_n 0, 1) := by decide +kernel
theorem dX12_one_18 : decode cX12_one 18 = .ok (.invokevirtual 189, 3) := by decide +kernel
theorem dX12_one_21 : decode cX12_one 21 = .ok (.ifCond .ne 4, 3) := by decide +kernel
theorem dX12_one_24 : decode cX12_one 24 = .ok (.return_, 1) := by decide +kernel
theorem dX12_one_25 : decode cX12_one 25 = .ok (.aload_n 0, 1) := by decide +kernel
theorem dX12_one_26 : decode cX12_one 26 = .ok (.dup, 1) := by decide +kernel
theorem dX12_one_27 : decode cX12_one 27 = .ok (.getfield 134, 3) := by decide +kernel
theorem dX12_one_30 : decode cX12_one 30 = .ok (.iconst 3, 1) := by decide +kernel
theorem dX12_one_31 : decode cX12_one 31 = .ok (.iadd, 1) := by decide +kernel
theorem dX12_one_32 : decode cX12_one 32 = .ok (.putfield 134, 3) := by decide +kernel
theorem dX12_one_35 : decode cX12_one 35 = .ok (.aload_n 0, 1) := by decide +kernel
theorem dX12_one_36 : decode cX12_one 36 = .ok (.invokevirtual 175, 3) := by decide +kernel
theorem dX12_one_39 : decode cX12_one 39 = .ok (.aload_n 0, 1) := by decide +kernel
theorem dX12_one_40 : decode cX12_one 40 = .ok (.dup, 1) := by decide +kernel
theorem dX12_one_41 : decode cX12_one 41 = .ok (.getfield 180, 3) := by decide +kernel
theorem dX12_one_44 : decode cX12_one 44 = .ok (.iconst 1, 1) := by decide +kernel
theorem dX12_one_45 : decode cX12_one 45 = .ok (.isub, 1) := by decide +kernel
theorem dX12_one_46 : decode cX12_one 46 = .ok (.putfield 180, 3) := by decide +kernel
theorem dX12_one_49 : decode cX12_one 49 = .ok (.aload_n 0, 1) := by decide +kernel
theorem dX12_one_50 : decode cX12_one 50 = .ok (.iconst 2, 1) := by decide +kernel
theorem dX12_one_51 : decode cX12_one 51 = .ok (.invokevirtual 171, 3) := by decide +kernel
theorem dX12_one_54 : decode cX12_one 54 = .ok (.goto 157, 3) := by decide +kernel
theorem dX12_one_57 : decode cX12_one 57 = .ok (.aload_n 0, 1) := by decide +kernel
theorem dX12_one_58 : decode cX12_one 58 = .ok (.aload_n 0, 1) := by decide +kernel
theorem dX12_one_59 : decode cX12_one 59 = .ok (.getfield 134, 3) := by decide +kernel
theorem dX12_one_62 : decode cX12_one 62 = .ok (.invokevirtual 137, 3) := by decide +kernel
theorem dX12_one_65 : decode cX12_one 65 = .ok (.bipush 40, 2) := by decide +kernel
theorem dX12_one_67 : decode cX12_one 67 = .ok (.if_icmp .ne 74, 3) := by decide +kernel
theorem dX12_one_70 : decode cX12_one 70 = .ok (.aload_n 0, 1) := by decide +kernel
theorem dX12_one_71 : decode cX12_one 71 = .ok (.invokevirtual 189, 3) := by decide +kernel
theorem dX12_one_74 : decode cX12_one 74 = .ok (.ifCond .ne 4, 3) := by decide +kernel
theorem dX12_one_77 : decode cX12_one 77 = .ok (.return_, 1) := by decide +kernel
theorem dX12_one_78 : decode cX12_one 78 = .ok (.aload_n 0, 1) := by decide +kernel
theorem dX12_one_79 : decode cX12_one 79 = .ok (.dup, 1) := by decide +kernel
theorem dX12_one_80 : decode cX12_one 80 = .ok (.getfield 134, 3) := by decide +kernel
theorem dX12_one_83 : decode cX12_one 83 = .ok (.iconst 1, 1) := by decide +kernel
theorem dX12_one_84 : decode cX12_one 84 = .ok (.iadd, 1) := by decide +kernel
theorem dX12_one_85 : decode cX12_one 85 = .ok (.putfield 134, 3) := by decide +kernel
theorem dX12_one_88 : decode cX12_one 88 = .ok (.aload_n 0, 1) := by decide +kernel
theorem dX12_one_89 : decode cX12_one 89 = .ok (.invokevirtual 193, 3) := by decide +kernel
theorem dX12_one_92 : decode cX12_one 92 = .ok (.aload_n 0, 1) := by decide +kernel
theorem dX12_one_93 : decode cX12_one 93 = .ok (.invokevirtual 143, 3) := by decide +kernel
theorem dX12_one_96 : decode cX12_one 96 = .ok (.aload_n 0, 1) := by decide +kernel
theorem dX12_one_97 : decode cX12_one 97 = .ok (.aload_n 0, 1) := by decide +kernel
theorem dX12_one_98 : decode cX12_one 98 = .ok (.getfield 134, 3) := by decide +kernel
theorem dX12_one_101 : decode cX12_one 101 = .ok (.invokevirtual 137, 3) := by decide +kernel
theorem dX12_one_104 : decode cX12_one 104 = .ok (.bipush 41, 2) := by decide +kernel
theorem dX12_one_106 : decode cX12_one 106 = .ok (.if_icmp .eq 12, 3) := by decide +kernel
theorem dX12_one_109 : decode cX12_one 109 = .ok (.aload_n 0, 1) := by decide +kernel
theorem dX12_one_110 : decode cX12_one 110 = .ok (.iconst 1, 1) := by decide +kernel
theorem dX12_one_111 : decode cX12_one 111 = .ok (.aload_n 0, 1) := by decide +kernel
theorem dX12_one_112 : decode cX12_one 112 = .ok (.getfield 134, 3) := by decide +kernel
theorem dX12_one_115 : decode cX12_one 115 = .ok (.invokevirtual 183, 3) := by decide +kernel
theorem dX12_one_118 : decode cX12_one 118 = .ok (.aload_n 0, 1) := by decide +kernel
theorem dX12_one_119 : decode cX12_one 119 = .ok (.dup, 1) := by decide +kernel
theorem dX12_one_120 : decode cX12_one 120 = .ok (.getfield 134, 3) := by decide +kernel
theorem dX12_one_123 : decode cX12_one 123 = .ok (.iconst 1, 1) := by decide +kernel
theorem dX12_one_124 : decode cX12_one 124 = .ok (.iadd, 1) := by decide +kernel
theorem dX12_one_125 : decode cX12_one 125 = .ok (.putfield 134, 3) := by decide +kernel
theorem dX12_one_128 : decode cX12_one 128 = .ok (.aload_n 0, 1) := by decide +kernel
theorem dX12_one_129 : decode cX12_one 129 = .ok (.dup, 1) := by decide +kernel
theorem dX12_one_130 : decode cX12_one 130 = .ok (.getfield 180, 3) := by decide +kernel
theorem dX12_one_133 : decode cX12_one 133 = .ok (.iconst 1, 1) := by decide +kernel
theorem dX12_one_134 : decode cX12_one 134 = .ok (.isub, 1) := by decide +kernel
theorem dX12_one_135 : decode cX12_one 135 = .ok (.putfield 180, 3) := by decide +kernel
theorem dX12_one_138 : decode cX12_one 138 = .ok (.goto 73, 3) := by decide +kernel
theorem dX12_one_141 : decode cX12_one 141 = .ok (.aload_n 0, 1) := by decide +kernel
theorem dX12_one_142 : decode cX12_one 142 = .ok (.ldc 196, 2) := by decide +kernel
theorem dX12_one_144 : decode cX12_one 144 = .ok (.invokevirtual 168, 3) := by decide +kernel
theorem dX12_one_147 : decode cX12_one 147 = .ok (.ifCond .eq 15, 3) := by decide +kernel
theorem dX12_one_150 : decode cX12_one 150 = .ok (.aload_n 0, 1) := by decide +kernel
theorem dX12_one_151 : decode cX12_one 151 = .ok (.iconst 1, 1) := by decide +kernel
theorem dX12_one_152 : decode cX12_one 152 = .ok (.aload_n 0, 1) := by decide +kernel
theorem dX12_one_153 : decode cX12_one 153 = .ok (.getfield 111, 3) := by decide +kernel
theorem dX12_one_156 : decode cX12_one 156 = .ok (.invokevirtual 198, 3) := by decide +kernel
theorem dX12_one_159 : decode cX12_one 159 = .ok (.goto 52, 3) := by decide +kernel
theorem dX12_one_162 : decode cX12_one 162 = .ok (.aload_n 0, 1) := by decide +kernel
theorem dX12_one_163 : decode cX12_one 163 = .ok (.ldc 201, 2) := by decide +kernel
theorem dX12_one_165 : decode cX12_one 165 = .ok (.invokevirtual 168, 3) := by decide +kernel
theorem dX12_one_168 : decode cX12_one 168 = .ok (.ifCond .eq 13, 3) := by decide +kernel
theorem dX12_one_171 : decode cX12_one 171 = .ok (.aload_n 0, 1) := by decide +kernel
theorem dX12_one_172 : decode cX12_one 172 = .ok (.iconst 2, 1) := by decide +kernel
theorem dX12_one_173 : decode cX12_one 173 = .ok (.bipush 8, 2) := by decide +kernel
theorem dX12_one_175 : decode cX12_one 175 = .ok (.invokevirtual 198, 3) := by decide +kernel
theorem dX12_one_178 : decode cX12_one 178 = .ok (.goto 33, 3) := by decide +kernel
theorem dX12_one_181 : decode cX12_one 181 = .ok (.aload_n 0, 1) := by decide +kernel
theorem dX12_one_182 : decode cX12_one 182 = .ok (.ldc 203, 2) := by decide +kernel
theorem dX12_one_184 : decode cX12_one 184 = .ok (.invokevirtual 168, 3) := by decide +kernel
theorem dX12_one_187 : decode cX12_one 187 = .ok (.ifCond .eq 15, 3) := by decide +kernel
theorem dX12_one_190 : decode cX12_one 190 = .ok (.aload_n 0, 1) := by decide +kernel
theorem dX12_one_191 : decode cX12_one 191 = .ok (.iconst 3, 1) := by decide +kernel
theorem dX12_one_192 : decode cX12_one 192 = .ok (.aload_n 0, 1) := by decide +kernel
theorem dX12_one_193 : decode cX12_one 193 = .ok (.getfield 94, 3) := by decide +kernel
theorem dX12_one_196 : decode cX12_one 196 = .ok (.invokevirtual 198, 3) := by decide +kernel
theorem dX12_one_199 : decode cX12_one 199 = .ok (.goto 12, 3) := by decide +kernel
theorem dX12_one_202 : decode cX12_one 202 = .ok (.aload_n 0, 1) := by decide +kernel
theorem dX12_one_203 : decode cX12_one 203 = .ok (.iconst 1, 1) := by decide +kernel
theorem dX12_one_204 : decode cX12_one 204 = .ok (.aload_n 0, 1) := by decide +kernel
theorem dX12_one_205 : decode cX12_one 205 = .ok (.getfield 134, 3) := by decide +kernel
theorem dX12_one_208 : decode cX12_one 208 = .ok (.invokevirtual 183, 3) := by decide +kernel
theorem dX12_one_211 : decode cX12_one 211 = .ok (.return_, 1) := by decide +kernel
def f_X12_one_211 (Z : Nat → Nat) (g1 : Option Nat → Mo Unit) (g2 : Option Nat → Mo Unit) : Mo Unit := mp ()
set_option maxRecDepth 100000 in
set_option maxHeartbeats 4000000 in
theorem s_X12_one_211 {X : Cg} (cx : Cx X cX12_one RX12 1) (hfr : 6 ≤ (xR X).frames) (hlo : 129 ≤ (xR X).locals) (hr : (xM X).sig.returnType = none) {g1 : Option Nat → Mo Unit} {fo1 lo1 : Nat} (c1 : ∀ {r9 : Option Nat} (a9 : Nat), r9 = some a9 → Ct yX12_any cX12_any 1 none fo1 lo1 (xZ X) [.ref a9] vV (g1 r9)) (hfo1 : fo1 + 1 ≤ (xR X).frames) (hlo1 : 8 + (1 + 11) + lo1 ≤ (xR X).locals) {g2 : Option Nat → Mo Unit} {fo2 lo2 : Nat} (c2 : ∀ {r9 : Option Nat} (a9 : Nat), r9 = some a9 → Ct yX12_one cX12_one 1 none fo2 lo2 (xZ X) [.ref a9] vV (g2 r9)) (hfo2 : fo2 + 1 ≤ (xR X).frames) (hlo2 : 8 + (1 + 11) + lo2 ≤ (xR X).locals) : Sim X 1 (FiM X vV) 211 [] [] (f_X12_one_211 (xZ X) g1 g2) := by
  unfold f_X12_one_211
  exact sm_vret cx hr dX12_one_211
def f_X12_one_118 (Z : Nat → Nat) (g1 : Option Nat → Mo Unit) (g2 : Option Nat → Mo Unit) (r0 : Option Nat) : Mo Unit := mb (gI 15 17 r0) (fun v120 => mb (pV 15 17 r0 (.int (v120 + (1 : Int32)))) (fun _ => mb (gI 15 20 r0) (fun v130 => mb (pV 15 20 r0 (.int (v130 - (1 : Int32)))) (fun _ => f_X12_one_211 Z g1 g2))))
set_option maxRecDepth 100000 in
set_option maxHeartbeats 4000000 in
theorem s_X12_one_118 {X : Cg} (cx : Cx X cX12_one RX12 1) (hfr : 6 ≤ (xR X).frames) (hlo : 129 ≤ (xR X).locals) (hr : (xM X).sig.returnType = none) {g1 : Option Nat → Mo Unit} {fo1 lo1 : Nat} (c1 : ∀ {r9 : Option Nat} (a9 : Nat), r9 = some a9 → Ct yX12_any cX12_any 1 none fo1 lo1 (xZ X) [.ref a9] vV (g1 r9)) (hfo1 : fo1 + 1 ≤ (xR X).frames) (hlo1 : 8 + (1 + 11) + lo1 ≤ (xR X).locals) {g2 : Option Nat → Mo Unit} {fo2 lo2 : Nat} (c2 : ∀ {r9 : Option Nat} (a9 : Nat), r9 = some a9 → Ct yX12_one cX12_one 1 none fo2 lo2 (xZ X) [.ref a9] vV (g2 r9)) (hfo2 : fo2 + 1 ≤ (xR X).frames) (hlo2 : 8 + (1 + 11) + lo2 ≤ (xR X).locals) (r0 : Option Nat) : Sim X 1 (FiM X vV) 118 [(0, va_rf r0)] [] (f_X12_one_118 (xZ X) g1 g2 r0) := by
  unfold f_X12_one_118
  refine sm_aload_n cx 0 dX12_one_118 rfl rfl ?_
  refine sm_dup cx dX12_one_119 (rf_cat _) ?_
  refine sm_getI cx fl_X12_134 dX12_one_120 (fun v120 => ?_)
  refine sm_iconst (v := 1) cx dX12_one_123 (by decide) ?_
  refine sm_iadd cx dX12_one_124 ?_
  refine sm_putV cx fl_X12_134 rfl rfl dX12_one_125 ?_
  refine sm_aload_n cx 0 dX12_one_128 rfl rfl ?_
  refine sm_dup cx dX12_one_129 (rf_cat _) ?_
  refine sm_getI cx fl_X12_180 dX12_one_130 (fun v130 => ?_)
  refine sm_iconst (v := 1) cx dX12_one_133 (by decide) ?_
  refine sm_isub cx dX12_one_134 ?_
  refine sm_putV cx fl_X12_180 rfl rfl dX12_one_135 ?_
  refine sm_goto (tgt := 211) cx dX12_one_138 (by decide) ?_
  exact sm_lv [] rfl (s_X12_one_211 cx hfr hlo hr c1 hfo1 hlo1 c2 hfo2 hlo2)
def f_X12_one (Z : Nat → Nat) (g1 : Option Nat → Mo Unit) (g2 : Option Nat → Mo Unit) (r0 : Option Nat) : Mo Unit := mb (gI 15 18 r0) (fun v1 => (if v1 ≤ 0 then mb (mo 15 r0 (f_X12_isWord Z r0 (some (Z 10)))) (fun v11 => (if v11 = 0 then mb (gI 15 17 r0) (fun v59 => mb (mo 15 r0 (f_X12_byteAt r0 v59)) (fun v62 => (if v62 = (40 : Int32) then mb (mo 15 r0 (f_X12_opens r0)) (fun v71 => (if v71 = 0 then mp () else mb (gI 15 17 r0) (fun v80 => mb (pV 15 17 r0 (.int (v80 + (1 : Int32)))) (fun _ => mb (mo 15 r0 (g1 r0)) (fun _ => mb (mo 15 r0 (f_X12_blanks r0)) (fun _ => mb (gI 15 17 r0) (fun v98 => mb (mo 15 r0 (f_X12_byteAt r0 v98)) (fun v101 => (if v101 = (41 : Int32) then f_X12_one_118 Z g1 g2 r0 else mb (gI 15 17 r0) (fun v112 => mb (mo 15 r0 (f_X12_wrong r0 (1 : Int32) v112)) (fun _ => f_X12_one_118 Z g1 g2 r0))))))))))) else mb (mo 15 r0 (f_X12_eat Z r0 (some (Z 11)))) (fun v144 => (if v144 = 0 then mb (mo 15 r0 (f_X12_eat Z r0 (some (Z 12)))) (fun v165 => (if v165 = 0 then mb (mo 15 r0 (f_X12_eat Z r0 (some (Z 13)))) (fun v184 => (if v184 = 0 then mb (gI 15 17 r0) (fun v205 => mb (mo 15 r0 (f_X12_wrong r0 (1 : Int32) v205)) (fun _ => f_X12_one_211 Z g1 g2)) else mb (gI 15 3 r0) (fun v193 => mb (mo 15 r0 (f_X12_number r0 (3 : Int32) v193)) (fun _ => f_X12_one_211 Z g1 g2)))) else mb (mo 15 r0 (f_X12_number r0 (2 : Int32) (8 : Int32))) (fun _ => f_X12_one_211 Z g1 g2))) else mb (gI 15 9 r0) (fun v153 => mb (mo 15 r0 (f_X12_number r0 (1 : Int32) v153)) (fun _ => f_X12_one_211 Z g1 g2))))))) else mb (mo 15 r0 (f_X12_opens r0)) (fun v18 => (if v18 = 0 then mp () else mb (gI 15 17 r0) (fun v27 => mb (pV 15 17 r0 (.int (v27 + (3 : Int32)))) (fun _ => mb (mo 15 r0 (g2 r0)) (fun _ => mb (gI 15 20 r0) (fun v41 => mb (pV 15 20 r0 (.int (v41 - (1 : Int32)))) (fun _ => mb (mo 15 r0 (f_X12_emits r0 (2 : Int32))) (fun _ => f_X12_one_211 Z g1 g2)))))))))) else mp ()))
set_option maxRecDepth 100000 in
set_option maxHeartbeats 4000000 in
theorem s_X12_one {X : Cg} (cx : Cx X cX12_one RX12 1) (hfr : 6 ≤ (xR X).frames) (hlo : 129 ≤ (xR X).locals) (hr : (xM X).sig.returnType = none) {g1 : Option Nat → Mo Unit} {fo1 lo1 : Nat} (c1 : ∀ {r9 : Option Nat} (a9 : Nat), r9 = some a9 → Ct yX12_any cX12_any 1 none fo1 lo1 (xZ X) [.ref a9] vV (g1 r9)) (hfo1 : fo1 + 1 ≤ (xR X).frames) (hlo1 : 8 + (1 + 11) + lo1 ≤ (xR X).locals) {g2 : Option Nat → Mo Unit} {fo2 lo2 : Nat} (c2 : ∀ {r9 : Option Nat} (a9 : Nat), r9 = some a9 → Ct yX12_one cX12_one 1 none fo2 lo2 (xZ X) [.ref a9] vV (g2 r9)) (hfo2 : fo2 + 1 ≤ (xR X).frames) (hlo2 : 8 + (1 + 11) + lo2 ≤ (xR X).locals) (r0 : Option Nat) : Sim X 1 (FiM X vV) 0 [(0, va_rf r0)] [] (f_X12_one (xZ X) g1 g2 r0) := by
  unfold f_X12_one
  refine sm_aload_n cx 0 dX12_one_0 rfl rfl ?_
  refine sm_getI cx fl_X12_140 dX12_one_1 (fun v1 => ?_)
  refine sm_if_le (tgt := 8) cx dX12_one_4 (by decide) ?_ ?_
  · refine sm_aload_n cx 0 dX12_one_8 rfl rfl ?_
    refine sm_ldcS cx ("PolicyTreeModel", 187, "not", 0) (List.mem_of_getElem? (i := 6) rfl) rfl rfl dX12_one_9 ?_
    refine sm_callV (T := TX12) (N := 47) (toV := vI) cx [va_rf (some ((xZ X) 10))] rfl cv_X12_156 (fun a h => ct_X12_isWord (xZ X) a h (some ((xZ X) 10))) (Nat.le_trans (by decide) hfr) (Nat.le_trans (by decide) hlo) rfl (cat_le _ (Nat.le_of_ble_eq_true rfl)) dX12_one_11 (fun v11 => ?_)
    refine sm_if_eq (tgt := 57) cx dX12_one_14 (by decide) ?_ ?_
    · refine sm_aload_n cx 0 dX12_one_57 rfl rfl ?_
      refine sm_aload_n cx 0 dX12_one_58 rfl rfl ?_
      refine sm_getI cx fl_X12_134 dX12_one_59 (fun v59 => ?_)
      refine sm_callV (T := TX12) (N := 47) (toV := vI) cx [.int v59] rfl cv_X12_137 (fun a h => ct_X12_byteAt (xZ X) a h v59) (Nat.le_trans (by decide) hfr) (Nat.le_trans (by decide) hlo) rfl (cat_le _ (Nat.le_of_ble_eq_true rfl)) dX12_one_62 (fun v62 => ?_)
      refine sm_bipush (v := 40) cx dX12_one_65 (by decide) ?_
      refine sm_icmp_ne (tgt := 141) cx dX12_one_67 (by decide) ?_ ?_
      · refine sm_aload_n cx 0 dX12_one_141 rfl rfl ?_
        refine sm_ldcS cx ("PolicyTreeModel", 196, "group", 1) (List.mem_of_getElem? (i := 7) rfl) rfl rfl dX12_one_142 ?_
        refine sm_callV (T := TX12) (N := 47) (toV := vI) cx [va_rf (some ((xZ X) 11))] rfl cv_X12_168 (fun a h => ct_X12_eat (xZ X) a h (some ((xZ X) 11))) (Nat.le_trans (by decide) hfr) (Nat.le_trans (by decide) hlo) rfl (cat_le _ (Nat.le_of_ble_eq_true rfl)) dX12_one_144 (fun v144 => ?_)
        refine sm_if_eq (tgt := 162) cx dX12_one_147 (by decide) ?_ ?_
        · refine sm_aload_n cx 0 dX12_one_162 rfl rfl ?_
          refine sm_ldcS cx ("PolicyTreeModel", 201, "fact", 2) (List.mem_of_getElem? (i := 8) rfl) rfl rfl dX12_one_163 ?_
          refine sm_callV (T := TX12) (N := 47) (toV := vI) cx [va_rf (some ((xZ X) 12))] rfl cv_X12_168 (fun a h => ct_X12_eat (xZ X) a h (some ((xZ X) 12))) (Nat.le_trans (by decide) hfr) (Nat.le_trans (by decide) hlo) rfl (cat_le _ (Nat.le_of_ble_eq_true rfl)) dX12_one_165 (fun v165 => ?_)
          refine sm_if_eq (tgt := 181) cx dX12_one_168 (by decide) ?_ ?_
          · refine sm_aload_n cx 0 dX12_one_181 rfl rfl ?_
            refine sm_ldcS cx ("PolicyTreeModel", 203, "node", 3) (List.mem_of_getElem? (i := 9) rfl) rfl rfl dX12_one_182 ?_
            refine sm_callV (T := TX12) (N := 47) (toV := vI) cx [va_rf (some ((xZ X) 13))] rfl cv_X12_168 (fun a h => ct_X12_eat (xZ X) a h (some ((xZ X) 13))) (Nat.le_trans (by decide) hfr) (Nat.le_trans (by decide) hlo) rfl (cat_le _ (Nat.le_of_ble_eq_true rfl)) dX12_one_184 (fun v184 => ?_)
            refine sm_if_eq (tgt := 202) cx dX12_one_187 (by decide) ?_ ?_
            · refine sm_aload_n cx 0 dX12_one_202 rfl rfl ?_
              refine sm_iconst (v := 1) cx dX12_one_203 (by decide) ?_
              refine sm_aload_n cx 0 dX12_one_204 rfl rfl ?_
              refine sm_getI cx fl_X12_134 dX12_one_205 (fun v205 => ?_)
              refine sm_callV (T := TX12) (N := 47) (toV := vV) cx [.int (1 : Int32), .int v205] rfl cv_X12_183 (fun a h => ct_X12_wrong (xZ X) a h (1 : Int32) v205) (Nat.le_trans (by decide) hfr) (Nat.le_trans (by decide) hlo) rfl (cat_le _ (Nat.le_of_ble_eq_true rfl)) dX12_one_208 (fun _ => ?_)
              exact sm_lv [] rfl (s_X12_one_211 cx hfr hlo hr c1 hfo1 hlo1 c2 hfo2 hlo2)
            · refine sm_aload_n cx 0 dX12_one_190 rfl rfl ?_
              refine sm_iconst (v := 3) cx dX12_one_191 (by decide) ?_
              refine sm_aload_n cx 0 dX12_one_192 rfl rfl ?_
              refine sm_getI cx fl_X12_94 dX12_one_193 (fun v193 => ?_)
              refine sm_callV (T := TX12) (N := 47) (toV := vV) cx [.int (3 : Int32), .int v193] rfl cv_X12_198 (fun a h => ct_X12_number (xZ X) a h (3 : Int32) v193) (Nat.le_trans (by decide) hfr) (Nat.le_trans (by decide) hlo) rfl (cat_le _ (Nat.le_of_ble_eq_true rfl)) dX12_one_196 (fun _ => ?_)
              refine sm_goto (tgt := 211) cx dX12_one_199 (by decide) ?_
              exact sm_lv [] rfl (s_X12_one_211 cx hfr hlo hr c1 hfo1 hlo1 c2 hfo2 hlo2)
          · refine sm_aload_n cx 0 dX12_one_171 rfl rfl ?_
            refine sm_iconst (v := 2) cx dX12_one_172 (by decide) ?_
            refine sm_bipush (v := 8) cx dX12_one_173 (by decide) ?_
            refine sm_callV (T := TX12) (N := 47) (toV := vV) cx [.int (2 : Int32), .int (8 : Int32)] rfl cv_X12_198 (fun a h => ct_X12_number (xZ X) a h (2 : Int32) (8 : Int32)) (Nat.le_trans (by decide) hfr) (Nat.le_trans (by decide) hlo) rfl (cat_le _ (Nat.le_of_ble_eq_true rfl)) dX12_one_175 (fun _ => ?_)
            refine sm_goto (tgt := 211) cx dX12_one_178 (by decide) ?_
            exact sm_lv [] rfl (s_X12_one_211 cx hfr hlo hr c1 hfo1 hlo1 c2 hfo2 hlo2)
        · refine sm_aload_n cx 0 dX12_one_150 rfl rfl ?_
          refine sm_iconst (v := 1) cx dX12_one_151 (by decide) ?_
          refine sm_aload_n cx 0 dX12_one_152 rfl rfl ?_
          refine sm_getI cx fl_X12_111 dX12_one_153 (fun v153 => ?_)
          refine sm_callV (T := TX12) (N := 47) (toV := vV) cx [.int (1 : Int32), .int v153] rfl cv_X12_198 (fun a h => ct_X12_number (xZ X) a h (1 : Int32) v153) (Nat.le_trans (by decide) hfr) (Nat.le_trans (by decide) hlo) rfl (cat_le _ (Nat.le_of_ble_eq_true rfl)) dX12_one_156 (fun _ => ?_)
          refine sm_goto (tgt := 211) cx dX12_one_159 (by decide) ?_
          exact sm_lv [] rfl (s_X12_one_211 cx hfr hlo hr c1 hfo1 hlo1 c2 hfo2 hlo2)
      · refine sm_aload_n cx 0 dX12_one_70 rfl rfl ?_
        refine sm_callV (T := TX12) (N := 47) (toV := vI) cx [] rfl cv_X12_189 (fun a h => ct_X12_opens (xZ X) a h) (Nat.le_trans (by decide) hfr) (Nat.le_trans (by decide) hlo) rfl (cat_le _ (Nat.le_of_ble_eq_true rfl)) dX12_one_71 (fun v71 => ?_)
        refine sm_if_ne (tgt := 78) cx dX12_one_74 (by decide) ?_ ?_
        · refine sm_aload_n cx 0 dX12_one_78 rfl rfl ?_
          refine sm_dup cx dX12_one_79 (rf_cat _) ?_
          refine sm_getI cx fl_X12_134 dX12_one_80 (fun v80 => ?_)
          refine sm_iconst (v := 1) cx dX12_one_83 (by decide) ?_
          refine sm_iadd cx dX12_one_84 ?_
          refine sm_putV cx fl_X12_134 rfl rfl dX12_one_85 ?_
          refine sm_aload_n cx 0 dX12_one_88 rfl rfl ?_
          refine sm_callV (T := TX12) (N := 47) (toV := vV) cx [] rfl cv_X12_193 (fun a h => c1 a h) hfo1 hlo1 rfl (cat_le _ (Nat.le_of_ble_eq_true rfl)) dX12_one_89 (fun _ => ?_)
          refine sm_aload_n cx 0 dX12_one_92 rfl rfl ?_
          refine sm_callV (T := TX12) (N := 47) (toV := vV) cx [] rfl cv_X12_143 (fun a h => ct_X12_blanks (xZ X) a h) (Nat.le_trans (by decide) hfr) (Nat.le_trans (by decide) hlo) rfl (cat_le _ (Nat.le_of_ble_eq_true rfl)) dX12_one_93 (fun _ => ?_)
          refine sm_aload_n cx 0 dX12_one_96 rfl rfl ?_
          refine sm_aload_n cx 0 dX12_one_97 rfl rfl ?_
          refine sm_getI cx fl_X12_134 dX12_one_98 (fun v98 => ?_)
          refine sm_callV (T := TX12) (N := 47) (toV := vI) cx [.int v98] rfl cv_X12_137 (fun a h => ct_X12_byteAt (xZ X) a h v98) (Nat.le_trans (by decide) hfr) (Nat.le_trans (by decide) hlo) rfl (cat_le _ (Nat.le_of_ble_eq_true rfl)) dX12_one_101 (fun v101 => ?_)
          refine sm_bipush (v := 41) cx dX12_one_104 (by decide) ?_
          refine sm_icmp_eq (tgt := 118) cx dX12_one_106 (by decide) ?_ ?_
          · exact sm_lv [0] rfl (s_X12_one_118 cx hfr hlo hr c1 hfo1 hlo1 c2 hfo2 hlo2 r0)
          · refine sm_aload_n cx 0 dX12_one_109 rfl rfl ?_
            refine sm_iconst (v := 1) cx dX12_one_110 (by decide) ?_
            refine sm_aload_n cx 0 dX12_one_111 rfl rfl ?_
            refine sm_getI cx fl_X12_134 dX12_one_112 (fun v112 => ?_)
            refine sm_callV (T := TX12) (N := 47) (toV := vV) cx [.int (1 : Int32), .int v112] rfl cv_X12_183 (fun a h => ct_X12_wrong (xZ X) a h (1 : Int32) v112) (Nat.le_trans (by decide) hfr) (Nat.le_trans (by decide) hlo) rfl (cat_le _ (Nat.le_of_ble_eq_true rfl)) dX12_one_115 (fun _ => ?_)
            exact sm_lv [0] rfl (s_X12_one_118 cx hfr hlo hr c1 hfo1 hlo1 c2 hfo2 hlo2 r0)
        · exact sm_vret cx hr dX12_one_77
    · refine sm_aload_n cx 0 dX12_one_17 rfl rfl ?_
      refine sm_callV (T := TX12) (N := 47) (toV := vI) cx [] rfl cv_X12_189 (fun a h => ct_X12_opens (xZ X) a h) (Nat.le_trans (by decide) hfr) (Nat.le_trans (by decide) hlo) rfl (cat_le _ (Nat.le_of_ble_eq_true rfl)) dX12_one_18 (fun v18 => ?_)
      refine sm_if_ne (tgt := 25) cx dX12_one_21 (by decide) ?_ ?_
      · refine sm_aload_n cx 0 dX12_one_25 rfl rfl ?_
        refine sm_dup cx dX12_one_26 (rf_cat _) ?_
        refine sm_getI cx fl_X12_134 dX12_one_27 (fun v27 => ?_)
        refine sm_iconst (v := 3) cx dX12_one_30 (by decide) ?_
        refine sm_iadd cx dX12_one_31 ?_
        refine sm_putV cx fl_X12_134 rfl rfl dX12_one_32 ?_
        refine sm_aload_n cx 0 dX12_one_35 rfl rfl ?_
        refine sm_callV (T := TX12) (N := 47) (toV := vV) cx [] rfl cv_X12_175 (fun a h => c2 a h) hfo2 hlo2 rfl (cat_le _ (Nat.le_of_ble_eq_true rfl)) dX12_one_36 (fun _ => ?_)
        refine sm_aload_n cx 0 dX12_one_39 rfl rfl ?_
        refine sm_dup cx dX12_one_40 (rf_cat _) ?_
        refine sm_getI cx fl_X12_180 dX12_one_41 (fun v41 => ?_)
        refine sm_iconst (v := 1) cx dX12_one_44 (by decide) ?_
        refine sm_isub cx dX12_one_45 ?_
        refine sm_putV cx fl_X12_180 rfl rfl dX12_one_46 ?_
        refine sm_aload_n cx 0 dX12_one_49 rfl rfl ?_
        refine sm_iconst (v := 2) cx dX12_one_50 (by decide) ?_
        refine sm_callV (T := TX12) (N := 47) (toV := vV) cx [.int (2 : Int32)] rfl cv_X12_171 (fun a h => ct_X12_emits (xZ X) a h (2 : Int32)) (Nat.le_trans (by decide) hfr) (Nat.le_trans (by decide) hlo) rfl (cat_le _ (Nat.le_of_ble_eq_true rfl)) dX12_one_51 (fun _ => ?_)
        refine sm_goto (tgt := 211) cx dX12_one_54 (by decide) ?_
        exact sm_lv [] rfl (s_X12_one_211 cx hfr hlo hr c1 hfo1 hlo1 c2 hfo2 hlo2)
      · exact sm_vret cx hr dX12_one_24
  · exact sm_vret cx hr dX12_one_7
/-! PolicyTreeModel.all()V -/
theorem dX12_all_0 : decode cX12_all 0 = .ok (.aload_n 0, 1) := by decide +kernel
theorem dX12_all_1 : decode cX12_all 1 = .ok (.invokevirtual 175, 3) := by decide +kernel
theorem dX12_all_4 : decode cX12_all 4 = .ok (.aload_n 0, 1) := by decide +kernel
theorem dX12_all_5 : decode cX12_all 5 = .ok (.ldc 178, 2) := by decide +kernel
theorem dX12_all_7 : decode cX12_all 7 = .ok (.invokevirtual 168, 3) := by decide +kernel
theorem dX12_all_10 : decode cX12_all 10 = .ok (.ifCond .eq 15, 3) := by decide +kernel
theorem dX12_all_13 : decode cX12_all 13 = .ok (.aload_n 0, 1) := by decide +kernel
theorem dX12_all_14 : decode cX12_all 14 = .ok (.invokevirtual 175, 3) := by decide +kernel
theorem dX12_all_17 : decode cX12_all 17 = .ok (.aload_n 0, 1) := by decide +kernel
theorem dX12_all_18 : decode cX12_all 18 = .ok (.iconst 0, 1) := by decide +kernel
theorem dX12_all_19 : decode cX12_all 19 = .ok (.invokevirtual 171, 3) := by decide +kernel
theorem dX12_all_22 : decode cX12_all 22 = .ok (.goto (-18), 3) := by decide +kernel
theorem dX12_all_25 : decode cX12_all 25 = .ok (.return_, 1) := by decide +kernel
def f_X12_all_4 (Z : Nat → Nat) (g1 : Option Nat → Mo Unit) (r0 : Option Nat) : Nat → Mo Unit
  | 0 => mf
  | n + 1 => mb (mo 15 r0 (f_X12_eat Z r0 (some (Z 14)))) (fun v7 => (if v7 = 0 then mp () else mb (mo 15 r0 (g1 r0)) (fun _ => mb (mo 15 r0 (f_X12_emits r0 (0 : Int32))) (fun _ => (f_X12_all_4 Z g1 r0 n)))))
set_option maxRecDepth 100000 in
set_option maxHeartbeats 4000000 in
theorem s_X12_all_4 {X : Cg} (cx : Cx X cX12_all RX12 1) (hfr : 6 ≤ (xR X).frames) (hlo : 129 ≤ (xR X).locals) (hr : (xM X).sig.returnType = none) {g1 : Option Nat → Mo Unit} {fo1 lo1 : Nat} (c1 : ∀ {r9 : Option Nat} (a9 : Nat), r9 = some a9 → Ct yX12_one cX12_one 1 none fo1 lo1 (xZ X) [.ref a9] vV (g1 r9)) (hfo1 : fo1 + 1 ≤ (xR X).frames) (hlo1 : 8 + (1 + 11) + lo1 ≤ (xR X).locals) (r0 : Option Nat) : ∀ (n : Nat), Sim X 1 (FiM X vV) 4 [(0, va_rf r0)] [] (f_X12_all_4 (xZ X) g1 r0 n) := by
  intro n
  induction n with
  | zero =>
    exact sm_mf
  | succ n ih =>
    rw [f_X12_all_4]
    refine sm_aload_n cx 0 dX12_all_4 rfl rfl ?_
    refine sm_ldcS cx ("PolicyTreeModel", 178, "and", 4) (List.mem_of_getElem? (i := 10) rfl) rfl rfl dX12_all_5 ?_
    refine sm_callV (T := TX12) (N := 47) (toV := vI) cx [va_rf (some ((xZ X) 14))] rfl cv_X12_168 (fun a h => ct_X12_eat (xZ X) a h (some ((xZ X) 14))) (Nat.le_trans (by decide) hfr) (Nat.le_trans (by decide) hlo) rfl (cat_le _ (Nat.le_of_ble_eq_true rfl)) dX12_all_7 (fun v7 => ?_)
    refine sm_if_eq (tgt := 25) cx dX12_all_10 (by decide) ?_ ?_
    · exact sm_vret cx hr dX12_all_25
    · refine sm_aload_n cx 0 dX12_all_13 rfl rfl ?_
      refine sm_callV (T := TX12) (N := 47) (toV := vV) cx [] rfl cv_X12_175 (fun a h => c1 a h) hfo1 hlo1 rfl (cat_le _ (Nat.le_of_ble_eq_true rfl)) dX12_all_14 (fun _ => ?_)
      refine sm_aload_n cx 0 dX12_all_17 rfl rfl ?_
      refine sm_iconst (v := 0) cx dX12_all_18 (by decide) ?_
      refine sm_callV (T := TX12) (N := 47) (toV := vV) cx [.int (0 : Int32)] rfl cv_X12_171 (fun a h => ct_X12_emits (xZ X) a h (0 : Int32)) (Nat.le_trans (by decide) hfr) (Nat.le_trans (by decide) hlo) rfl (cat_le _ (Nat.le_of_ble_eq_true rfl)) dX12_all_19 (fun _ => ?_)
      refine sm_goto (tgt := 4) cx dX12_all_22 (by decide) ?_
      exact sm_lv [0] rfl (ih)
def f_X12_all (Z : Nat → Nat) (g1 : Option Nat → Mo Unit) (r0 : Option Nat) : Mo Unit := mb (mo 15 r0 (g1 r0)) (fun _ => f_X12_all_4 Z g1 r0 fuL)
set_option maxRecDepth 100000 in
set_option maxHeartbeats 4000000 in
theorem s_X12_all {X : Cg} (cx : Cx X cX12_all RX12 1) (hfr : 6 ≤ (xR X).frames) (hlo : 129 ≤ (xR X).locals) (hr : (xM X).sig.returnType = none) {g1 : Option Nat → Mo Unit} {fo1 lo1 : Nat} (c1 : ∀ {r9 : Option Nat} (a9 : Nat), r9 = some a9 → Ct yX12_one cX12_one 1 none fo1 lo1 (xZ X) [.ref a9] vV (g1 r9)) (hfo1 : fo1 + 1 ≤ (xR X).frames) (hlo1 : 8 + (1 + 11) + lo1 ≤ (xR X).locals) (r0 : Option Nat) : Sim X 1 (FiM X vV) 0 [(0, va_rf r0)] [] (f_X12_all (xZ X) g1 r0) := by
  unfold f_X12_all
  refine sm_aload_n cx 0 dX12_all_0 rfl rfl ?_
  refine sm_callV (T := TX12) (N := 47) (toV := vV) cx [] rfl cv_X12_175 (fun a h => c1 a h) hfo1 hlo1 rfl (cat_le _ (Nat.le_of_ble_eq_true rfl)) dX12_all_1 (fun _ => ?_)
  exact sm_lv [0] rfl (s_X12_all_4 cx hfr hlo hr c1 hfo1 hlo1 r0 fuL)
/-! PolicyTreeModel.any()V -/
theorem dX12_any_0 : decode cX12_any 0 = .ok (.aload_n 0, 1) := by decide +kernel
theorem dX12_any_1 : decode cX12_any 1 = .ok (.invokevirtual 163, 3) := by decide +kernel
theorem dX12_any_4 : decode cX12_any 4 = .ok (.aload_n 0, 1) := by decide +kernel
theorem dX12_any_5 : decode cX12_any 5 = .ok (.ldc 166, 2) := by decide +kernel
theorem dX12_any_7 : decode cX12_any 7 = .ok (.invokevirtual 168, 3) := by decide +kernel
theorem dX12_any_10 : decode cX12_any 10 = .ok (.ifCond .eq 15, 3) := by decide +kernel
theorem dX12_any_13 : decode cX12_any 13 = .ok (.aload_n 0, 1) := by decide +kernel
theorem dX12_any_14 : decode cX12_any 14 = .ok (.invokevirtual 163, 3) := by decide +kernel
theorem dX12_any_17 : decode cX12_any 17 = .ok (.aload_n 0, 1) := by decide +kernel
theorem dX12_any_18 : decode cX12_any 18 = .ok (.iconst 1, 1) := by decide +kernel
theorem dX12_any_19 : decode cX12_any 19 = .ok (.invokevirtual 171, 3) := by decide +kernel
theorem dX12_any_22 : decode cX12_any 22 = .ok (.goto (-18), 3) := by decide +kernel
theorem dX12_any_25 : decode cX12_any 25 = .ok (.return_, 1) := by decide +kernel
def f_X12_any_4 (Z : Nat → Nat) (g1 : Option Nat → Mo Unit) (r0 : Option Nat) : Nat → Mo Unit
  | 0 => mf
  | n + 1 => mb (mo 15 r0 (f_X12_eat Z r0 (some (Z 15)))) (fun v7 => (if v7 = 0 then mp () else mb (mo 15 r0 (g1 r0)) (fun _ => mb (mo 15 r0 (f_X12_emits r0 (1 : Int32))) (fun _ => (f_X12_any_4 Z g1 r0 n)))))
set_option maxRecDepth 100000 in
set_option maxHeartbeats 4000000 in
theorem s_X12_any_4 {X : Cg} (cx : Cx X cX12_any RX12 1) (hfr : 6 ≤ (xR X).frames) (hlo : 129 ≤ (xR X).locals) (hr : (xM X).sig.returnType = none) {g1 : Option Nat → Mo Unit} {fo1 lo1 : Nat} (c1 : ∀ {r9 : Option Nat} (a9 : Nat), r9 = some a9 → Ct yX12_all cX12_all 1 none fo1 lo1 (xZ X) [.ref a9] vV (g1 r9)) (hfo1 : fo1 + 1 ≤ (xR X).frames) (hlo1 : 8 + (1 + 11) + lo1 ≤ (xR X).locals) (r0 : Option Nat) : ∀ (n : Nat), Sim X 1 (FiM X vV) 4 [(0, va_rf r0)] [] (f_X12_any_4 (xZ X) g1 r0 n) := by
  intro n
  induction n with
  | zero =>
    exact sm_mf
  | succ n ih =>
    rw [f_X12_any_4]
    refine sm_aload_n cx 0 dX12_any_4 rfl rfl ?_
    refine sm_ldcS cx ("PolicyTreeModel", 166, "or", 5) (List.mem_of_getElem? (i := 11) rfl) rfl rfl dX12_any_5 ?_
    refine sm_callV (T := TX12) (N := 47) (toV := vI) cx [va_rf (some ((xZ X) 15))] rfl cv_X12_168 (fun a h => ct_X12_eat (xZ X) a h (some ((xZ X) 15))) (Nat.le_trans (by decide) hfr) (Nat.le_trans (by decide) hlo) rfl (cat_le _ (Nat.le_of_ble_eq_true rfl)) dX12_any_7 (fun v7 => ?_)
    refine sm_if_eq (tgt := 25) cx dX12_any_10 (by decide) ?_ ?_
    · exact sm_vret cx hr dX12_any_25
    · refine sm_aload_n cx 0 dX12_any_13 rfl rfl ?_
      refine sm_callV (T := TX12) (N := 47) (toV := vV) cx [] rfl cv_X12_163 (fun a h => c1 a h) hfo1 hlo1 rfl (cat_le _ (Nat.le_of_ble_eq_true rfl)) dX12_any_14 (fun _ => ?_)
      refine sm_aload_n cx 0 dX12_any_17 rfl rfl ?_
      refine sm_iconst (v := 1) cx dX12_any_18 (by decide) ?_
      refine sm_callV (T := TX12) (N := 47) (toV := vV) cx [.int (1 : Int32)] rfl cv_X12_171 (fun a h => ct_X12_emits (xZ X) a h (1 : Int32)) (Nat.le_trans (by decide) hfr) (Nat.le_trans (by decide) hlo) rfl (cat_le _ (Nat.le_of_ble_eq_true rfl)) dX12_any_19 (fun _ => ?_)
      refine sm_goto (tgt := 4) cx dX12_any_22 (by decide) ?_
      exact sm_lv [0] rfl (ih)
def f_X12_any (Z : Nat → Nat) (g1 : Option Nat → Mo Unit) (r0 : Option Nat) : Mo Unit := mb (mo 15 r0 (g1 r0)) (fun _ => f_X12_any_4 Z g1 r0 fuL)
set_option maxRecDepth 100000 in
set_option maxHeartbeats 4000000 in
theorem s_X12_any {X : Cg} (cx : Cx X cX12_any RX12 1) (hfr : 6 ≤ (xR X).frames) (hlo : 129 ≤ (xR X).locals) (hr : (xM X).sig.returnType = none) {g1 : Option Nat → Mo Unit} {fo1 lo1 : Nat} (c1 : ∀ {r9 : Option Nat} (a9 : Nat), r9 = some a9 → Ct yX12_all cX12_all 1 none fo1 lo1 (xZ X) [.ref a9] vV (g1 r9)) (hfo1 : fo1 + 1 ≤ (xR X).frames) (hlo1 : 8 + (1 + 11) + lo1 ≤ (xR X).locals) (r0 : Option Nat) : Sim X 1 (FiM X vV) 0 [(0, va_rf r0)] [] (f_X12_any (xZ X) g1 r0) := by
  unfold f_X12_any
  refine sm_aload_n cx 0 dX12_any_0 rfl rfl ?_
  refine sm_callV (T := TX12) (N := 47) (toV := vV) cx [] rfl cv_X12_163 (fun a h => c1 a h) hfo1 hlo1 rfl (cat_le _ (Nat.le_of_ble_eq_true rfl)) dX12_any_1 (fun _ => ?_)
  exact sm_lv [0] rfl (s_X12_any_4 cx hfr hlo hr c1 hfo1 hlo1 r0 fuL)
