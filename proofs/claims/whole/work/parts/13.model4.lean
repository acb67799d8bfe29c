theorem fl_X12_257 : FldOk RX12 257 15 42 .int false true := ⟨RX12, TX12, 47, "PolicyTreeModel", tyX12, rfl, by decide, inT_X12, tyX12_ok, nmX12, wd_6_169, Or.inl rfl, tyX12_ok 42 (by decide), rfl, fun _ => rfl⟩
theorem fl_X12_260 : FldOk RX12 260 15 43 .int false true := ⟨RX12, TX12, 47, "PolicyTreeModel", tyX12, rfl, by decide, inT_X12, tyX12_ok, nmX12, wd_6_170, Or.inl rfl, tyX12_ok 43 (by decide), rfl, fun _ => rfl⟩
theorem fl_X12_270 : FldOk RX12 270 15 45 .int false true := ⟨RX12, TX12, 47, "PolicyTreeModel", tyX12, rfl, by decide, inT_X12, tyX12_ok, nmX12, wd_6_172, Or.inl rfl, tyX12_ok 45 (by decide), rfl, fun _ => rfl⟩
theorem fl_X12_272 : FldOk RX12 272 15 46 .int false true := ⟨RX12, TX12, 47, "PolicyTreeModel", tyX12, rfl, by decide, inT_X12, tyX12_ok, nmX12, wd_6_173, Or.inl rfl, tyX12_ok 46 (by decide), rfl, fun _ => rfl⟩
theorem cv_X12_264 : CalV RX12 264 RX12 yX12_reaches cX12_reaches 7 (some .int) 2 := ⟨wd_V wd_7_238 wd_8_0 wp_4_9 wd_1_16 wd_8_1, rfl, by decide +kernel, by decide +kernel, by decide +kernel⟩
theorem cv_X12_267 : CalV RX12 267 RX12 yX12_areUnlike cX12_areUnlike 4 (some .boolean) 2 := ⟨wd_V wd_8_18 wd_8_20 wp_4_11 wd_1_16 wd_8_21, rfl, by decide +kernel, by decide +kernel, by decide +kernel⟩
theorem cv_X12_275 : CalV RX12 275 RX12 yX12_looks cX12_looks 5 (some .int) 1 := ⟨wd_V wd_8_14 wd_8_16 wp_4_10 wd_1_16 wd_8_17, rfl, by decide +kernel, by decide +kernel, by decide +kernel⟩
/-! PolicyTreeModel.reaches(II)I -/
theorem dX12_reaches_0 : decode cX12_reaches 0 = .ok (.iconst 0, 1) := by decide +kernel
theorem dX12_reaches_1 : decode cX12_reaches 1 = .ok (.istore_n 3, 1) := by decide +kernel
theorem dX12_reaches_2 : decode cX12_reaches 2 = .ok (.aload_n 0, 1) := by decide +kernel
theorem dX12_reaches_3 : decode cX12_reaches 3 = .ok (.getfield 64, 3) := by decide +kernel
theorem dX12_reaches_6 : decode cX12_reaches 6 = .ok (.iload_n 1, 1) := by decide +kernel
theorem dX12_reaches_7 : decode cX12_reaches 7 = .ok (.baload, 1) := by decide +kernel
theorem dX12_reaches_8 : decode cX12_reaches 8 = .ok (.ifCond .eq 5, 3) := by decide +kernel
theorem dX12_reaches_11 : decode cX12_reaches 11 = .ok (.iconst 0, 1) := by decide +kernel
theorem dX12_reaches_12 : decode cX12_reaches 12 = .ok (.ireturn, 1) := by decide +kernel
theorem dX12_reaches_13 : decode cX12_reaches 13 = .ok (.aload_n 0, 1) := by decide +kernel
theorem dX12_reaches_14 : decode cX12_reaches 14 = .ok (.invokevirtual 232, 3) := by decide +kernel
theorem dX12_reaches_17 : decode cX12_reaches 17 = .ok (.iconst 0, 1) := by decide +kernel
theorem dX12_reaches_18 : decode cX12_reaches 18 = .ok (.istore 4, 2) := by decide +kernel
theorem dX12_reaches_20 : decode cX12_reaches 20 = .ok (.iload 4, 2) := by decide +kernel
theorem dX12_reaches_22 : decode cX12_reaches 22 = .ok (.aload_n 0, 1) := by decide +kernel
theorem dX12_reaches_23 : decode cX12_reaches 23 = .ok (.getfield 108, 3) := by decide +kernel
theorem dX12_reaches_26 : decode cX12_reaches 26 = .ok (.if_icmp .ge 142, 3) := by decide +kernel
theorem dX12_reaches_29 : decode cX12_reaches 29 = .ok (.aload_n 0, 1) := by decide +kernel
theorem dX12_reaches_30 : decode cX12_reaches 30 = .ok (.aload_n 0, 1) := by decide +kernel
theorem dX12_reaches_31 : decode cX12_reaches 31 = .ok (.getfield 17, 3) := by decide +kernel
theorem dX12_reaches_34 : decode cX12_reaches 34 = .ok (.iload 4, 2) := by decide +kernel
theorem dX12_reaches_36 : decode cX12_reaches 36 = .ok (.iaload, 1) := by decide +kernel
theorem dX12_reaches_37 : decode cX12_reaches 37 = .ok (.aload_n 0, 1) := by decide +kernel
theorem dX12_reaches_38 : decode cX12_reaches 38 = .ok (.getfield 52, 3) := by decide +kernel
theorem dX12_reaches_41 : decode cX12_reaches 41 = .ok (.iload_n 1, 1) := by decide +kernel
theorem dX12_reaches_42 : decode cX12_reaches 42 = .ok (.iaload, 1) := by decide +kernel
theorem dX12_reaches_43 : decode cX12_reaches 43 = .ok (.invokevirtual 208, 3) := by decide +kernel
theorem dX12_reaches_46 : decode cX12_reaches 46 = .ok (.ifCond .ne 6, 3) := by decide +kernel
theorem dX12_reaches_49 : decode cX12_reaches 49 = .ok (.goto 113, 3) := by decide +kernel
theorem dX12_reaches_52 : decode cX12_reaches 52 = .ok (.aload_n 0, 1) := by decide +kernel
theorem dX12_reaches_53 : decode cX12_reaches 53 = .ok (.iload 4, 2) := by decide +kernel
theorem dX12_reaches_55 : decode cX12_reaches 55 = .ok (.invokevirtual 235, 3) := by decide +kernel
theorem dX12_reaches_58 : decode cX12_reaches 58 = .ok (.istore 5, 2) := by decide +kernel
theorem dX12_reaches_60 : decode cX12_reaches 60 = .ok (.iconst 0, 1) := by decide +kernel
theorem dX12_reaches_61 : decode cX12_reaches 61 = .ok (.istore 6, 2) := by decide +kernel
theorem dX12_reaches_63 : decode cX12_reaches 63 = .ok (.iload 6, 2) := by decide +kernel
theorem dX12_reaches_65 : decode cX12_reaches 65 = .ok (.bipush 12, 2) := by decide +kernel
theorem dX12_reaches_67 : decode cX12_reaches 67 = .ok (.if_icmp .ge 95, 3) := by decide +kernel
theorem dX12_reaches_70 : decode cX12_reaches 70 = .ok (.aload_n 0, 1) := by decide +kernel
theorem dX12_reaches_71 : decode cX12_reaches 71 = .ok (.aload_n 0, 1) := by decide +kernel
theorem dX12_reaches_72 : decode cX12_reaches 72 = .ok (.getfield 55, 3) := by decide +kernel
theorem dX12_reaches_75 : decode cX12_reaches 75 = .ok (.iload_n 1, 1) := by decide +kernel
theorem dX12_reaches_76 : decode cX12_reaches 76 = .ok (.iaload, 1) := by decide +kernel
theorem dX12_reaches_77 : decode cX12_reaches 77 = .ok (.iload 6, 2) := by decide +kernel
theorem dX12_reaches_79 : decode cX12_reaches 79 = .ok (.invokevirtual 125, 3) := by decide +kernel
theorem dX12_reaches_82 : decode cX12_reaches 82 = .ok (.ifCond .ne 6, 3) := by decide +kernel
theorem dX12_reaches_85 : decode cX12_reaches 85 = .ok (.goto 71, 3) := by decide +kernel
theorem dX12_reaches_88 : decode cX12_reaches 88 = .ok (.aload_n 0, 1) := by decide +kernel
theorem dX12_reaches_89 : decode cX12_reaches 89 = .ok (.iload 4, 2) := by decide +kernel
theorem dX12_reaches_91 : decode cX12_reaches 91 = .ok (.iload 5, 2) := by decide +kernel
theorem dX12_reaches_93 : decode cX12_reaches 93 = .ok (.iconst (-1), 1) := by decide +kernel
theorem dX12_reaches_94 : decode cX12_reaches 94 = .ok (.invokevirtual 238, 3) := by decide +kernel
theorem dX12_reaches_97 : decode cX12_reaches 97 = .ok (.aload_n 0, 1) := by decide +kernel
theorem dX12_reaches_98 : decode cX12_reaches 98 = .ok (.iload 6, 2) := by decide +kernel
theorem dX12_reaches_100 : decode cX12_reaches 100 = .ok (.invokevirtual 242, 3) := by decide +kernel
theorem dX12_reaches_103 : decode cX12_reaches 103 = .ok (.aload_n 0, 1) := by decide +kernel
theorem dX12_reaches_104 : decode cX12_reaches 104 = .ok (.invokevirtual 251, 3) := by decide +kernel
theorem dX12_reaches_107 : decode cX12_reaches 107 = .ok (.aload_n 0, 1) := by decide +kernel
theorem dX12_reaches_108 : decode cX12_reaches 108 = .ok (.iload 4, 2) := by decide +kernel
theorem dX12_reaches_110 : decode cX12_reaches 110 = .ok (.iload 5, 2) := by decide +kernel
theorem dX12_reaches_112 : decode cX12_reaches 112 = .ok (.iload_n 1, 1) := by decide +kernel
theorem dX12_reaches_113 : decode cX12_reaches 113 = .ok (.invokevirtual 238, 3) := by decide +kernel
theorem dX12_reaches_116 : decode cX12_reaches 116 = .ok (.aload_n 0, 1) := by decide +kernel
theorem dX12_reaches_117 : decode cX12_reaches 117 = .ok (.iload 6, 2) := by decide +kernel
theorem dX12_reaches_119 : decode cX12_reaches 119 = .ok (.invokevirtual 242, 3) := by decide +kernel
theorem dX12_reaches_122 : decode cX12_reaches 122 = .ok (.aload_n 0, 1) := by decide +kernel
theorem dX12_reaches_123 : decode cX12_reaches 123 = .ok (.invokevirtual 254, 3) := by decide +kernel
theorem dX12_reaches_126 : decode cX12_reaches 126 = .ok (.ifCond .eq 6, 3) := by decide +kernel
theorem dX12_reaches_129 : decode cX12_reaches 129 = .ok (.goto 27, 3) := by decide +kernel
theorem dX12_reaches_132 : decode cX12_reaches 132 = .ok (.aload_n 0, 1) := by decide +kernel
theorem dX12_reaches_133 : decode cX12_reaches 133 = .ok (.iload 4, 2) := by decide +kernel
theorem dX12_reaches_135 : decode cX12_reaches 135 = .ok (.putfield 257, 3) := by decide +kernel
theorem dX12_reaches_138 : decode cX12_reaches 138 = .ok (.aload_n 0, 1) := by decide +kernel
theorem dX12_reaches_139 : decode cX12_reaches 139 = .ok (.iload 6, 2) := by decide +kernel
theorem dX12_reaches_141 : decode cX12_reaches 141 = .ok (.putfield 260, 3) := by decide +kernel
theorem dX12_reaches_144 : decode cX12_reaches 144 = .ok (.iinc 3 1, 3) := by decide +kernel
theorem dX12_reaches_147 : decode cX12_reaches 147 = .ok (.iload_n 3, 1) := by decide +kernel
theorem dX12_reaches_148 : decode cX12_reaches 148 = .ok (.iload_n 2, 1) := by decide +kernel
theorem dX12_reaches_149 : decode cX12_reaches 149 = .ok (.iconst 1, 1) := by decide +kernel
theorem dX12_reaches_150 : decode cX12_reaches 150 = .ok (.iadd, 1) := by decide +kernel
theorem dX12_reaches_151 : decode cX12_reaches 151 = .ok (.if_icmp .ne 5, 3) := by decide +kernel
theorem dX12_reaches_154 : decode cX12_reaches 154 = .ok (.iload_n 3, 1) := by decide +kernel
theorem dX12_reaches_155 : decode cX12_reaches 155 = .ok (.ireturn, 1) := by decide +kernel
theorem dX12_reaches_156 : decode cX12_reaches 156 = .ok (.iinc 6 1, 3) := by decide +kernel
theorem dX12_reaches_159 : decode cX12_reaches 159 = .ok (.goto (-96), 3) := by decide +kernel
theorem dX12_reaches_162 : decode cX12_reaches 162 = .ok (.iinc 4 1, 3) := by decide +kernel
theorem dX12_reaches_165 : decode cX12_reaches 165 = .ok (.goto (-145), 3) := by decide +kernel
theorem dX12_reaches_168 : decode cX12_reaches 168 = .ok (.iload_n 3, 1) := by decide +kernel
theorem dX12_reaches_169 : decode cX12_reaches 169 = .ok (.ireturn, 1) := by decide +kernel
def f_X12_reaches_156 (k20 : Int32 → Int32 → Mo Int32) (k63 : Int32 → Int32 → Mo Int32) (r0 : Option Nat) (x1 : Int32) (x2 : Int32) (x3 : Int32) (x4 : Int32) (x5 : Int32) (x6 : Int32) : Mo Int32 := k63 x3 (x6 + 1)
set_option maxRecDepth 100000 in
set_option maxHeartbeats 4000000 in
theorem s_X12_reaches_156 {X : Cg} (cx : Cx X cX12_reaches RX12 7) (hfr : 4 ≤ (xR X).frames) (hlo : 103 ≤ (xR X).locals) (hr : (xM X).sig.returnType = (some .int)) (r0 : Option Nat) (x1 : Int32) (x2 : Int32) (x3 : Int32) (x4 : Int32) (x5 : Int32) (x6 : Int32) {k20 : Int32 → Int32 → Mo Int32} (hk20 : ∀ (x3 : Int32) (x4 : Int32), Sim X 7 (FiM X vI) 20 [(0, va_rf r0), (1, .int x1), (2, .int x2), (3, .int x3), (4, .int x4)] [] (k20 x3 x4)) {k63 : Int32 → Int32 → Mo Int32} (hk63 : ∀ (x3 : Int32) (x6 : Int32), Sim X 7 (FiM X vI) 63 [(0, va_rf r0), (1, .int x1), (2, .int x2), (3, .int x3), (4, .int x4), (5, .int x5), (6, .int x6)] [] (k63 x3 x6)) : Sim X 7 (FiM X vI) 156 [(0, va_rf r0), (1, .int x1), (2, .int x2), (3, .int x3), (4, .int x4), (5, .int x5), (6, .int x6)] [] (f_X12_reaches_156 k20 k63 r0 x1 x2 x3 x4 x5 x6) := by
  unfold f_X12_reaches_156
  refine sm_iinc cx 6 [(6, .int (x6 + 1)), (0, va_rf r0), (1, .int x1), (2, .int x2), (3, .int x3), (4, .int x4), (5, .int x5)] dX12_reaches_156 rfl rfl (by decide) rfl (nc1 rfl) rfl ?_
  refine sm_goto (tgt := 63) cx dX12_reaches_159 (by decide) ?_
  exact sm_lv [1, 2, 3, 4, 5, 6, 0] rfl (hk63 x3 (x6 + 1))
def f_X12_reaches_162 (k20 : Int32 → Int32 → Mo Int32) (r0 : Option Nat) (x1 : Int32) (x2 : Int32) (x3 : Int32) (x4 : Int32) : Mo Int32 := k20 x3 (x4 + 1)
set_option maxRecDepth 100000 in
set_option maxHeartbeats 4000000 in
theorem s_X12_reaches_162 {X : Cg} (cx : Cx X cX12_reaches RX12 7) (hfr : 4 ≤ (xR X).frames) (hlo : 103 ≤ (xR X).locals) (hr : (xM X).sig.returnType = (some .int)) (r0 : Option Nat) (x1 : Int32) (x2 : Int32) (x3 : Int32) (x4 : Int32) {k20 : Int32 → Int32 → Mo Int32} (hk20 : ∀ (x3 : Int32) (x4 : Int32), Sim X 7 (FiM X vI) 20 [(0, va_rf r0), (1, .int x1), (2, .int x2), (3, .int x3), (4, .int x4)] [] (k20 x3 x4)) : Sim X 7 (FiM X vI) 162 [(0, va_rf r0), (1, .int x1), (2, .int x2), (3, .int x3), (4, .int x4)] [] (f_X12_reaches_162 k20 r0 x1 x2 x3 x4) := by
  unfold f_X12_reaches_162
  refine sm_iinc cx 4 [(4, .int (x4 + 1)), (0, va_rf r0), (1, .int x1), (2, .int x2), (3, .int x3)] dX12_reaches_162 rfl rfl (by decide) rfl (nc1 rfl) rfl ?_
  refine sm_goto (tgt := 20) cx dX12_reaches_165 (by decide) ?_
  exact sm_lv [1, 2, 3, 4, 0] rfl (hk20 x3 (x4 + 1))
def f_X12_reaches_63 (k20 : Int32 → Int32 → Mo Int32) (r0 : Option Nat) (x1 : Int32) (x2 : Int32) (x4 : Int32) (x5 : Int32) : Nat → Int32 → Int32 → Mo Int32
  | 0, _, _ => mf
  | n + 1, x3, x6 => (if (12 : Int32) ≤ x6 then f_X12_reaches_162 k20 r0 x1 x2 x3 x4 else mb (gR 15 25 r0) (fun v72 => mb (aI 1 v72 x1) (fun v76 => mb (mo 15 r0 (f_X12_tells r0 v76 x6)) (fun v79 => (if v79 = 0 then f_X12_reaches_156 k20 (f_X12_reaches_63 k20 r0 x1 x2 x4 x5 n) r0 x1 x2 x3 x4 x5 x6 else mb (mo 15 r0 (f_X12_makes r0 x4 x5 (-1 : Int32))) (fun _ => mb (mo 15 r0 (f_X12_outcomes r0 x6)) (fun _ => mb (mo 15 r0 (f_X12_keepsThem r0)) (fun _ => mb (mo 15 r0 (f_X12_makes r0 x4 x5 x1)) (fun _ => mb (mo 15 r0 (f_X12_outcomes r0 x6)) (fun _ => mb (mo 15 r0 (f_X12_isAsKept r0)) (fun v123 => (if v123 = 0 then mb (pV 15 42 r0 (.int x4)) (fun _ => mb (pV 15 43 r0 (.int x6)) (fun _ => (if (x3 + 1) = (x2 + (1 : Int32)) then mp (x3 + 1) else f_X12_reaches_156 k20 (f_X12_reaches_63 k20 r0 x1 x2 x4 x5 n) r0 x1 x2 (x3 + 1) x4 x5 x6))) else f_X12_reaches_156 k20 (f_X12_reaches_63 k20 r0 x1 x2 x4 x5 n) r0 x1 x2 x3 x4 x5 x6))))))))))))
set_option maxRecDepth 100000 in
set_option maxHeartbeats 4000000 in
theorem s_X12_reaches_63 {X : Cg} (cx : Cx X cX12_reaches RX12 7) (hfr : 4 ≤ (xR X).frames) (hlo : 103 ≤ (xR X).locals) (hr : (xM X).sig.returnType = (some .int)) (r0 : Option Nat) (x1 : Int32) (x2 : Int32) (x4 : Int32) (x5 : Int32) {k20 : Int32 → Int32 → Mo Int32} (hk20 : ∀ (x3 : Int32) (x4 : Int32), Sim X 7 (FiM X vI) 20 [(0, va_rf r0), (1, .int x1), (2, .int x2), (3, .int x3), (4, .int x4)] [] (k20 x3 x4)) : ∀ (n : Nat) (x3 : Int32) (x6 : Int32), Sim X 7 (FiM X vI) 63 [(0, va_rf r0), (1, .int x1), (2, .int x2), (3, .int x3), (4, .int x4), (5, .int x5), (6, .int x6)] [] (f_X12_reaches_63 k20 r0 x1 x2 x4 x5 n x3 x6) := by
  intro n
  induction n with
  | zero =>
    intro _ _
    exact sm_mf
  | succ n ih =>
    intro x3 x6
    rw [f_X12_reaches_63]
    refine sm_iload cx 6 dX12_reaches_63 rfl ?_
    refine sm_bipush (v := 12) cx dX12_reaches_65 (by decide) ?_
    refine sm_icmp_ge (tgt := 162) cx dX12_reaches_67 (by decide) ?_ ?_
    · exact sm_lv [0, 1, 2, 3, 4] rfl (s_X12_reaches_162 cx hfr hlo hr r0 x1 x2 x3 x4 hk20)
    · refine sm_aload_n cx 0 dX12_reaches_70 rfl rfl ?_
      refine sm_aload_n cx 0 dX12_reaches_71 rfl rfl ?_
      refine sm_getR cx fl_X12_55 dX12_reaches_72 (fun v72 => ?_)
      refine sm_iload_n cx 1 dX12_reaches_75 rfl rfl ?_
      refine sm_iald cx dX12_reaches_76 (fun v76 => ?_)
      refine sm_iload cx 6 dX12_reaches_77 rfl ?_
      refine sm_callV (T := TX12) (N := 47) (toV := vI) cx [.int v76, .int x6] rfl cv_X12_125 (fun a h => ct_X12_tells (xZ X) a h v76 x6) (Nat.le_trans (by decide) hfr) (Nat.le_trans (by decide) hlo) rfl (cat_le _ (Nat.le_of_ble_eq_true rfl)) dX12_reaches_79 (fun v79 => ?_)
      refine sm_if_ne (tgt := 88) cx dX12_reaches_82 (by decide) ?_ ?_
      · refine sm_aload_n cx 0 dX12_reaches_88 rfl rfl ?_
        refine sm_iload cx 4 dX12_reaches_89 rfl ?_
        refine sm_iload cx 5 dX12_reaches_91 rfl ?_
        refine sm_iconst (v := -1) cx dX12_reaches_93 (by decide) ?_
        refine sm_callV (T := TX12) (N := 47) (toV := vV) cx [.int x4, .int x5, .int (-1 : Int32)] rfl cv_X12_238 (fun a h => ct_X12_makes (xZ X) a h x4 x5 (-1 : Int32)) (Nat.le_trans (by decide) hfr) (Nat.le_trans (by decide) hlo) rfl (cat_le _ (Nat.le_of_ble_eq_true rfl)) dX12_reaches_94 (fun _ => ?_)
        refine sm_aload_n cx 0 dX12_reaches_97 rfl rfl ?_
        refine sm_iload cx 6 dX12_reaches_98 rfl ?_
        refine sm_callV (T := TX12) (N := 47) (toV := vV) cx [.int x6] rfl cv_X12_242 (fun a h => ct_X12_outcomes (xZ X) a h x6) (Nat.le_trans (by decide) hfr) (Nat.le_trans (by decide) hlo) rfl (cat_le _ (Nat.le_of_ble_eq_true rfl)) dX12_reaches_100 (fun _ => ?_)
        refine sm_aload_n cx 0 dX12_reaches_103 rfl rfl ?_
        refine sm_callV (T := TX12) (N := 47) (toV := vV) cx [] rfl cv_X12_251 (fun a h => ct_X12_keepsThem (xZ X) a h) (Nat.le_trans (by decide) hfr) (Nat.le_trans (by decide) hlo) rfl (cat_le _ (Nat.le_of_ble_eq_true rfl)) dX12_reaches_104 (fun _ => ?_)
        refine sm_aload_n cx 0 dX12_reaches_107 rfl rfl ?_
        refine sm_iload cx 4 dX12_reaches_108 rfl ?_
        refine sm_iload cx 5 dX12_reaches_110 rfl ?_
        refine sm_iload_n cx 1 dX12_reaches_112 rfl rfl ?_
        refine sm_callV (T := TX12) (N := 47) (toV := vV) cx [.int x4, .int x5, .int x1] rfl cv_X12_238 (fun a h => ct_X12_makes (xZ X) a h x4 x5 x1) (Nat.le_trans (by decide) hfr) (Nat.le_trans (by decide) hlo) rfl (cat_le _ (Nat.le_of_ble_eq_true rfl)) dX12_reaches_113 (fun _ => ?_)
        refine sm_aload_n cx 0 dX12_reaches_116 rfl rfl ?_
        refine sm_iload cx 6 dX12_reaches_117 rfl ?_
        refine sm_callV (T := TX12) (N := 47) (toV := vV) cx [.int x6] rfl cv_X12_242 (fun a h => ct_X12_outcomes (xZ X) a h x6) (Nat.le_trans (by decide) hfr) (Nat.le_trans (by decide) hlo) rfl (cat_le _ (Nat.le_of_ble_eq_true rfl)) dX12_reaches_119 (fun _ => ?_)
        refine sm_aload_n cx 0 dX12_reaches_122 rfl rfl ?_
        refine sm_callV (T := TX12) (N := 47) (toV := vI) cx [] rfl cv_X12_254 (fun a h => ct_X12_isAsKept (xZ X) a h) (Nat.le_trans (by decide) hfr) (Nat.le_trans (by decide) hlo) rfl (cat_le _ (Nat.le_of_ble_eq_true rfl)) dX12_reaches_123 (fun v123 => ?_)
        refine sm_if_eq (tgt := 132) cx dX12_reaches_126 (by decide) ?_ ?_
        · refine sm_aload_n cx 0 dX12_reaches_132 rfl rfl ?_
          refine sm_iload cx 4 dX12_reaches_133 rfl ?_
          refine sm_putV cx fl_X12_257 rfl rfl dX12_reaches_135 ?_
          refine sm_aload_n cx 0 dX12_reaches_138 rfl rfl ?_
          refine sm_iload cx 6 dX12_reaches_139 rfl ?_
          refine sm_putV cx fl_X12_260 rfl rfl dX12_reaches_141 ?_
          refine sm_iinc cx 3 [(3, .int (x3 + 1)), (0, va_rf r0), (1, .int x1), (2, .int x2), (4, .int x4), (5, .int x5), (6, .int x6)] dX12_reaches_144 rfl rfl (by decide) rfl (nc1 rfl) rfl ?_
          refine sm_iload_n cx 0 dX12_reaches_147 rfl rfl ?_
          refine sm_iload_n cx 3 dX12_reaches_148 rfl rfl ?_
          refine sm_iconst (v := 1) cx dX12_reaches_149 (by decide) ?_
          refine sm_iadd cx dX12_reaches_150 ?_
          refine sm_icmp_ne (tgt := 156) cx dX12_reaches_151 (by decide) ?_ ?_
          · exact sm_lv [1, 2, 3, 0, 4, 5, 6] rfl (s_X12_reaches_156 cx hfr hlo hr r0 x1 x2 (x3 + 1) x4 x5 x6 hk20 ih)
          · refine sm_iload_n cx 0 dX12_reaches_154 rfl rfl ?_
            exact sm_iret cx hr dX12_reaches_155
        · refine sm_goto (tgt := 156) cx dX12_reaches_129 (by decide) ?_
          exact sm_lv [0, 1, 2, 3, 4, 5, 6] rfl (s_X12_reaches_156 cx hfr hlo hr r0 x1 x2 x3 x4 x5 x6 hk20 ih)
      · refine sm_goto (tgt := 156) cx dX12_reaches_85 (by decide) ?_
        exact sm_lv [0, 1, 2, 3, 4, 5, 6] rfl (s_X12_reaches_156 cx hfr hlo hr r0 x1 x2 x3 x4 x5 x6 hk20 ih)
def f_X12_reaches_20 (r0 : Option Nat) (x1 : Int32) (x2 : Int32) : Nat → Int32 → Int32 → Mo Int32
  | 0, _, _ => mf
  | n + 1, x3, x4 => mb (gI 15 7 r0) (fun v23 => (if v23 ≤ x4 then mp x3 else mb (gR 15 4 r0) (fun v31 => mb (aI 1 v31 x4) (fun v36 => mb (gR 15 24 r0) (fun v38 => mb (aI 1 v38 x1) (fun v42 => mb (mo 15 r0 (f_X12_isBelow r0 v36 v42)) (fun v43 => (if v43 = 0 then f_X12_reaches_162 (f_X12_reaches_20 r0 x1 x2 n) r0 x1 x2 x3 x4 else mb (mo 15 r0 (f_X12_yesOf r0 x4)) (fun v55 => f_X12_reaches_63 (f_X12_reaches_20 r0 x1 x2 n) r0 x1 x2 x4 v55 fuL x3 (0 : Int32))))))))))
set_option maxRecDepth 100000 in
set_option maxHeartbeats 4000000 in
theorem s_X12_reaches_20 {X : Cg} (cx : Cx X cX12_reaches RX12 7) (hfr : 4 ≤ (xR X).frames) (hlo : 103 ≤ (xR X).locals) (hr : (xM X).sig.returnType = (some .int)) (r0 : Option Nat) (x1 : Int32) (x2 : Int32) : ∀ (n : Nat) (x3 : Int32) (x4 : Int32), Sim X 7 (FiM X vI) 20 [(0, va_rf r0), (1, .int x1), (2, .int x2), (3, .int x3), (4, .int x4)] [] (f_X12_reaches_20 r0 x1 x2 n x3 x4) := by
  intro n
  induction n with
  | zero =>
    intro _ _
    exact sm_mf
  | succ n ih =>
    intro x3 x4
    rw [f_X12_reaches_20]
    refine sm_iload cx 4 dX12_reaches_20 rfl ?_
    refine sm_aload_n cx 0 dX12_reaches_22 rfl rfl ?_
    refine sm_getI cx fl_X12_108 dX12_reaches_23 (fun v23 => ?_)
    refine sm_icmp_ge (tgt := 168) cx dX12_reaches_26 (by decide) ?_ ?_
    · refine sm_iload_n cx 3 dX12_reaches_168 rfl rfl ?_
      exact sm_iret cx hr dX12_reaches_169
    · refine sm_aload_n cx 0 dX12_reaches_29 rfl rfl ?_
      refine sm_aload_n cx 0 dX12_reaches_30 rfl rfl ?_
      refine sm_getR cx fl_X12_17 dX12_reaches_31 (fun v31 => ?_)
      refine sm_iload cx 4 dX12_reaches_34 rfl ?_
      refine sm_iald cx dX12_reaches_36 (fun v36 => ?_)
      refine sm_aload_n cx 0 dX12_reaches_37 rfl rfl ?_
      refine sm_getR cx fl_X12_52 dX12_reaches_38 (fun v38 => ?_)
      refine sm_iload_n cx 1 dX12_reaches_41 rfl rfl ?_
      refine sm_iald cx dX12_reaches_42 (fun v42 => ?_)
      refine sm_callV (T := TX12) (N := 47) (toV := vI) cx [.int v36, .int v42] rfl cv_X12_208 (fun a h => ct_X12_isBelow (xZ X) a h v36 v42) (Nat.le_trans (by decide) hfr) (Nat.le_trans (by decide) hlo) rfl (cat_le _ (Nat.le_of_ble_eq_true rfl)) dX12_reaches_43 (fun v43 => ?_)
      refine sm_if_ne (tgt := 52) cx dX12_reaches_46 (by decide) ?_ ?_
      · refine sm_aload_n cx 0 dX12_reaches_52 rfl rfl ?_
        refine sm_iload cx 4 dX12_reaches_53 rfl ?_
        refine sm_callV (T := TX12) (N := 47) (toV := vI) cx [.int x4] rfl cv_X12_235 (fun a h => ct_X12_yesOf (xZ X) a h x4) (Nat.le_trans (by decide) hfr) (Nat.le_trans (by decide) hlo) rfl (cat_le _ (Nat.le_of_ble_eq_true rfl)) dX12_reaches_55 (fun v55 => ?_)
        refine sm_istore cx [(5, .int v55), (0, va_rf r0), (1, .int x1), (2, .int x2), (3, .int x3), (4, .int x4)] dX12_reaches_58 (by decide) rfl (nc1 rfl) rfl ?_
        refine sm_iconst (v := 0) cx dX12_reaches_60 (by decide) ?_
        refine sm_istore cx [(6, .int (0 : Int32)), (5, .int v55), (0, va_rf r0), (1, .int x1), (2, .int x2), (3, .int x3), (4, .int x4)] dX12_reaches_61 (by decide) rfl (nc1 rfl) rfl ?_
        exact sm_lv [2, 3, 4, 5, 6, 1, 0] rfl (s_X12_reaches_63 cx hfr hlo hr r0 x1 x2 x4 v55 ih fuL x3 (0 : Int32))
      · refine sm_goto (tgt := 162) cx dX12_reaches_49 (by decide) ?_
        exact sm_lv [0, 1, 2, 3, 4] rfl (s_X12_reaches_162 cx hfr hlo hr r0 x1 x2 x3 x4 ih)
def f_X12_reaches (r0 : Option Nat) (x1 : Int32) (x2 : Int32) : Mo Int32 := mb (gR 15 28 r0) (fun v3 => mb (aI 3 v3 x1) (fun v7 => (if v7 = 0 then mb (mo 15 r0 (f_X12_groupsAnew r0)) (fun _ => f_X12_reaches_20 r0 x1 x2 fuL (0 : Int32) (0 : Int32)) else mp (0 : Int32))))
set_option maxRecDepth 100000 in
set_option maxHeartbeats 4000000 in
theorem s_X12_reaches {X : Cg} (cx : Cx X cX12_reaches RX12 7) (hfr : 4 ≤ (xR X).frames) (hlo : 103 ≤ (xR X).locals) (hr : (xM X).sig.returnType = (some .int)) (r0 : Option Nat) (x1 : Int32) (x2 : Int32) : Sim X 7 (FiM X vI) 0 [(0, va_rf r0), (1, .int x1), (2, .int x2)] [] (f_X12_reaches r0 x1 x2) := by
  unfold f_X12_reaches
  refine sm_iconst (v := 0) cx dX12_reaches_0 (by decide) ?_
  refine sm_istore_n cx [(3, .int (0 : Int32)), (0, va_rf r0), (1, .int x1), (2, .int x2)] dX12_reaches_1 rfl (by decide) rfl (nc1 rfl) rfl ?_
  refine sm_aload_n cx 1 dX12_reaches_2 rfl rfl ?_
  refine sm_getR cx fl_X12_64 dX12_reaches_3 (fun v3 => ?_)
  refine sm_iload_n cx 2 dX12_reaches_6 rfl rfl ?_
  refine sm_zald cx dX12_reaches_7 (fun v7 => ?_)
  refine sm_if_eq (tgt := 13) cx dX12_reaches_8 (by decide) ?_ ?_
  · refine sm_aload_n cx 1 dX12_reaches_13 rfl rfl ?_
    refine sm_callV (T := TX12) (N := 47) (toV := vV) cx [] rfl cv_X12_232 (fun a h => ct_X12_groupsAnew (xZ X) a h) (Nat.le_trans (by decide) hfr) (Nat.le_trans (by decide) hlo) rfl (cat_le _ (Nat.le_of_ble_eq_true rfl)) dX12_reaches_14 (fun _ => ?_)
    refine sm_iconst (v := 0) cx dX12_reaches_17 (by decide) ?_
    refine sm_istore cx [(4, .int (0 : Int32)), (3, .int (0 : Int32)), (0, va_rf r0), (1, .int x1), (2, .int x2)] dX12_reaches_18 (by decide) rfl (nc1 rfl) rfl ?_
    exact sm_lv [2, 3, 4, 1, 0] rfl (s_X12_reaches_20 cx hfr hlo hr r0 x1 x2 fuL (0 : Int32) (0 : Int32))
  · refine sm_iconst (v := 0) cx dX12_reaches_11 (by decide) ?_
    exact sm_iret cx hr dX12_reaches_12
set_option maxRecDepth 100000 in
set_option maxHeartbeats 4000000 in
theorem ct_X12_reaches (Z : Nat → Nat) {r0 : Option Nat} (a0 : Nat) (h0 : r0 = some a0) (x1 : Int32) (x2 : Int32) : Ct yX12_reaches cX12_reaches 7 (some .int) 4 103 Z [.ref a0, .int x1, .int x2] vI (f_X12_reaches r0 x1 x2) := by
  subst h0
  refine ct_of (lv0 := [(0, va_rf (some a0)), (1, .int x1), (2, .int x2)]) (by decide +kernel) (by simp [lg_sl, ct_i, ct_l, ct_r, rf_cat]) (by show _ = ([(0, Value.ref a0), (1, .int x1), (2, .int x2)] : List (Nat × Value)); simp [lv_args, ct_i, ct_l, ct_r, rf_cat]) (fun X cx hZ hfr hlo hr hin => ?_)
  subst hZ
  exact s_X12_reaches cx (Nat.le_of_eq hfr.symm) (Nat.le_of_eq hlo.symm) hr (some a0) x1 x2
/-! PolicyTreeModel.reach(I)I -/
theorem dX12_reach_0 : decode cX12_reach 0 = .ok (.aload_n 0, 1) := by decide +kernel
theorem dX12_reach_1 : decode cX12_reach 1 = .ok (.iconst 0, 1) := by decide +kernel
theorem dX12_reach_2 : decode cX12_reach 2 = .ok (.putfield 97, 3) := by decide +kernel
theorem dX12_reach_5 : decode cX12_reach 5 = .ok (.aload_n 0, 1) := by decide +kernel
theorem dX12_reach_6 : decode cX12_reach 6 = .ok (.iload_n 1, 1) := by decide +kernel
theorem dX12_reach_7 : decode cX12_reach 7 = .ok (.aload_n 0, 1) := by decide +kernel
theorem dX12_reach_8 : decode cX12_reach 8 = .ok (.getfield 205, 3) := by decide +kernel
theorem dX12_reach_11 : decode cX12_reach 11 = .ok (.invokevirtual 100, 3) := by decide +kernel
theorem dX12_reach_14 : decode cX12_reach 14 = .ok (.ifCond .eq 7, 3) := by decide +kernel
theorem dX12_reach_17 : decode cX12_reach 17 = .ok (.iconst 0, 1) := by decide +kernel
theorem dX12_reach_18 : decode cX12_reach 18 = .ok (.goto 11, 3) := by decide +kernel
theorem dX12_reach_21 : decode cX12_reach 21 = .ok (.aload_n 0, 1) := by decide +kernel
theorem dX12_reach_22 : decode cX12_reach 22 = .ok (.iload_n 1, 1) := by decide +kernel
theorem dX12_reach_23 : decode cX12_reach 23 = .ok (.ldc_w 263, 3) := by decide +kernel
theorem dX12_reach_26 : decode cX12_reach 26 = .ok (.invokevirtual 264, 3) := by decide +kernel
theorem dX12_reach_29 : decode cX12_reach 29 = .ok (.ireturn, 1) := by decide +kernel
def f_X12_reach_29 (sx0 : Int32) : Mo Int32 := mp sx0
set_option maxRecDepth 100000 in
set_option maxHeartbeats 4000000 in
theorem s_X12_reach_29 {X : Cg} (cx : Cx X cX12_reach RX12 2) (hfr : 5 ≤ (xR X).frames) (hlo : 129 ≤ (xR X).locals) (hr : (xM X).sig.returnType = (some .int)) (sx0 : Int32) : Sim X 2 (FiM X vI) 29 [] [.int sx0] (f_X12_reach_29 sx0) := by
  unfold f_X12_reach_29
  exact sm_iret cx hr dX12_reach_29
def f_X12_reach (r0 : Option Nat) (x1 : Int32) : Mo Int32 := mb (pV 15 0 r0 (.int (0 : Int32))) (fun _ => mb (gI 15 32 r0) (fun v8 => mb (mo 15 r0 (f_X12_none r0 x1 v8)) (fun v11 => (if v11 = 0 then mb (mo 15 r0 (f_X12_reaches r0 x1 (100000 : Int32))) (fun v26 => f_X12_reach_29 v26) else f_X12_reach_29 (0 : Int32)))))
set_option maxRecDepth 100000 in
set_option maxHeartbeats 4000000 in
theorem s_X12_reach {X : Cg} (cx : Cx X cX12_reach RX12 2) (hfr : 5 ≤ (xR X).frames) (hlo : 129 ≤ (xR X).locals) (hr : (xM X).sig.returnType = (some .int)) (r0 : Option Nat) (x1 : Int32) : Sim X 2 (FiM X vI) 0 [(0, va_rf r0), (1, .int x1)] [] (f_X12_reach r0 x1) := by
  unfold f_X12_reach
  refine sm_aload_n cx 0 dX12_reach_0 rfl rfl ?_
  refine sm_iconst (v := 0) cx dX12_reach_1 (by decide) ?_
  refine sm_putV cx fl_X12_97 rfl rfl dX12_reach_2 ?_
  refine sm_aload_n cx 0 dX12_reach_5 rfl rfl ?_
  refine sm_iload_n cx 1 dX12_reach_6 rfl rfl ?_
  refine sm_aload_n cx 0 dX12_reach_7 rfl rfl ?_
  refine sm_getI cx fl_X12_205 dX12_reach_8 (fun v8 => ?_)
  refine sm_callV (T := TX12) (N := 47) (toV := vI) cx [.int x1, .int v8] rfl cv_X12_100 (fun a h => ct_X12_none (xZ X) a h x1 v8) (Nat.le_trans (by decide) hfr) (Nat.le_trans (by decide) hlo) rfl (cat_le _ (Nat.le_of_ble_eq_true rfl)) dX12_reach_11 (fun v11 => ?_)
  refine sm_if_eq (tgt := 21) cx dX12_reach_14 (by decide) ?_ ?_
  · refine sm_aload_n cx 0 dX12_reach_21 rfl rfl ?_
    refine sm_iload_n cx 1 dX12_reach_22 rfl rfl ?_
    refine sm_ldcw (v := 100000) cx dX12_reach_23 wd_7_237 ?_
    refine sm_callV (T := TX12) (N := 47) (toV := vI) cx [.int x1, .int (100000 : Int32)] rfl cv_X12_264 (fun a h => ct_X12_reaches (xZ X) a h x1 (100000 : Int32)) (Nat.le_trans (by decide) hfr) (Nat.le_trans (by decide) hlo) rfl (cat_le _ (Nat.le_of_ble_eq_true rfl)) dX12_reach_26 (fun v26 => ?_)
    exact sm_lv [] rfl (s_X12_reach_29 cx hfr hlo hr v26)
  · refine sm_iconst (v := 0) cx dX12_reach_17 (by decide) ?_
    refine sm_goto (tgt := 29) cx dX12_reach_18 (by decide) ?_
    exact sm_lv [] rfl (s_X12_reach_29 cx hfr hlo hr (0 : Int32))
set_option maxRecDepth 100000 in
set_option maxHeartbeats 4000000 in
theorem ct_X12_reach (Z : Nat → Nat) {r0 : Option Nat} (a0 : Nat) (h0 : r0 = some a0) (x1 : Int32) : Ct yX12_reach cX12_reach 2 (some .int) 5 129 Z [.ref a0, .int x1] vI (f_X12_reach r0 x1) := by
  subst h0
  refine ct_of (lv0 := [(0, va_rf (some a0)), (1, .int x1)]) (by decide +kernel) (by simp [lg_sl, ct_i, ct_l, ct_r, rf_cat]) (by show _ = ([(0, Value.ref a0), (1, .int x1)] : List (Nat × Value)); simp [lv_args, ct_i, ct_l, ct_r, rf_cat]) (fun X cx hZ hfr hlo hr hin => ?_)
  subst hZ
  exact s_X12_reach cx (Nat.le_of_eq hfr.symm) (Nat.le_of_eq hlo.symm) hr (some a0) x1
/-! PolicyTreeModel.reached(III)I -/
theorem dX12_reached_0 : decode cX12_reached 0 = .ok (.aload_n 0, 1) := by decide +kernel
theorem dX12_reached_1 : decode cX12_reached 1 = .ok (.iconst 0, 1) := by decide +kernel
theorem dX12_reached_2 : decode cX12_reached 2 = .ok (.putfield 97, 3) := by decide +kernel
theorem dX12_reached_5 : decode cX12_reached 5 = .ok (.aload_n 0, 1) := by decide +kernel
theorem dX12_reached_6 : decode cX12_reached 6 = .ok (.iload_n 1, 1) := by decide +kernel
theorem dX12_reached_7 : decode cX12_reached 7 = .ok (.aload_n 0, 1) := by decide +kernel
theorem dX12_reached_8 : decode cX12_reached 8 = .ok (.getfield 205, 3) := by decide +kernel
theorem dX12_reached_11 : decode cX12_reached 11 = .ok (.invokevirtual 100, 3) := by decide +kernel
theorem dX12_reached_14 : decode cX12_reached 14 = .ok (.ifCond .ne 25, 3) := by decide +kernel
theorem dX12_reached_17 : decode cX12_reached 17 = .ok (.aload_n 0, 1) := by decide +kernel
theorem dX12_reached_18 : decode cX12_reached 18 = .ok (.iload_n 3, 1) := by decide +kernel
theorem dX12_reached_19 : decode cX12_reached 19 = .ok (.ifCond .lt 8, 3) := by decide +kernel
theorem dX12_reached_22 : decode cX12_reached 22 = .ok (.iload_n 3, 1) := by decide +kernel
theorem dX12_reached_23 : decode cX12_reached 23 = .ok (.iconst 1, 1) := by decide +kernel
theorem dX12_reached_24 : decode cX12_reached 24 = .ok (.if_icmp .le 7, 3) := by decide +kernel
theorem dX12_reached_27 : decode cX12_reached 27 = .ok (.iconst 1, 1) := by decide +kernel
theorem dX12_reached_28 : decode cX12_reached 28 = .ok (.goto 4, 3) := by decide +kernel
theorem dX12_reached_31 : decode cX12_reached 31 = .ok (.iconst 0, 1) := by decide +kernel
theorem dX12_reached_32 : decode cX12_reached 32 = .ok (.iconst 2, 1) := by decide +kernel
theorem dX12_reached_33 : decode cX12_reached 33 = .ok (.invokevirtual 104, 3) := by decide +kernel
theorem dX12_reached_36 : decode cX12_reached 36 = .ok (.ifCond .eq 5, 3) := by decide +kernel
theorem dX12_reached_39 : decode cX12_reached 39 = .ok (.iconst 0, 1) := by decide +kernel
theorem dX12_reached_40 : decode cX12_reached 40 = .ok (.ireturn, 1) := by decide +kernel
theorem dX12_reached_41 : decode cX12_reached 41 = .ok (.iload_n 2, 1) := by decide +kernel
theorem dX12_reached_42 : decode cX12_reached 42 = .ok (.ifCond .lt 20, 3) := by decide +kernel
theorem dX12_reached_45 : decode cX12_reached 45 = .ok (.iload_n 2, 1) := by decide +kernel
theorem dX12_reached_46 : decode cX12_reached 46 = .ok (.ldc_w 263, 3) := by decide +kernel
theorem dX12_reached_49 : decode cX12_reached 49 = .ok (.if_icmp .gt 13, 3) := by decide +kernel
theorem dX12_reached_52 : decode cX12_reached 52 = .ok (.aload_n 0, 1) := by decide +kernel
theorem dX12_reached_53 : decode cX12_reached 53 = .ok (.iload_n 1, 1) := by decide +kernel
theorem dX12_reached_54 : decode cX12_reached 54 = .ok (.iload_n 2, 1) := by decide +kernel
theorem dX12_reached_55 : decode cX12_reached 55 = .ok (.invokevirtual 264, 3) := by decide +kernel
theorem dX12_reached_58 : decode cX12_reached 58 = .ok (.iload_n 2, 1) := by decide +kernel
theorem dX12_reached_59 : decode cX12_reached 59 = .ok (.if_icmp .gt 5, 3) := by decide +kernel
theorem dX12_reached_62 : decode cX12_reached 62 = .ok (.iconst (-1), 1) := by decide +kernel
theorem dX12_reached_63 : decode cX12_reached 63 = .ok (.ireturn, 1) := by decide +kernel
theorem dX12_reached_64 : decode cX12_reached 64 = .ok (.iload_n 3, 1) := by decide +kernel
theorem dX12_reached_65 : decode cX12_reached 65 = .ok (.ifCond .ne 10, 3) := by decide +kernel
theorem dX12_reached_68 : decode cX12_reached 68 = .ok (.aload_n 0, 1) := by decide +kernel
theorem dX12_reached_69 : decode cX12_reached 69 = .ok (.getfield 257, 3) := by decide +kernel
theorem dX12_reached_72 : decode cX12_reached 72 = .ok (.goto 7, 3) := by decide +kernel
theorem dX12_reached_75 : decode cX12_reached 75 = .ok (.aload_n 0, 1) := by decide +kernel
theorem dX12_reached_76 : decode cX12_reached 76 = .ok (.getfield 260, 3) := by decide +kernel
theorem dX12_reached_79 : decode cX12_reached 79 = .ok (.ireturn, 1) := by decide +kernel
def f_X12_reached_39 : Mo Int32 := mp (0 : Int32)
set_option maxRecDepth 100000 in
set_option maxHeartbeats 4000000 in
theorem s_X12_reached_39 {X : Cg} (cx : Cx X cX12_reached RX12 4) (hfr : 5 ≤ (xR X).frames) (hlo : 129 ≤ (xR X).locals) (hr : (xM X).sig.returnType = (some .int)) : Sim X 4 (FiM X vI) 39 [] [] (f_X12_reached_39) := by
  unfold f_X12_reached_39
  refine sm_iconst (v := 0) cx dX12_reached_39 (by decide) ?_
  exact sm_iret cx hr dX12_reached_40
def f_X12_reached_62 : Mo Int32 := mp (-1 : Int32)
set_option maxRecDepth 100000 in
set_option maxHeartbeats 4000000 in
theorem s_X12_reached_62 {X : Cg} (cx : Cx X cX12_reached RX12 4) (hfr : 5 ≤ (xR X).frames) (hlo : 129 ≤ (xR X).locals) (hr : (xM X).sig.returnType = (some .int)) : Sim X 4 (FiM X vI) 62 [] [] (f_X12_reached_62) := by
  unfold f_X12_reached_62
  refine sm_iconst (v := -1) cx dX12_reached_62 (by decide) ?_
  exact sm_iret cx hr dX12_reached_63
def f_X12_reached_79 (sx0 : Int32) : Mo Int32 := mp sx0
set_option maxRecDepth 100000 in
set_option maxHeartbeats 4000000 in
theorem s_X12_reached_79 {X : Cg} (cx : Cx X cX12_reached RX12 4) (hfr : 5 ≤ (xR X).frames) (hlo : 129 ≤ (xR X).locals) (hr : (xM X).sig.returnType = (some .int)) (sx0 : Int32) : Sim X 4 (FiM X vI) 79 [] [.int sx0] (f_X12_reached_79 sx0) := by
  unfold f_X12_reached_79
  exact sm_iret cx hr dX12_reached_79
def f_X12_reached_32 (r0 : Option Nat) (x1 : Int32) (x2 : Int32) (x3 : Int32) (sr0 : Option Nat) (sx1 : Int32) : Mo Int32 := mb (mo 15 sr0 (f_X12_bad sr0 sx1 (2 : Int32))) (fun v33 => (if v33 = 0 then (if x2 < 0 then f_X12_reached_62 else (if (100000 : Int32) < x2 then f_X12_reached_62 else mb (mo 15 r0 (f_X12_reaches r0 x1 x2)) (fun v55 => (if x2 < v55 then (if x3 = 0 then mb (gI 15 42 r0) (fun v69 => f_X12_reached_79 v69) else mb (gI 15 43 r0) (fun v76 => f_X12_reached_79 v76)) else f_X12_reached_62)))) else f_X12_reached_39))
set_option maxRecDepth 100000 in
set_option maxHeartbeats 4000000 in
theorem s_X12_reached_32 {X : Cg} (cx : Cx X cX12_reached RX12 4) (hfr : 5 ≤ (xR X).frames) (hlo : 129 ≤ (xR X).locals) (hr : (xM X).sig.returnType = (some .int)) (r0 : Option Nat) (x1 : Int32) (x2 : Int32) (x3 : Int32) (sr0 : Option Nat) (sx1 : Int32) : Sim X 4 (FiM X vI) 32 [(0, va_rf r0), (1, .int x1), (2, .int x2), (3, .int x3)] [.int sx1, va_rf sr0] (f_X12_reached_32 r0 x1 x2 x3 sr0 sx1) := by
  unfold f_X12_reached_32
  refine sm_iconst (v := 2) cx dX12_reached_32 (by decide) ?_
  refine sm_callV (T := TX12) (N := 47) (toV := vI) cx [.int sx1, .int (2 : Int32)] rfl cv_X12_104 (fun a h => ct_X12_bad (xZ X) a h sx1 (2 : Int32)) (Nat.le_trans (by decide) hfr) (Nat.le_trans (by decide) hlo) rfl (cat_le _ (Nat.le_of_ble_eq_true rfl)) dX12_reached_33 (fun v33 => ?_)
  refine sm_if_eq (tgt := 41) cx dX12_reached_36 (by decide) ?_ ?_
  · refine sm_iload_n cx 2 dX12_reached_41 rfl rfl ?_
    refine sm_if_lt (tgt := 62) cx dX12_reached_42 (by decide) ?_ ?_
    · exact sm_lv [] rfl (s_X12_reached_62 cx hfr hlo hr)
    · refine sm_iload_n cx 2 dX12_reached_45 rfl rfl ?_
      refine sm_ldcw (v := 100000) cx dX12_reached_46 wd_7_237 ?_
      refine sm_icmp_gt (tgt := 62) cx dX12_reached_49 (by decide) ?_ ?_
      · exact sm_lv [] rfl (s_X12_reached_62 cx hfr hlo hr)
      · refine sm_aload_n cx 0 dX12_reached_52 rfl rfl ?_
        refine sm_iload_n cx 1 dX12_reached_53 rfl rfl ?_
        refine sm_iload_n cx 2 dX12_reached_54 rfl rfl ?_
        refine sm_callV (T := TX12) (N := 47) (toV := vI) cx [.int x1, .int x2] rfl cv_X12_264 (fun a h => ct_X12_reaches (xZ X) a h x1 x2) (Nat.le_trans (by decide) hfr) (Nat.le_trans (by decide) hlo) rfl (cat_le _ (Nat.le_of_ble_eq_true rfl)) dX12_reached_55 (fun v55 => ?_)
        refine sm_iload_n cx 2 dX12_reached_58 rfl rfl ?_
        refine sm_icmp_gt (tgt := 64) cx dX12_reached_59 (by decide) ?_ ?_
        · refine sm_iload_n cx 3 dX12_reached_64 rfl rfl ?_
          refine sm_if_ne (tgt := 75) cx dX12_reached_65 (by decide) ?_ ?_
          · refine sm_aload_n cx 0 dX12_reached_75 rfl rfl ?_
            refine sm_getI cx fl_X12_260 dX12_reached_76 (fun v76 => ?_)
            exact sm_lv [] rfl (s_X12_reached_79 cx hfr hlo hr v76)
          · refine sm_aload_n cx 0 dX12_reached_68 rfl rfl ?_
            refine sm_getI cx fl_X12_257 dX12_reached_69 (fun v69 => ?_)
            refine sm_goto (tgt := 79) cx dX12_reached_72 (by decide) ?_
            exact sm_lv [] rfl (s_X12_reached_79 cx hfr hlo hr v69)
        · exact sm_lv [] rfl (s_X12_reached_62 cx hfr hlo hr)
  · exact sm_lv [] rfl (s_X12_reached_39 cx hfr hlo hr)
def f_X12_reached_27 (r0 : Option Nat) (x1 : Int32) (x2 : Int32) (x3 : Int32) (sr0 : Option Nat) : Mo Int32 := f_X12_reached_32 r0 x1 x2 x3 sr0 (1 : Int32)
set_option maxRecDepth 100000 in
set_option maxHeartbeats 4000000 in
theorem s_X12_reached_27 {X : Cg} (cx : Cx X cX12_reached RX12 4) (hfr : 5 ≤ (xR X).frames) (hlo : 129 ≤ (xR X).locals) (hr : (xM X).sig.returnType = (some .int)) (r0 : Option Nat) (x1 : Int32) (x2 : Int32) (x3 : Int32) (sr0 : Option Nat) : Sim X 4 (FiM X vI) 27 [(0, va_rf r0), (1, .int x1), (2, .int x2), (3, .int x3)] [va_rf sr0] (f_X12_reached_27 r0 x1 x2 x3 sr0) := by
  unfold f_X12_reached_27
  refine sm_iconst (v := 1) cx dX12_reached_27 (by decide) ?_
  refine sm_goto (tgt := 32) cx dX12_reached_28 (by decide) ?_
  exact sm_lv [0, 1, 2, 3] rfl (s_X12_reached_32 cx hfr hlo hr r0 x1 x2 x3 sr0 (1 : Int32))
def f_X12_reached (r0 : Option Nat) (x1 : Int32) (x2 : Int32) (x3 : Int32) : Mo Int32 := mb (pV 15 0 r0 (.int (0 : Int32))) (fun _ => mb (gI 15 32 r0) (fun v8 => mb (mo 15 r0 (f_X12_none r0 x1 v8)) (fun v11 => (if v11 = 0 then (if x3 < 0 then f_X12_reached_27 r0 x1 x2 x3 r0 else (if x3 ≤ (1 : Int32) then f_X12_reached_32 r0 x1 x2 x3 r0 (0 : Int32) else f_X12_reached_27 r0 x1 x2 x3 r0)) else f_X12_reached_39))))
set_option maxRecDepth 100000 in
set_option maxHeartbeats 4000000 in
theorem s_X12_reached {X : Cg} (cx : Cx X cX12_reached RX12 4) (hfr : 5 ≤ (xR X).frames) (hlo : 129 ≤ (xR X).locals) (hr : (xM X).sig.returnType = (some .int)) (r0 : Option Nat) (x1 : Int32) (x2 : Int32) (x3 : Int32) : Sim X 4 (FiM X vI) 0 [(0, va_rf r0), (1, .int x1), (2, .int x2), (3, .int x3)] [] (f_X12_reached r0 x1 x2 x3) := by
  unfold f_X12_reached
  refine sm_aload_n cx 0 dX12_reached_0 rfl rfl ?_
  refine sm_iconst (v := 0) cx dX12_reached_1 (by decide) ?_
  refine sm_putV cx fl_X12_97 rfl rfl dX12_reached_2 ?_
  refine sm_aload_n cx 0 dX12_reached_5 rfl rfl ?_
  refine sm_iload_n cx 1 dX12_reached_6 rfl rfl ?_
  refine sm_aload_n cx 0 dX12_reached_7 rfl rfl ?_
  refine sm_getI cx fl_X12_205 dX12_reached_8 (fun v8 => ?_)
  refine sm_callV (T := TX12) (N := 47) (toV := vI) cx [.int x1, .int v8] rfl cv_X12_100 (fun a h => ct_X12_none (xZ X) a h x1 v8) (Nat.le_trans (by decide) hfr) (Nat.le_trans (by decide) hlo) rfl (cat_le _ (Nat.le_of_ble_eq_true rfl)) dX12_reached_11 (fun v11 => ?_)
  refine sm_if_ne (tgt := 39) cx dX12_reached_14 (by decide) ?_ ?_
  · exact sm_lv [] rfl (s_X12_reached_39 cx hfr hlo hr)
  · refine sm_aload_n cx 0 dX12_reached_17 rfl rfl ?_
    refine sm_iload_n cx 3 dX12_reached_18 rfl rfl ?_
    refine sm_if_lt (tgt := 27) cx dX12_reached_19 (by decide) ?_ ?_
    · exact sm_lv [0, 1, 2, 3] rfl (s_X12_reached_27 cx hfr hlo hr r0 x1 x2 x3 r0)
    · refine sm_iload_n cx 3 dX12_reached_22 rfl rfl ?_
      refine sm_iconst (v := 1) cx dX12_reached_23 (by decide) ?_
      refine sm_icmp_le (tgt := 31) cx dX12_reached_24 (by decide) ?_ ?_
      · refine sm_iconst (v := 0) cx dX12_reached_31 (by decide) ?_
        exact sm_lv [0, 1, 2, 3] rfl (s_X12_reached_32 cx hfr hlo hr r0 x1 x2 x3 r0 (0 : Int32))
      · exact sm_lv [0, 1, 2, 3] rfl (s_X12_reached_27 cx hfr hlo hr r0 x1 x2 x3 r0)
set_option maxRecDepth 100000 in
set_option maxHeartbeats 4000000 in
theorem ct_X12_reached (Z : Nat → Nat) {r0 : Option Nat} (a0 : Nat) (h0 : r0 = some a0) (x1 : Int32) (x2 : Int32) (x3 : Int32) : Ct yX12_reached cX12_reached 4 (some .int) 5 129 Z [.ref a0, .int x1, .int x2, .int x3] vI (f_X12_reached r0 x1 x2 x3) := by
  subst h0
  refine ct_of (lv0 := [(0, va_rf (some a0)), (1, .int x1), (2, .int x2), (3, .int x3)]) (by decide +kernel) (by simp [lg_sl, ct_i, ct_l, ct_r, rf_cat]) (by show _ = ([(0, Value.ref a0), (1, .int x1), (2, .int x2), (3, .int x3)] : List (Nat × Value)); simp [lv_args, ct_i, ct_l, ct_r, rf_cat]) (fun X cx hZ hfr hlo hr hin => ?_)
  subst hZ
  exact s_X12_reached cx (Nat.le_of_eq hfr.symm) (Nat.le_of_eq hlo.symm) hr (some a0) x1 x2 x3
/-! PolicyTreeModel.move(II)I -/
theorem dX12_move_0 : decode cX12_move 0 = .ok (.aload_n 0, 1) := by decide +kernel
theorem dX12_move_1 : decode cX12_move 1 = .ok (.iconst 0, 1) := by decide +kernel
theorem dX12_move_2 : decode cX12_move 2 = .ok (.putfield 97, 3) := by decide +kernel
theorem dX12_move_5 : decode cX12_move 5 = .ok (.aload_n 0, 1) := by decide +kernel
theorem dX12_move_6 : decode cX12_move 6 = .ok (.iload_n 1, 1) := by decide +kernel
theorem dX12_move_7 : decode cX12_move 7 = .ok (.aload_n 0, 1) := by decide +kernel
theorem dX12_move_8 : decode cX12_move 8 = .ok (.getfield 94, 3) := by decide +kernel
theorem dX12_move_11 : decode cX12_move 11 = .ok (.invokevirtual 100, 3) := by decide +kernel
theorem dX12_move_14 : decode cX12_move 14 = .ok (.ifCond .ne 15, 3) := by decide +kernel
theorem dX12_move_17 : decode cX12_move 17 = .ok (.aload_n 0, 1) := by decide +kernel
theorem dX12_move_18 : decode cX12_move 18 = .ok (.iload_n 2, 1) := by decide +kernel
theorem dX12_move_19 : decode cX12_move 19 = .ok (.aload_n 0, 1) := by decide +kernel
theorem dX12_move_20 : decode cX12_move 20 = .ok (.getfield 94, 3) := by decide +kernel
theorem dX12_move_23 : decode cX12_move 23 = .ok (.invokevirtual 100, 3) := by decide +kernel
theorem dX12_move_26 : decode cX12_move 26 = .ok (.ifCond .eq 5, 3) := by decide +kernel
theorem dX12_move_29 : decode cX12_move 29 = .ok (.iconst 0, 1) := by decide +kernel
theorem dX12_move_30 : decode cX12_move 30 = .ok (.ireturn, 1) := by decide +kernel
theorem dX12_move_31 : decode cX12_move 31 = .ok (.iload_n 1, 1) := by decide +kernel
theorem dX12_move_32 : decode cX12_move 32 = .ok (.ifCond .eq 12, 3) := by decide +kernel
theorem dX12_move_35 : decode cX12_move 35 = .ok (.aload_n 0, 1) := by decide +kernel
theorem dX12_move_36 : decode cX12_move 36 = .ok (.iload_n 2, 1) := by decide +kernel
theorem dX12_move_37 : decode cX12_move 37 = .ok (.iload_n 1, 1) := by decide +kernel
theorem dX12_move_38 : decode cX12_move 38 = .ok (.invokevirtual 208, 3) := by decide +kernel
theorem dX12_move_41 : decode cX12_move 41 = .ok (.ifCond .eq 5, 3) := by decide +kernel
theorem dX12_move_44 : decode cX12_move 44 = .ok (.iconst (-1), 1) := by decide +kernel
theorem dX12_move_45 : decode cX12_move 45 = .ok (.ireturn, 1) := by decide +kernel
theorem dX12_move_46 : decode cX12_move 46 = .ok (.aload_n 0, 1) := by decide +kernel
theorem dX12_move_47 : decode cX12_move 47 = .ok (.invokevirtual 232, 3) := by decide +kernel
theorem dX12_move_50 : decode cX12_move 50 = .ok (.iconst 0, 1) := by decide +kernel
theorem dX12_move_51 : decode cX12_move 51 = .ok (.istore_n 3, 1) := by decide +kernel
theorem dX12_move_52 : decode cX12_move 52 = .ok (.iload_n 3, 1) := by decide +kernel
theorem dX12_move_53 : decode cX12_move 53 = .ok (.aload_n 0, 1) := by decide +kernel
theorem dX12_move_54 : decode cX12_move 54 = .ok (.getfield 108, 3) := by decide +kernel
theorem dX12_move_57 : decode cX12_move 57 = .ok (.if_icmp .ge 102, 3) := by decide +kernel
theorem dX12_move_60 : decode cX12_move 60 = .ok (.aload_n 0, 1) := by decide +kernel
theorem dX12_move_61 : decode cX12_move 61 = .ok (.iload_n 3, 1) := by decide +kernel
theorem dX12_move_62 : decode cX12_move 62 = .ok (.aload_n 0, 1) := by decide +kernel
theorem dX12_move_63 : decode cX12_move 63 = .ok (.iload_n 3, 1) := by decide +kernel
theorem dX12_move_64 : decode cX12_move 64 = .ok (.invokevirtual 235, 3) := by decide +kernel
theorem dX12_move_67 : decode cX12_move 67 = .ok (.iconst (-1), 1) := by decide +kernel
theorem dX12_move_68 : decode cX12_move 68 = .ok (.invokevirtual 238, 3) := by decide +kernel
theorem dX12_move_71 : decode cX12_move 71 = .ok (.iconst 0, 1) := by decide +kernel
theorem dX12_move_72 : decode cX12_move 72 = .ok (.istore 4, 2) := by decide +kernel
theorem dX12_move_74 : decode cX12_move 74 = .ok (.iload 4, 2) := by decide +kernel
theorem dX12_move_76 : decode cX12_move 76 = .ok (.bipush 12, 2) := by decide +kernel
theorem dX12_move_78 : decode cX12_move 78 = .ok (.if_icmp .ge 75, 3) := by decide +kernel
theorem dX12_move_81 : decode cX12_move 81 = .ok (.aload_n 0, 1) := by decide +kernel
theorem dX12_move_82 : decode cX12_move 82 = .ok (.iload 4, 2) := by decide +kernel
theorem dX12_move_84 : decode cX12_move 84 = .ok (.invokevirtual 242, 3) := by decide +kernel
theorem dX12_move_87 : decode cX12_move 87 = .ok (.bipush 12, 2) := by decide +kernel
theorem dX12_move_89 : decode cX12_move 89 = .ok (.iload_n 3, 1) := by decide +kernel
theorem dX12_move_90 : decode cX12_move 90 = .ok (.imul, 1) := by decide +kernel
theorem dX12_move_91 : decode cX12_move 91 = .ok (.iload 4, 2) := by decide +kernel
theorem dX12_move_93 : decode cX12_move 93 = .ok (.iadd, 1) := by decide +kernel
theorem dX12_move_94 : decode cX12_move 94 = .ok (.bipush 41, 2) := by decide +kernel
theorem dX12_move_96 : decode cX12_move 96 = .ok (.imul, 1) := by decide +kernel
theorem dX12_move_97 : decode cX12_move 97 = .ok (.istore 5, 2) := by decide +kernel
theorem dX12_move_99 : decode cX12_move 99 = .ok (.aload_n 0, 1) := by decide +kernel
theorem dX12_move_100 : decode cX12_move 100 = .ok (.getfield 91, 3) := by decide +kernel
theorem dX12_move_103 : decode cX12_move 103 = .ok (.iload 5, 2) := by decide +kernel
theorem dX12_move_105 : decode cX12_move 105 = .ok (.aload_n 0, 1) := by decide +kernel
theorem dX12_move_106 : decode cX12_move 106 = .ok (.getfield 222, 3) := by decide +kernel
theorem dX12_move_109 : decode cX12_move 109 = .ok (.iastore, 1) := by decide +kernel
theorem dX12_move_110 : decode cX12_move 110 = .ok (.iconst 0, 1) := by decide +kernel
theorem dX12_move_111 : decode cX12_move 111 = .ok (.istore 6, 2) := by decide +kernel
theorem dX12_move_113 : decode cX12_move 113 = .ok (.iload 6, 2) := by decide +kernel
theorem dX12_move_115 : decode cX12_move 115 = .ok (.aload_n 0, 1) := by decide +kernel
theorem dX12_move_116 : decode cX12_move 116 = .ok (.getfield 222, 3) := by decide +kernel
theorem dX12_move_119 : decode cX12_move 119 = .ok (.if_icmp .ge 28, 3) := by decide +kernel
theorem dX12_move_122 : decode cX12_move 122 = .ok (.aload_n 0, 1) := by decide +kernel
theorem dX12_move_123 : decode cX12_move 123 = .ok (.getfield 91, 3) := by decide +kernel
theorem dX12_move_126 : decode cX12_move 126 = .ok (.iload 5, 2) := by decide +kernel
theorem dX12_move_128 : decode cX12_move 128 = .ok (.iconst 1, 1) := by decide +kernel
theorem dX12_move_129 : decode cX12_move 129 = .ok (.iadd, 1) := by decide +kernel
theorem dX12_move_130 : decode cX12_move 130 = .ok (.iload 6, 2) := by decide +kernel
theorem dX12_move_132 : decode cX12_move 132 = .ok (.iadd, 1) := by decide +kernel
theorem dX12_move_133 : decode cX12_move 133 = .ok (.aload_n 0, 1) := by decide +kernel
theorem dX12_move_134 : decode cX12_move 134 = .ok (.getfield 85, 3) := by decide +kernel
theorem dX12_move_137 : decode cX12_move 137 = .ok (.iload 6, 2) := by decide +kernel
theorem dX12_move_139 : decode cX12_move 139 = .ok (.iaload, 1) := by decide +kernel
theorem dX12_move_140 : decode cX12_move 140 = .ok (.iastore, 1) := by decide +kernel
theorem dX12_move_141 : decode cX12_move 141 = .ok (.iinc 6 1, 3) := by decide +kernel
theorem dX12_move_144 : decode cX12_move 144 = .ok (.goto (-31), 3) := by decide +kernel
theorem dX12_move_147 : decode cX12_move 147 = .ok (.iinc 4 1, 3) := by decide +kernel
theorem dX12_move_150 : decode cX12_move 150 = .ok (.goto (-76), 3) := by decide +kernel
theorem dX12_move_153 : decode cX12_move 153 = .ok (.iinc 3 1, 3) := by decide +kernel
theorem dX12_move_156 : decode cX12_move 156 = .ok (.goto (-104), 3) := by decide +kernel
theorem dX12_move_159 : decode cX12_move 159 = .ok (.aload_n 0, 1) := by decide +kernel
theorem dX12_move_160 : decode cX12_move 160 = .ok (.getfield 9, 3) := by decide +kernel
theorem dX12_move_163 : decode cX12_move 163 = .ok (.iload_n 1, 1) := by decide +kernel
theorem dX12_move_164 : decode cX12_move 164 = .ok (.iload_n 2, 1) := by decide +kernel
theorem dX12_move_165 : decode cX12_move 165 = .ok (.iastore, 1) := by decide +kernel
theorem dX12_move_166 : decode cX12_move 166 = .ok (.iconst 0, 1) := by decide +kernel
theorem dX12_move_167 : decode cX12_move 167 = .ok (.istore_n 3, 1) := by decide +kernel
theorem dX12_move_168 : decode cX12_move 168 = .ok (.iconst 0, 1) := by decide +kernel
theorem dX12_move_169 : decode cX12_move 169 = .ok (.istore 4, 2) := by decide +kernel
theorem dX12_move_171 : decode cX12_move 171 = .ok (.iload 4, 2) := by decide +kernel
theorem dX12_move_173 : decode cX12_move 173 = .ok (.aload_n 0, 1) := by decide +kernel
theorem dX12_move_174 : decode cX12_move 174 = .ok (.getfield 108, 3) := by decide +kernel
theorem dX12_move_177 : decode cX12_move 177 = .ok (.if_icmp .ge 143, 3) := by decide +kernel
theorem dX12_move_180 : decode cX12_move 180 = .ok (.aload_n 0, 1) := by decide +kernel
theorem dX12_move_181 : decode cX12_move 181 = .ok (.iload 4, 2) := by decide +kernel
theorem dX12_move_183 : decode cX12_move 183 = .ok (.aload_n 0, 1) := by decide +kernel
theorem dX12_move_184 : decode cX12_move 184 = .ok (.iload 4, 2) := by decide +kernel
theorem dX12_move_186 : decode cX12_move 186 = .ok (.invokevirtual 235, 3) := by decide +kernel
theorem dX12_move_189 : decode cX12_move 189 = .ok (.iconst (-1), 1) := by decide +kernel
theorem dX12_move_190 : decode cX12_move 190 = .ok (.invokevirtual 238, 3) := by decide +kernel
theorem dX12_move_193 : decode cX12_move 193 = .ok (.iconst 0, 1) := by decide +kernel
theorem dX12_move_194 : decode cX12_move 194 = .ok (.istore 5, 2) := by decide +kernel
theorem dX12_move_196 : decode cX12_move 196 = .ok (.iload 5, 2) := by decide +kernel
theorem dX12_move_198 : decode cX12_move 198 = .ok (.bipush 12, 2) := by decide +kernel
theorem dX12_move_200 : decode cX12_move 200 = .ok (.if_icmp .ge 114, 3) := by decide +kernel
theorem dX12_move_203 : decode cX12_move 203 = .ok (.aload_n 0, 1) := by decide +kernel
theorem dX12_move_204 : decode cX12_move 204 = .ok (.iload 5, 2) := by decide +kernel
theorem dX12_move_206 : decode cX12_move 206 = .ok (.invokevirtual 242, 3) := by decide +kernel
theorem dX12_move_209 : decode cX12_move 209 = .ok (.bipush 12, 2) := by decide +kernel
theorem dX12_move_211 : decode cX12_move 211 = .ok (.iload 4, 2) := by decide +kernel
theorem dX12_move_213 : decode cX12_move 213 = .ok (.imul, 1) := by decide +kernel
theorem dX12_move_214 : decode cX12_move 214 = .ok (.iload 5, 2) := by decide +kernel
theorem dX12_move_216 : decode cX12_move 216 = .ok (.iadd, 1) := by decide +kernel
theorem dX12_move_217 : decode cX12_move 217 = .ok (.bipush 41, 2) := by decide +kernel
theorem dX12_move_219 : decode cX12_move 219 = .ok (.imul, 1) := by decide +kernel
theorem dX12_move_220 : decode cX12_move 220 = .ok (.istore 6, 2) := by decide +kernel
theorem dX12_move_222 : decode cX12_move 222 = .ok (.aload_n 0, 1) := by decide +kernel
theorem dX12_move_223 : decode cX12_move 223 = .ok (.getfield 91, 3) := by decide +kernel
theorem dX12_move_226 : decode cX12_move 226 = .ok (.iload 6, 2) := by decide +kernel
theorem dX12_move_228 : decode cX12_move 228 = .ok (.iaload, 1) := by decide +kernel
theorem dX12_move_229 : decode cX12_move 229 = .ok (.aload_n 0, 1) := by decide +kernel
theorem dX12_move_230 : decode cX12_move 230 = .ok (.getfield 222, 3) := by decide +kernel
theorem dX12_move_233 : decode cX12_move 233 = .ok (.if_icmp .ne 7, 3) := by decide +kernel
theorem dX12_move_236 : decode cX12_move 236 = .ok (.iconst 1, 1) := by decide +kernel
theorem dX12_move_237 : decode cX12_move 237 = .ok (.goto 4, 3) := by decide +kernel
theorem dX12_move_240 : decode cX12_move 240 = .ok (.iconst 0, 1) := by decide +kernel
theorem dX12_move_241 : decode cX12_move 241 = .ok (.istore 7, 2) := by decide +kernel
theorem dX12_move_243 : decode cX12_move 243 = .ok (.iconst 0, 1) := by decide +kernel
theorem dX12_move_244 : decode cX12_move 244 = .ok (.istore 8, 2) := by decide +kernel
theorem dX12_move_246 : decode cX12_move 246 = .ok (.iload 8, 2) := by decide +kernel
theorem dX12_move_248 : decode cX12_move 248 = .ok (.aload_n 0, 1) := by decide +kernel
theorem dX12_move_249 : decode cX12_move 249 = .ok (.getfield 222, 3) := by decide +kernel
theorem dX12_move_252 : decode cX12_move 252 = .ok (.if_icmp .ge 43, 3) := by decide +kernel
theorem dX12_move_255 : decode cX12_move 255 = .ok (.iload 7, 2) := by decide +kernel
theorem dX12_move_257 : decode cX12_move 257 = .ok (.ifCond .eq 38, 3) := by decide +kernel
theorem dX12_move_260 : decode cX12_move 260 = .ok (.aload_n 0, 1) := by decide +kernel
theorem dX12_move_261 : decode cX12_move 261 = .ok (.getfield 91, 3) := by decide +kernel
theorem dX12_move_264 : decode cX12_move 264 = .ok (.iload 6, 2) := by decide +kernel
theorem dX12_move_266 : decode cX12_move 266 = .ok (.iconst 1, 1) := by decide +kernel
theorem dX12_move_267 : decode cX12_move 267 = .ok (.iadd, 1) := by decide +kernel
theorem dX12_move_268 : decode cX12_move 268 = .ok (.iload 8, 2) := by decide +kernel
theorem dX12_move_270 : decode cX12_move 270 = .ok (.iadd, 1) := by decide +kernel
theorem dX12_move_271 : decode cX12_move 271 = .ok (.iaload, 1) := by decide +kernel
theorem dX12_move_272 : decode cX12_move 272 = .ok (.aload_n 0, 1) := by decide +kernel
theorem dX12_move_273 : decode cX12_move 273 = .ok (.getfield 85, 3) := by decide +kernel
theorem dX12_move_276 : decode cX12_move 276 = .ok (.iload 8, 2) := by decide +kernel
theorem dX12_move_278 : decode cX12_move 278 = .ok (.iaload, 1) := by decide +kernel
theorem dX12_move_279 : decode cX12_move 279 = .ok (.if_icmp .ne 7, 3) := by decide +kernel
theorem dX12_move_282 : decode cX12_move 282 = .ok (.iconst 1, 1) := by decide +kernel
theorem dX12_move_283 : decode cX12_move 283 = .ok (.goto 4, 3) := by decide +kernel
theorem dX12_move_286 : decode cX12_move 286 = .ok (.iconst 0, 1) := by decide +kernel
theorem dX12_move_287 : decode cX12_move 287 = .ok (.istore 7, 2) := by decide +kernel
theorem dX12_move_289 : decode cX12_move 289 = .ok (.iinc 8 1, 3) := by decide +kernel
theorem dX12_move_292 : decode cX12_move 292 = .ok (.goto (-46), 3) := by decide +kernel
theorem dX12_move_295 : decode cX12_move 295 = .ok (.iload_n 3, 1) := by decide +kernel
theorem dX12_move_296 : decode cX12_move 296 = .ok (.iload 7, 2) := by decide +kernel
theorem dX12_move_298 : decode cX12_move 298 = .ok (.ifCond .eq 7, 3) := by decide +kernel
theorem dX12_move_301 : decode cX12_move 301 = .ok (.iconst 0, 1) := by decide +kernel
theorem dX12_move_302 : decode cX12_move 302 = .ok (.goto 4, 3) := by decide +kernel
theorem dX12_move_305 : decode cX12_move 305 = .ok (.iconst 1, 1) := by decide +kernel
theorem dX12_move_306 : decode cX12_move 306 = .ok (.iadd, 1) := by decide +kernel
theorem dX12_move_307 : decode cX12_move 307 = .ok (.istore_n 3, 1) := by decide +kernel
theorem dX12_move_308 : decode cX12_move 308 = .ok (.iinc 5 1, 3) := by decide +kernel
theorem dX12_move_311 : decode cX12_move 311 = .ok (.goto (-115), 3) := by decide +kernel
theorem dX12_move_314 : decode cX12_move 314 = .ok (.iinc 4 1, 3) := by decide +kernel
theorem dX12_move_317 : decode cX12_move 317 = .ok (.goto (-146), 3) := by decide +kernel
theorem dX12_move_320 : decode cX12_move 320 = .ok (.iload_n 3, 1) := by decide +kernel
theorem dX12_move_321 : decode cX12_move 321 = .ok (.ireturn, 1) := by decide +kernel
def f_X12_move_29 : Mo Int32 := mp (0 : Int32)
set_option maxRecDepth 100000 in
set_option maxHeartbeats 4000000 in
theorem s_X12_move_29 {X : Cg} (cx : Cx X cX12_move RX12 9) (hfr : 4 ≤ (xR X).frames) (hlo : 103 ≤ (xR X).locals) (hr : (xM X).sig.returnType = (some .int)) : Sim X 9 (FiM X vI) 29 [] [] (f_X12_move_29) := by
  unfold f_X12_move_29
  refine sm_iconst (v := 0) cx dX12_move_29 (by decide) ?_
  exact sm_iret cx hr dX12_move_30
def f_X12_move_44 : Mo Int32 := mp (-1 : Int32)
set_option maxRecDepth 100000 in
set_option maxHeartbeats 4000000 in
theorem s_X12_move_44 {X : Cg} (cx : Cx X cX12_move RX12 9) (hfr : 4 ≤ (xR X).frames) (hlo : 103 ≤ (xR X).locals) (hr : (xM X).sig.returnType = (some .int)) : Sim X 9 (FiM X vI) 44 [] [] (f_X12_move_44) := by
  unfold f_X12_move_44
  refine sm_iconst (v := -1) cx dX12_move_44 (by decide) ?_
  exact sm_iret cx hr dX12_move_45
def f_X12_move_113 (k52 : Int32 → Mo Int32) (k74 : Int32 → Mo Int32) (r0 : Option Nat) (x1 : Int32) (x2 : Int32) (x3 : Int32) (x4 : Int32) (x5 : Int32) : Nat → Int32 → Mo Int32
  | 0, _ => mf
  | n + 1, x6 => mb (gI 15 38 r0) (fun v116 => (if v116 ≤ x6 then k74 (x4 + 1) else mb (gR 15 44 r0) (fun v123 => mb (gR 15 37 r0) (fun v134 => mb (aI 1 v134 x6) (fun v139 => mb (sI 1 v123 ((x5 + (1 : Int32)) + x6) v139) (fun _ => (f_X12_move_113 k52 k74 r0 x1 x2 x3 x4 x5 n) (x6 + 1)))))))
set_option maxRecDepth 100000 in
set_option maxHeartbeats 4000000 in
theorem s_X12_move_113 {X : Cg} (cx : Cx X cX12_move RX12 9) (hfr : 4 ≤ (xR X).frames) (hlo : 103 ≤ (xR X).locals) (hr : (xM X).sig.returnType = (some .int)) (r0 : Option Nat) (x1 : Int32) (x2 : Int32) (x3 : Int32) (x4 : Int32) (x5 : Int32) {k52 : Int32 → Mo Int32} (hk52 : ∀ (x3 : Int32), Sim X 9 (FiM X vI) 52 [(0, va_rf r0), (1, .int x1), (2, .int x2), (3, .int x3)] [] (k52 x3)) {k74 : Int32 → Mo Int32} (hk74 : ∀ (x4 : Int32), Sim X 9 (FiM X vI) 74 [(0, va_rf r0), (1, .int x1), (2, .int x2), (3, .int x3), (4, .int x4)] [] (k74 x4)) : ∀ (n : Nat) (x6 : Int32), Sim X 9 (FiM X vI) 113 [(0, va_rf r0), (1, .int x1), (2, .int x2), (3, .int x3), (4, .int x4), (5, .int x5), (6, .int x6)] [] (f_X12_move_113 k52 k74 r0 x1 x2 x3 x4 x5 n x6) := by
  intro n
  induction n with
  | zero =>
    intro _
    exact sm_mf
  | succ n ih =>
    intro x6
    rw [f_X12_move_113]
    refine sm_iload cx 6 dX12_move_113 rfl ?_
    refine sm_aload_n cx 0 dX12_move_115 rfl rfl ?_
    refine sm_getI cx fl_X12_222 dX12_move_116 (fun v116 => ?_)
    refine sm_icmp_ge (tgt := 147) cx dX12_move_119 (by decide) ?_ ?_
    · refine sm_iinc cx 4 [(4, .int (x4 + 1)), (0, va_rf r0), (1, .int x1), (2, .int x2), (3, .int x3), (5, .int x5), (6, .int x6)] dX12_move_147 rfl rfl (by decide) rfl (nc1 rfl) rfl ?_
      refine sm_goto (tgt := 74) cx dX12_move_150 (by decide) ?_
      exact sm_lv [1, 2, 3, 4, 0] rfl (hk74 (x4 + 1))
    · refine sm_aload_n cx 0 dX12_move_122 rfl rfl ?_
      refine sm_getR cx fl_X12_91 dX12_move_123 (fun v123 => ?_)
      refine sm_iload cx 5 dX12_move_126 rfl ?_
      refine sm_iconst (v := 1) cx dX12_move_128 (by decide) ?_
      refine sm_iadd cx dX12_move_129 ?_
      refine sm_iload cx 6 dX12_move_130 rfl ?_
      refine sm_iadd cx dX12_move_132 ?_
      refine sm_aload_n cx 0 dX12_move_133 rfl rfl ?_
      refine sm_getR cx fl_X12_85 dX12_move_134 (fun v134 => ?_)
      refine sm_iload cx 6 dX12_move_137 rfl ?_
      refine sm_iald cx dX12_move_139 (fun v139 => ?_)
      refine sm_iast cx dX12_move_140 ?_
      refine sm_iinc cx 6 [(6, .int (x6 + 1)), (0, va_rf r0), (1, .int x1), (2, .int x2), (3, .int x3), (4, .int x4), (5, .int x5)] dX12_move_141 rfl rfl (by decide) rfl (nc1 rfl) rfl ?_
      refine sm_goto (tgt := 113) cx dX12_move_144 (by decide) ?_
      exact sm_lv [1, 2, 3, 4, 5, 6, 0] rfl (ih (x6 + 1))
def f_X12_move_74 (k52 : Int32 → Mo Int32) (r0 : Option Nat) (x1 : Int32) (x2 : Int32) (x3 : Int32) : Nat → Int32 → Mo Int32
  | 0, _ => mf
  | n + 1, x4 => (if (12 : Int32) ≤ x4 then k52 (x3 + 1) else mb (mo 15 r0 (f_X12_outcomes r0 x4)) (fun _ => mb (gR 15 44 r0) (fun v100 => mb (gI 15 38 r0) (fun v106 => mb (sI 1 v100 ((((12 : Int32) * x3) + x4) * (41 : Int32)) v106) (fun _ => f_X12_move_113 k52 (f_X12_move_74 k52 r0 x1 x2 x3 n) r0 x1 x2 x3 x4 ((((12 : Int32) * x3) + x4) * (41 : Int32)) fuL (0 : Int32))))))
set_option maxRecDepth 100000 in
set_option maxHeartbeats 4000000 in
theorem s_X12_move_74 {X : Cg} (cx : Cx X cX12_move RX12 9) (hfr : 4 ≤ (xR X).frames) (hlo : 103 ≤ (xR X).locals) (hr : (xM X).sig.returnType = (some .int)) (r0 : Option Nat) (x1 : Int32) (x2 : Int32) (x3 : Int32) {k52 : Int32 → Mo Int32} (hk52 : ∀ (x3 : Int32), Sim X 9 (FiM X vI) 52 [(0, va_rf r0), (1, .int x1), (2, .int x2), (3, .int x3)] [] (k52 x3)) : ∀ (n : Nat) (x4 : Int32), Sim X 9 (FiM X vI) 74 [(0, va_rf r0), (1, .int x1), (2, .int x2), (3, .int x3), (4, .int x4)] [] (f_X12_move_74 k52 r0 x1 x2 x3 n x4) := by
  intro n
  induction n with
  | zero =>
    intro _
    exact sm_mf
  | succ n ih =>
    intro x4
    rw [f_X12_move_74]
    refine sm_iload cx 4 dX12_move_74 rfl ?_
    refine sm_bipush (v := 12) cx dX12_move_76 (by decide) ?_
    refine sm_icmp_ge (tgt := 153) cx dX12_move_78 (by decide) ?_ ?_
    · refine sm_iinc cx 3 [(3, .int (x3 + 1)), (0, va_rf r0), (1, .int x1), (2, .int x2), (4, .int x4)] dX12_move_153 rfl rfl (by decide) rfl (nc1 rfl) rfl ?_
      refine sm_goto (tgt := 52) cx dX12_move_156 (by decide) ?_
      exact sm_lv [1, 2, 3, 0] rfl (hk52 (x3 + 1))
    · refine sm_aload_n cx 0 dX12_move_81 rfl rfl ?_
      refine sm_iload cx 4 dX12_move_82 rfl ?_
      refine sm_callV (T := TX12) (N := 47) (toV := vV) cx [.int x4] rfl cv_X12_242 (fun a h => ct_X12_outcomes (xZ X) a h x4) (Nat.le_trans (by decide) hfr) (Nat.le_trans (by decide) hlo) rfl (cat_le _ (Nat.le_of_ble_eq_true rfl)) dX12_move_84 (fun _ => ?_)
      refine sm_bipush (v := 12) cx dX12_move_87 (by decide) ?_
      refine sm_iload_n cx 3 dX12_move_89 rfl rfl ?_
      refine sm_imul cx dX12_move_90 ?_
      refine sm_iload cx 4 dX12_move_91 rfl ?_
      refine sm_iadd cx dX12_move_93 ?_
      refine sm_bipush (v := 41) cx dX12_move_94 (by decide) ?_
      refine sm_imul cx dX12_move_96 ?_
      refine sm_istore cx [(5, .int ((((12 : Int32) * x3) + x4) * (41 : Int32))), (0, va_rf r0), (1, .int x1), (2, .int x2), (3, .int x3), (4, .int x4)] dX12_move_97 (by decide) rfl (nc1 rfl) rfl ?_
      refine sm_aload_n cx 1 dX12_move_99 rfl rfl ?_
      refine sm_getR cx fl_X12_91 dX12_move_100 (fun v100 => ?_)
      refine sm_iload cx 0 dX12_move_103 rfl ?_
      refine sm_aload_n cx 1 dX12_move_105 rfl rfl ?_
      refine sm_getI cx fl_X12_222 dX12_move_106 (fun v106 => ?_)
      refine sm_iast cx dX12_move_109 ?_
      refine sm_iconst (v := 0) cx dX12_move_110 (by decide) ?_
      refine sm_istore cx [(6, .int (0 : Int32)), (5, .int ((((12 : Int32) * x3) + x4) * (41 : Int32))), (0, va_rf r0), (1, .int x1), (2, .int x2), (3, .int x3), (4, .int x4)] dX12_move_111 (by decide) rfl (nc1 rfl) rfl ?_
      exact sm_lv [2, 3, 4, 5, 6, 1, 0] rfl (s_X12_move_113 cx hfr hlo hr r0 x1 x2 x3 x4 ((((12 : Int32) * x3) + x4) * (41 : Int32)) hk52 ih fuL (0 : Int32))
def f_X12_move_287 (k171 : Int32 → Int32 → Mo Int32) (k196 : Int32 → Int32 → Mo Int32) (k246 : Int32 → Int32 → Mo Int32) (r0 : Option Nat) (x3 : Int32) (x4 : Int32) (x5 : Int32) (x6 : Int32) (x8 : Int32) (sx0 : Int32) : Mo Int32 := k246 sx0 (x8 + 1)
set_option maxRecDepth 100000 in
set_option maxHeartbeats 4000000 in
theorem s_X12_move_287 {X : Cg} (cx : Cx X cX12_move RX12 9) (hfr : 4 ≤ (xR X).frames) (hlo : 103 ≤ (xR X).locals) (hr : (xM X).sig.returnType = (some .int)) (r0 : Option Nat) (x3 : Int32) (x4 : Int32) (x5 : Int32) (x6 : Int32) (x8 : Int32) (sx0 : Int32) {k171 : Int32 → Int32 → Mo Int32} (hk171 : ∀ (x3 : Int32) (x4 : Int32), Sim X 9 (FiM X vI) 171 [(0, va_rf r0), (3, .int x3), (4, .int x4)] [] (k171 x3 x4)) {k196 : Int32 → Int32 → Mo Int32} (hk196 : ∀ (x3 : Int32) (x5 : Int32), Sim X 9 (FiM X vI) 196 [(0, va_rf r0), (3, .int x3), (4, .int x4), (5, .int x5)] [] (k196 x3 x5)) {k246 : Int32 → Int32 → Mo Int32} (hk246 : ∀ (x7 : Int32) (x8 : Int32), Sim X 9 (FiM X vI) 246 [(0, va_rf r0), (3, .int x3), (4, .int x4), (5, .int x5), (6, .int x6), (7, .int x7), (8, .int x8)] [] (k246 x7 x8)) : Sim X 9 (FiM X vI) 287 [(0, va_rf r0), (3, .int x3), (4, .int x4), (5, .int x5), (6, .int x6), (8, .int x8)] [.int sx0] (f_X12_move_287 k171 k196 k246 r0 x3 x4 x5 x6 x8 sx0) := by
  unfold f_X12_move_287
  refine sm_istore cx [(7, .int sx0), (0, va_rf r0), (3, .int x3), (4, .int x4), (5, .int x5), (6, .int x6), (8, .int x8)] dX12_move_287 (by decide) rfl (nc1 rfl) rfl ?_
  refine sm_iinc cx 6 [(8, .int (x8 + 1)), (7, .int sx0), (0, va_rf r0), (3, .int x3), (4, .int x4), (5, .int x5), (6, .int x6)] dX12_move_289 rfl rfl (by decide) rfl (nc1 rfl) rfl ?_
  refine sm_goto (tgt := 246) cx dX12_move_292 (by decide) ?_
  exact sm_lv [2, 3, 4, 5, 6, 1, 0] rfl (hk246 sx0 (x8 + 1))
def f_X12_move_306 (k171 : Int32 → Int32 → Mo Int32) (k196 : Int32 → Int32 → Mo Int32) (r0 : Option Nat) (x4 : Int32) (x5 : Int32) (sx0 : Int32) (sx1 : Int32) : Mo Int32 := k196 (sx0 + sx1) (x5 + 1)
set_option maxRecDepth 100000 in
set_option maxHeartbeats 4000000 in
theorem s_X12_move_306 {X : Cg} (cx : Cx X cX12_move RX12 9) (hfr : 4 ≤ (xR X).frames) (hlo : 103 ≤ (xR X).locals) (hr : (xM X).sig.returnType = (some .int)) (r0 : Option Nat) (x4 : Int32) (x5 : Int32) (sx0 : Int32) (sx1 : Int32) {k171 : Int32 → Int32 → Mo Int32} (hk171 : ∀ (x3 : Int32) (x4 : Int32), Sim X 9 (FiM X vI) 171 [(0, va_rf r0), (3, .int x3), (4, .int x4)] [] (k171 x3 x4)) {k196 : Int32 → Int32 → Mo Int32} (hk196 : ∀ (x3 : Int32) (x5 : Int32), Sim X 9 (FiM X vI) 196 [(0, va_rf r0), (3, .int x3), (4, .int x4), (5, .int x5)] [] (k196 x3 x5)) : Sim X 9 (FiM X vI) 306 [(0, va_rf r0), (4, .int x4), (5, .int x5)] [.int sx1, .int sx0] (f_X12_move_306 k171 k196 r0 x4 x5 sx0 sx1) := by
  unfold f_X12_move_306
  refine sm_iadd cx dX12_move_306 ?_
  refine sm_istore_n cx [(3, .int (sx0 + sx1)), (0, va_rf r0), (4, .int x4), (5, .int x5)] dX12_move_307 rfl (by decide) rfl nc0 rfl ?_
  refine sm_iinc cx 3 [(5, .int (x5 + 1)), (3, .int (sx0 + sx1)), (0, va_rf r0), (4, .int x4)] dX12_move_308 rfl rfl (by decide) rfl (nc1 rfl) rfl ?_
  refine sm_goto (tgt := 196) cx dX12_move_311 (by decide) ?_
  exact sm_lv [2, 1, 3, 0] rfl (hk196 (sx0 + sx1) (x5 + 1))
def f_X12_move_295 (k171 : Int32 → Int32 → Mo Int32) (k196 : Int32 → Int32 → Mo Int32) (r0 : Option Nat) (x3 : Int32) (x4 : Int32) (x5 : Int32) (x7 : Int32) : Mo Int32 := (if x7 = 0 then f_X12_move_306 k171 k196 r0 x4 x5 x3 (1 : Int32) else f_X12_move_306 k171 k196 r0 x4 x5 x3 (0 : Int32))
set_option maxRecDepth 100000 in
set_option maxHeartbeats 4000000 in
theorem s_X12_move_295 {X : Cg} (cx : Cx X cX12_move RX12 9) (hfr : 4 ≤ (xR X).frames) (hlo : 103 ≤ (xR X).locals) (hr : (xM X).sig.returnType = (some .int)) (r0 : Option Nat) (x3 : Int32) (x4 : Int32) (x5 : Int32) (x7 : Int32) {k171 : Int32 → Int32 → Mo Int32} (hk171 : ∀ (x3 : Int32) (x4 : Int32), Sim X 9 (FiM X vI) 171 [(0, va_rf r0), (3, .int x3), (4, .int x4)] [] (k171 x3 x4)) {k196 : Int32 → Int32 → Mo Int32} (hk196 : ∀ (x3 : Int32) (x5 : Int32), Sim X 9 (FiM X vI) 196 [(0, va_rf r0), (3, .int x3), (4, .int x4), (5, .int x5)] [] (k196 x3 x5)) : Sim X 9 (FiM X vI) 295 [(0, va_rf r0), (3, .int x3), (4, .int x4), (5, .int x5), (7, .int x7)] [] (f_X12_move_295 k171 k196 r0 x3 x4 x5 x7) := by
  unfold f_X12_move_295
  refine sm_iload_n cx 1 dX12_move_295 rfl rfl ?_
  refine sm_iload cx 4 dX12_move_296 rfl ?_
  refine sm_if_eq (tgt := 305) cx dX12_move_298 (by decide) ?_ ?_
  · refine sm_iconst (v := 1) cx dX12_move_305 (by decide) ?_
    exact sm_lv [0, 2, 3] rfl (s_X12_move_306 cx hfr hlo hr r0 x4 x5 x3 (1 : Int32) hk171 hk196)
  · refine sm_iconst (v := 0) cx dX12_move_301 (by decide) ?_
    refine sm_goto (tgt := 306) cx dX12_move_302 (by decide) ?_
    exact sm_lv [0, 2, 3] rfl (s_X12_move_306 cx hfr hlo hr r0 x4 x5 x3 (0 : Int32) hk171 hk196)
def f_X12_move_246 (k171 : Int32 → Int32 → Mo Int32) (k196 : Int32 → Int32 → Mo Int32) (r0 : Option Nat) (x3 : Int32) (x4 : Int32) (x5 : Int32) (x6 : Int32) : Nat → Int32 → Int32 → Mo Int32
  | 0, _, _ => mf
  | n + 1, x7, x8 => mb (gI 15 38 r0) (fun v249 => (if v249 ≤ x8 then f_X12_move_295 k171 k196 r0 x3 x4 x5 x7 else (if x7 = 0 then f_X12_move_295 k171 k196 r0 x3 x4 x5 x7 else mb (gR 15 44 r0) (fun v261 => mb (aI 1 v261 ((x6 + (1 : Int32)) + x8)) (fun v271 => mb (gR 15 37 r0) (fun v273 => mb (aI 1 v273 x8) (fun v278 => (if v271 = v278 then f_X12_move_287 k171 k196 (f_X12_move_246 k171 k196 r0 x3 x4 x5 x6 n) r0 x3 x4 x5 x6 x8 (1 : Int32) else f_X12_move_287 k171 k196 (f_X12_move_246 k171 k196 r0 x3 x4 x5 x6 n) r0 x3 x4 x5 x6 x8 (0 : Int32)))))))))
set_option maxRecDepth 100000 in
set_option maxHeartbeats 4000000 in
theorem s_X12_move_246 {X : Cg} (cx : Cx X cX12_move RX12 9) (hfr : 4 ≤ (xR X).frames) (hlo : 103 ≤ (xR X).locals) (hr : (xM X).sig.returnType = (some .int)) (r0 : Option Nat) (x3 : Int32) (x4 : Int32) (x5 : Int32) (x6 : Int32) {k171 : Int32 → Int32 → Mo Int32} (hk171 : ∀ (x3 : Int32) (x4 : Int32), Sim X 9 (FiM X vI) 171 [(0, va_rf r0), (3, .int x3), (4, .int x4)] [] (k171 x3 x4)) {k196 : Int32 → Int32 → Mo Int32} (hk196 : ∀ (x3 : Int32) (x5 : Int32), Sim X 9 (FiM X vI) 196 [(0, va_rf r0), (3, .int x3), (4, .int x4), (5, .int x5)] [] (k196 x3 x5)) : ∀ (n : Nat) (x7 : Int32) (x8 : Int32), Sim X 9 (FiM X vI) 246 [(0, va_rf r0), (3, .int x3), (4, .int x4), (5, .int x5), (6, .int x6), (7, .int x7), (8, .int x8)] [] (f_X12_move_246 k171 k196 r0 x3 x4 x5 x6 n x7 x8) := by
  intro n
  induction n with
  | zero =>
    intro _ _
    exact sm_mf
  | succ n ih =>
    intro x7 x8
    rw [f_X12_move_246]
    refine sm_iload cx 6 dX12_move_246 rfl ?_
    refine sm_aload_n cx 0 dX12_move_248 rfl rfl ?_
    refine sm_getI cx fl_X12_222 dX12_move_249 (fun v249 => ?_)
    refine sm_icmp_ge (tgt := 295) cx dX12_move_252 (by decide) ?_ ?_
    · exact sm_lv [0, 1, 2, 3, 5] rfl (s_X12_move_295 cx hfr hlo hr r0 x3 x4 x5 x7 hk171 hk196)
    · refine sm_iload cx 5 dX12_move_255 rfl ?_
      refine sm_if_eq (tgt := 295) cx dX12_move_257 (by decide) ?_ ?_
      · exact sm_lv [0, 1, 2, 3, 5] rfl (s_X12_move_295 cx hfr hlo hr r0 x3 x4 x5 x7 hk171 hk196)
      · refine sm_aload_n cx 0 dX12_move_260 rfl rfl ?_
        refine sm_getR cx fl_X12_91 dX12_move_261 (fun v261 => ?_)
        refine sm_iload cx 4 dX12_move_264 rfl ?_
        refine sm_iconst (v := 1) cx dX12_move_266 (by decide) ?_
        refine sm_iadd cx dX12_move_267 ?_
        refine sm_iload cx 6 dX12_move_268 rfl ?_
        refine sm_iadd cx dX12_move_270 ?_
        refine sm_iald cx dX12_move_271 (fun v271 => ?_)
        refine sm_aload_n cx 0 dX12_move_272 rfl rfl ?_
        refine sm_getR cx fl_X12_85 dX12_move_273 (fun v273 => ?_)
        refine sm_iload cx 6 dX12_move_276 rfl ?_
        refine sm_iald cx dX12_move_278 (fun v278 => ?_)
        refine sm_icmp_ne (tgt := 286) cx dX12_move_279 (by decide) ?_ ?_
        · refine sm_iconst (v := 0) cx dX12_move_286 (by decide) ?_
          exact sm_lv [0, 1, 2, 3, 4, 6] rfl (s_X12_move_287 cx hfr hlo hr r0 x3 x4 x5 x6 x8 (0 : Int32) hk171 hk196 ih)
        · refine sm_iconst (v := 1) cx dX12_move_282 (by decide) ?_
          refine sm_goto (tgt := 287) cx dX12_move_283 (by decide) ?_
          exact sm_lv [0, 1, 2, 3, 4, 6] rfl (s_X12_move_287 cx hfr hlo hr r0 x3 x4 x5 x6 x8 (1 : Int32) hk171 hk196 ih)
def f_X12_move_241 (k171 : Int32 → Int32 → Mo Int32) (k196 : Int32 → Int32 → Mo Int32) (r0 : Option Nat) (x3 : Int32) (x4 : Int32) (x5 : Int32) (x6 : Int32) (sx0 : Int32) : Mo Int32 := f_X12_move_246 k171 k196 r0 x3 x4 x5 x6 fuL sx0 (0 : Int32)
set_option maxRecDepth 100000 in
set_option maxHeartbeats 4000000 in
theorem s_X12_move_241 {X : Cg} (cx : Cx X cX12_move RX12 9) (hfr : 4 ≤ (xR X).frames) (hlo : 103 ≤ (xR X).locals) (hr : (xM X).sig.returnType = (some .int)) (r0 : Option Nat) (x3 : Int32) (x4 : Int32) (x5 : Int32) (x6 : Int32) (sx0 : Int32) {k171 : Int32 → Int32 → Mo Int32} (hk171 : ∀ (x3 : Int32) (x4 : Int32), Sim X 9 (FiM X vI) 171 [(0, va_rf r0), (3, .int x3), (4, .int x4)] [] (k171 x3 x4)) {k196 : Int32 → Int32 → Mo Int32} (hk196 : ∀ (x3 : Int32) (x5 : Int32), Sim X 9 (FiM X vI) 196 [(0, va_rf r0), (3, .int x3), (4, .int x4), (5, .int x5)] [] (k196 x3 x5)) : Sim X 9 (FiM X vI) 241 [(0, va_rf r0), (3, .int x3), (4, .int x4), (5, .int x5), (6, .int x6)] [.int sx0] (f_X12_move_241 k171 k196 r0 x3 x4 x5 x6 sx0) := by
  unfold f_X12_move_241
  refine sm_istore cx [(7, .int sx0), (0, va_rf r0), (3, .int x3), (4, .int x4), (5, .int x5), (6, .int x6)] dX12_move_241 (by decide) rfl (nc1 rfl) rfl ?_
  refine sm_iconst (v := 0) cx dX12_move_243 (by decide) ?_
  refine sm_istore cx [(8, .int (0 : Int32)), (7, .int sx0), (0, va_rf r0), (3, .int x3), (4, .int x4), (5, .int x5), (6, .int x6)] dX12_move_244 (by decide) rfl (nc1 rfl) rfl ?_
  exact sm_lv [2, 3, 4, 5, 6, 1, 0] rfl (s_X12_move_246 cx hfr hlo hr r0 x3 x4 x5 x6 hk171 hk196 fuL sx0 (0 : Int32))
def f_X12_move_196 (k171 : Int32 → Int32 → Mo Int32) (r0 : Option Nat) (x4 : Int32) : Nat → Int32 → Int32 → Mo Int32
  | 0, _, _ => mf
  | n + 1, x3, x5 => (if (12 : Int32) ≤ x5 then k171 x3 (x4 + 1) else mb (mo 15 r0 (f_X12_outcomes r0 x5)) (fun _ => mb (gR 15 44 r0) (fun v223 => mb (aI 1 v223 ((((12 : Int32) * x4) + x5) * (41 : Int32))) (fun v228 => mb (gI 15 38 r0) (fun v230 => (if v228 = v230 then f_X12_move_241 k171 (f_X12_move_196 k171 r0 x4 n) r0 x3 x4 x5 ((((12 : Int32) * x4) + x5) * (41 : Int32)) (1 : Int32) else f_X12_move_241 k171 (f_X12_move_196 k171 r0 x4 n) r0 x3 x4 x5 ((((12 : Int32) * x4) + x5) * (41 : Int32)) (0 : Int32)))))))
set_option maxRecDepth 100000 in
set_option maxHeartbeats 4000000 in
theorem s_X12_move_196 {X : Cg} (cx : Cx X cX12_move RX12 9) (hfr : 4 ≤ (xR X).frames) (hlo : 103 ≤ (xR X).locals) (hr : (xM X).sig.returnType = (some .int)) (r0 : Option Nat) (x4 : Int32) {k171 : Int32 → Int32 → Mo Int32} (hk171 : ∀ (x3 : Int32) (x4 : Int32), Sim X 9 (FiM X vI) 171 [(0, va_rf r0), (3, .int x3), (4, .int x4)] [] (k171 x3 x4)) : ∀ (n : Nat) (x3 : Int32) (x5 : Int32), Sim X 9 (FiM X vI) 196 [(0, va_rf r0), (3, .int x3), (4, .int x4), (5, .int x5)] [] (f_X12_move_196 k171 r0 x4 n x3 x5) := by
  intro n
  induction n with
  | zero =>
    intro _ _
    exact sm_mf
  | succ n ih =>
    intro x3 x5
    rw [f_X12_move_196]
    refine sm_iload cx 3 dX12_move_196 rfl ?_
    refine sm_bipush (v := 12) cx dX12_move_198 (by decide) ?_
    refine sm_icmp_ge (tgt := 314) cx dX12_move_200 (by decide) ?_ ?_
    · refine sm_iinc cx 2 [(4, .int (x4 + 1)), (0, va_rf r0), (3, .int x3), (5, .int x5)] dX12_move_314 rfl rfl (by decide) rfl (nc1 rfl) rfl ?_
      refine sm_goto (tgt := 171) cx dX12_move_317 (by decide) ?_
      exact sm_lv [1, 2, 0] rfl (hk171 x3 (x4 + 1))
    · refine sm_aload_n cx 0 dX12_move_203 rfl rfl ?_
      refine sm_iload cx 3 dX12_move_204 rfl ?_
      refine sm_callV (T := TX12) (N := 47) (toV := vV) cx [.int x5] rfl cv_X12_242 (fun a h => ct_X12_outcomes (xZ X) a h x5) (Nat.le_trans (by decide) hfr) (Nat.le_trans (by decide) hlo) rfl (cat_le _ (Nat.le_of_ble_eq_true rfl)) dX12_move_206 (fun _ => ?_)
      refine sm_bipush (v := 12) cx dX12_move_209 (by decide) ?_
      refine sm_iload cx 2 dX12_move_211 rfl ?_
      refine sm_imul cx dX12_move_213 ?_
      refine sm_iload cx 3 dX12_move_214 rfl ?_
      refine sm_iadd cx dX12_move_216 ?_
      refine sm_bipush (v := 41) cx dX12_move_217 (by decide) ?_
      refine sm_imul cx dX12_move_219 ?_
      refine sm_istore cx [(6, .int ((((12 : Int32) * x4) + x5) * (41 : Int32))), (0, va_rf r0), (3, .int x3), (4, .int x4), (5, .int x5)] dX12_move_220 (by decide) rfl (nc1 rfl) rfl ?_
      refine sm_aload_n cx 1 dX12_move_222 rfl rfl ?_
      refine sm_getR cx fl_X12_91 dX12_move_223 (fun v223 => ?_)
      refine sm_iload cx 0 dX12_move_226 rfl ?_
      refine sm_iald cx dX12_move_228 (fun v228 => ?_)
      refine sm_aload_n cx 1 dX12_move_229 rfl rfl ?_
      refine sm_getI cx fl_X12_222 dX12_move_230 (fun v230 => ?_)
      refine sm_icmp_ne (tgt := 240) cx dX12_move_233 (by decide) ?_ ?_
      · refine sm_iconst (v := 0) cx dX12_move_240 (by decide) ?_
        exact sm_lv [1, 2, 3, 4, 0] rfl (s_X12_move_241 cx hfr hlo hr r0 x3 x4 x5 ((((12 : Int32) * x4) + x5) * (41 : Int32)) (0 : Int32) hk171 ih)
      · refine sm_iconst (v := 1) cx dX12_move_236 (by decide) ?_
        refine sm_goto (tgt := 241) cx dX12_move_237 (by decide) ?_
        exact sm_lv [1, 2, 3, 4, 0] rfl (s_X12_move_241 cx hfr hlo hr r0 x3 x4 x5 ((((12 : Int32) * x4) + x5) * (41 : Int32)) (1 : Int32) hk171 ih)
def f_X12_move_171 (r0 : Option Nat) : Nat → Int32 → Int32 → Mo Int32
  | 0, _, _ => mf
  | n + 1, x3, x4 => mb (gI 15 7 r0) (fun v174 => (if v174 ≤ x4 then mp x3 else mb (mo 15 r0 (f_X12_yesOf r0 x4)) (fun v186 => mb (mo 15 r0 (f_X12_makes r0 x4 v186 (-1 : Int32))) (fun _ => f_X12_move_196 (f_X12_move_171 r0 n) r0 x4 fuL x3 (0 : Int32)))))
set_option maxRecDepth 100000 in
set_option maxHeartbeats 4000000 in
theorem s_X12_move_171 {X : Cg} (cx : Cx X cX12_move RX12 9) (hfr : 4 ≤ (xR X).frames) (hlo : 103 ≤ (xR X).locals) (hr : (xM X).sig.returnType = (some .int)) (r0 : Option Nat) : ∀ (n : Nat) (x3 : Int32) (x4 : Int32), Sim X 9 (FiM X vI) 171 [(0, va_rf r0), (3, .int x3), (4, .int x4)] [] (f_X12_move_171 r0 n x3 x4) := by
  intro n
  induction n with
  | zero =>
    intro _ _
    exact sm_mf
  | succ n ih =>
    intro x3 x4
    rw [f_X12_move_171]
    refine sm_iload cx 2 dX12_move_171 rfl ?_
    refine sm_aload_n cx 0 dX12_move_173 rfl rfl ?_
    refine sm_getI cx fl_X12_108 dX12_move_174 (fun v174 => ?_)
    refine sm_icmp_ge (tgt := 320) cx dX12_move_177 (by decide) ?_ ?_
    · refine sm_iload_n cx 1 dX12_move_320 rfl rfl ?_
      exact sm_iret cx hr dX12_move_321
    · refine sm_aload_n cx 0 dX12_move_180 rfl rfl ?_
      refine sm_iload cx 2 dX12_move_181 rfl ?_
      refine sm_aload_n cx 0 dX12_move_183 rfl rfl ?_
      refine sm_iload cx 2 dX12_move_184 rfl ?_
      refine sm_callV (T := TX12) (N := 47) (toV := vI) cx [.int x4] rfl cv_X12_235 (fun a h => ct_X12_yesOf (xZ X) a h x4) (Nat.le_trans (by decide) hfr) (Nat.le_trans (by decide) hlo) rfl (cat_le _ (Nat.le_of_ble_eq_true rfl)) dX12_move_186 (fun v186 => ?_)
      refine sm_iconst (v := -1) cx dX12_move_189 (by decide) ?_
      refine sm_callV (T := TX12) (N := 47) (toV := vV) cx [.int x4, .int v186, .int (-1 : Int32)] rfl cv_X12_238 (fun a h => ct_X12_makes (xZ X) a h x4 v186 (-1 : Int32)) (Nat.le_trans (by decide) hfr) (Nat.le_trans (by decide) hlo) rfl (cat_le _ (Nat.le_of_ble_eq_true rfl)) dX12_move_190 (fun _ => ?_)
      refine sm_iconst (v := 0) cx dX12_move_193 (by decide) ?_
      refine sm_istore cx [(5, .int (0 : Int32)), (0, va_rf r0), (3, .int x3), (4, .int x4)] dX12_move_194 (by decide) rfl (nc1 rfl) rfl ?_
      exact sm_lv [1, 2, 3, 0] rfl (s_X12_move_196 cx hfr hlo hr r0 x4 ih fuL x3 (0 : Int32))
def f_X12_move_52 (r0 : Option Nat) (x1 : Int32) (x2 : Int32) : Nat → Int32 → Mo Int32
  | 0, _ => mf
  | n + 1, x3 => mb (gI 15 7 r0) (fun v54 => (if v54 ≤ x3 then mb (gR 15 1 r0) (fun v160 => mb (sI 1 v160 x1 x2) (fun _ => f_X12_move_171 r0 fuL (0 : Int32) (0 : Int32))) else mb (mo 15 r0 (f_X12_yesOf r0 x3)) (fun v64 => mb (mo 15 r0 (f_X12_makes r0 x3 v64 (-1 : Int32))) (fun _ => f_X12_move_74 (f_X12_move_52 r0 x1 x2 n) r0 x1 x2 x3 fuL (0 : Int32)))))
set_option maxRecDepth 100000 in
set_option maxHeartbeats 4000000 in
theorem s_X12_move_52 {X : Cg} (cx : Cx X cX12_move RX12 9) (hfr : 4 ≤ (xR X).frames) (hlo : 103 ≤ (xR X).locals) (hr : (xM X).sig.returnType = (some .int)) (r0 : Option Nat) (x1 : Int32) (x2 : Int32) : ∀ (n : Nat) (x3 : Int32), Sim X 9 (FiM X vI) 52 [(0, va_rf r0), (1, .int x1), (2, .int x2), (3, .int x3)] [] (f_X12_move_52 r0 x1 x2 n x3) := by
  intro n
  induction n with
  | zero =>
    intro _
    exact sm_mf
  | succ n ih =>
    intro x3
    rw [f_X12_move_52]
    refine sm_iload_n cx 3 dX12_move_52 rfl rfl ?_
    refine sm_aload_n cx 0 dX12_move_53 rfl rfl ?_
    refine sm_getI cx fl_X12_108 dX12_move_54 (fun v54 => ?_)
    refine sm_icmp_ge (tgt := 159) cx dX12_move_57 (by decide) ?_ ?_
    · refine sm_aload_n cx 0 dX12_move_159 rfl rfl ?_
      refine sm_getR cx fl_X12_9 dX12_move_160 (fun v160 => ?_)
      refine sm_iload_n cx 1 dX12_move_163 rfl rfl ?_
      refine sm_iload_n cx 2 dX12_move_164 rfl rfl ?_
      refine sm_iast cx dX12_move_165 ?_
      refine sm_iconst (v := 0) cx dX12_move_166 (by decide) ?_
      refine sm_istore_n cx [(3, .int (0 : Int32)), (0, va_rf r0), (1, .int x1), (2, .int x2)] dX12_move_167 rfl (by decide) rfl (nc1 rfl) rfl ?_
      refine sm_iconst (v := 0) cx dX12_move_168 (by decide) ?_
      refine sm_istore cx [(4, .int (0 : Int32)), (3, .int (0 : Int32)), (0, va_rf r0), (1, .int x1), (2, .int x2)] dX12_move_169 (by decide) rfl (nc1 rfl) rfl ?_
      exact sm_lv [2, 1, 0] rfl (s_X12_move_171 cx hfr hlo hr r0 fuL (0 : Int32) (0 : Int32))
    · refine sm_aload_n cx 0 dX12_move_60 rfl rfl ?_
      refine sm_iload_n cx 3 dX12_move_61 rfl rfl ?_
      refine sm_aload_n cx 0 dX12_move_62 rfl rfl ?_
      refine sm_iload_n cx 3 dX12_move_63 rfl rfl ?_
      refine sm_callV (T := TX12) (N := 47) (toV := vI) cx [.int x3] rfl cv_X12_235 (fun a h => ct_X12_yesOf (xZ X) a h x3) (Nat.le_trans (by decide) hfr) (Nat.le_trans (by decide) hlo) rfl (cat_le _ (Nat.le_of_ble_eq_true rfl)) dX12_move_64 (fun v64 => ?_)
      refine sm_iconst (v := -1) cx dX12_move_67 (by decide) ?_
      refine sm_callV (T := TX12) (N := 47) (toV := vV) cx [.int x3, .int v64, .int (-1 : Int32)] rfl cv_X12_238 (fun a h => ct_X12_makes (xZ X) a h x3 v64 (-1 : Int32)) (Nat.le_trans (by decide) hfr) (Nat.le_trans (by decide) hlo) rfl (cat_le _ (Nat.le_of_ble_eq_true rfl)) dX12_move_68 (fun _ => ?_)
      refine sm_iconst (v := 0) cx dX12_move_71 (by decide) ?_
      refine sm_istore cx [(4, .int (0 : Int32)), (0, va_rf r0), (1, .int x1), (2, .int x2), (3, .int x3)] dX12_move_72 (by decide) rfl (nc1 rfl) rfl ?_
      exact sm_lv [1, 2, 3, 4, 0] rfl (s_X12_move_74 cx hfr hlo hr r0 x1 x2 x3 ih fuL (0 : Int32))
def f_X12_move (r0 : Option Nat) (x1 : Int32) (x2 : Int32) : Mo Int32 := mb (pV 15 0 r0 (.int (0 : Int32))) (fun _ => mb (gI 15 3 r0) (fun v8 => mb (mo 15 r0 (f_X12_none r0 x1 v8)) (fun v11 => (if v11 = 0 then mb (gI 15 3 r0) (fun v20 => mb (mo 15 r0 (f_X12_none r0 x2 v20)) (fun v23 => (if v23 = 0 then (if x1 = 0 then f_X12_move_44 else mb (mo 15 r0 (f_X12_isBelow r0 x2 x1)) (fun v38 => (if v38 = 0 then mb (mo 15 r0 (f_X12_groupsAnew r0)) (fun _ => f_X12_move_52 r0 x1 x2 fuL (0 : Int32)) else f_X12_move_44))) else f_X12_move_29))) else f_X12_move_29))))
set_option maxRecDepth 100000 in
set_option maxHeartbeats 4000000 in
theorem s_X12_move {X : Cg} (cx : Cx X cX12_move RX12 9) (hfr : 4 ≤ (xR X).frames) (hlo : 103 ≤ (xR X).locals) (hr : (xM X).sig.returnType = (some .int)) (r0 : Option Nat) (x1 : Int32) (x2 : Int32) : Sim X 9 (FiM X vI) 0 [(0, va_rf r0), (1, .int x1), (2, .int x2)] [] (f_X12_move r0 x1 x2) := by
  unfold f_X12_move
  refine sm_aload_n cx 0 dX12_move_0 rfl rfl ?_
  refine sm_iconst (v := 0) cx dX12_move_1 (by decide) ?_
  refine sm_putV cx fl_X12_97 rfl rfl dX12_move_2 ?_
  refine sm_aload_n cx 0 dX12_move_5 rfl rfl ?_
  refine sm_iload_n cx 1 dX12_move_6 rfl rfl ?_
  refine sm_aload_n cx 0 dX12_move_7 rfl rfl ?_
  refine sm_getI cx fl_X12_94 dX12_move_8 (fun v8 => ?_)
  refine sm_callV (T := TX12) (N := 47) (toV := vI) cx [.int x1, .int v8] rfl cv_X12_100 (fun a h => ct_X12_none (xZ X) a h x1 v8) (Nat.le_trans (by decide) hfr) (Nat.le_trans (by decide) hlo) rfl (cat_le _ (Nat.le_of_ble_eq_true rfl)) dX12_move_11 (fun v11 => ?_)
  refine sm_if_ne (tgt := 29) cx dX12_move_14 (by decide) ?_ ?_
  · exact sm_lv [] rfl (s_X12_move_29 cx hfr hlo hr)
  · refine sm_aload_n cx 0 dX12_move_17 rfl rfl ?_
    refine sm_iload_n cx 2 dX12_move_18 rfl rfl ?_
    refine sm_aload_n cx 0 dX12_move_19 rfl rfl ?_
    refine sm_getI cx fl_X12_94 dX12_move_20 (fun v20 => ?_)
    refine sm_callV (T := TX12) (N := 47) (toV := vI) cx [.int x2, .int v20] rfl cv_X12_100 (fun a h => ct_X12_none (xZ X) a h x2 v20) (Nat.le_trans (by decide) hfr) (Nat.le_trans (by decide) hlo) rfl (cat_le _ (Nat.le_of_ble_eq_true rfl)) dX12_move_23 (fun v23 => ?_)
    refine sm_if_eq (tgt := 31) cx dX12_move_26 (by decide) ?_ ?_
    · refine sm_iload_n cx 1 dX12_move_31 rfl rfl ?_
      refine sm_if_eq (tgt := 44) cx dX12_move_32 (by decide) ?_ ?_
      · exact sm_lv [] rfl (s_X12_move_44 cx hfr hlo hr)
      · refine sm_aload_n cx 0 dX12_move_35 rfl rfl ?_
        refine sm_iload_n cx 2 dX12_move_36 rfl rfl ?_
        refine sm_iload_n cx 1 dX12_move_37 rfl rfl ?_
        refine sm_callV (T := TX12) (N := 47) (toV := vI) cx [.int x2, .int x1] rfl cv_X12_208 (fun a h => ct_X12_isBelow (xZ X) a h x2 x1) (Nat.le_trans (by decide) hfr) (Nat.le_trans (by decide) hlo) rfl (cat_le _ (Nat.le_of_ble_eq_true rfl)) dX12_move_38 (fun v38 => ?_)
        refine sm_if_eq (tgt := 46) cx dX12_move_41 (by decide) ?_ ?_
        · refine sm_aload_n cx 0 dX12_move_46 rfl rfl ?_
          refine sm_callV (T := TX12) (N := 47) (toV := vV) cx [] rfl cv_X12_232 (fun a h => ct_X12_groupsAnew (xZ X) a h) (Nat.le_trans (by decide) hfr) (Nat.le_trans (by decide) hlo) rfl (cat_le _ (Nat.le_of_ble_eq_true rfl)) dX12_move_47 (fun _ => ?_)
          refine sm_iconst (v := 0) cx dX12_move_50 (by decide) ?_
          refine sm_istore_n cx [(3, .int (0 : Int32)), (0, va_rf r0), (1, .int x1), (2, .int x2)] dX12_move_51 rfl (by decide) rfl (nc1 rfl) rfl ?_
          exact sm_lv [1, 2, 3, 0] rfl (s_X12_move_52 cx hfr hlo hr r0 x1 x2 fuL (0 : Int32))
        · exact sm_lv [] rfl (s_X12_move_44 cx hfr hlo hr)
    · exact sm_lv [] rfl (s_X12_move_29 cx hfr hlo hr)
set_option maxRecDepth 100000 in
set_option maxHeartbeats 4000000 in
theorem ct_X12_move (Z : Nat → Nat) {r0 : Option Nat} (a0 : Nat) (h0 : r0 = some a0) (x1 : Int32) (x2 : Int32) : Ct yX12_move cX12_move 9 (some .int) 4 103 Z [.ref a0, .int x1, .int x2] vI (f_X12_move r0 x1 x2) := by
  subst h0
  refine ct_of (lv0 := [(0, va_rf (some a0)), (1, .int x1), (2, .int x2)]) (by decide +kernel) (by simp [lg_sl, ct_i, ct_l, ct_r, rf_cat]) (by show _ = ([(0, Value.ref a0), (1, .int x1), (2, .int x2)] : List (Nat × Value)); simp [lv_args, ct_i, ct_l, ct_r, rf_cat]) (fun X cx hZ hfr hlo hr hin => ?_)
  subst hZ
  exact s_X12_move cx (Nat.le_of_eq hfr.symm) (Nat.le_of_eq hlo.symm) hr (some a0) x1 x2
/-! PolicyTreeModel.areUnlike(II)Z -/
theorem dX12_areUnlike_0 : decode cX12_areUnlike 0 = .ok (.aload_n 0, 1) := by decide +kernel
theorem dX12_areUnlike_1 : decode cX12_areUnlike 1 = .ok (.getfield 64, 3) := by decide +kernel
theorem dX12_areUnlike_4 : decode cX12_areUnlike 4 = .ok (.iload_n 1, 1) := by decide +kernel
theorem dX12_areUnlike_5 : decode cX12_areUnlike 5 = .ok (.baload, 1) := by decide +kernel
theorem dX12_areUnlike_6 : decode cX12_areUnlike 6 = .ok (.ifCond .ne 57, 3) := by decide +kernel
theorem dX12_areUnlike_9 : decode cX12_areUnlike 9 = .ok (.aload_n 0, 1) := by decide +kernel
theorem dX12_areUnlike_10 : decode cX12_areUnlike 10 = .ok (.getfield 64, 3) := by decide +kernel
theorem dX12_areUnlike_13 : decode cX12_areUnlike 13 = .ok (.iload_n 2, 1) := by decide +kernel
theorem dX12_areUnlike_14 : decode cX12_areUnlike 14 = .ok (.baload, 1) := by decide +kernel
theorem dX12_areUnlike_15 : decode cX12_areUnlike 15 = .ok (.ifCond .ne 48, 3) := by decide +kernel
theorem dX12_areUnlike_18 : decode cX12_areUnlike 18 = .ok (.aload_n 0, 1) := by decide +kernel
theorem dX12_areUnlike_19 : decode cX12_areUnlike 19 = .ok (.getfield 52, 3) := by decide +kernel
theorem dX12_areUnlike_22 : decode cX12_areUnlike 22 = .ok (.iload_n 1, 1) := by decide +kernel
theorem dX12_areUnlike_23 : decode cX12_areUnlike 23 = .ok (.iaload, 1) := by decide +kernel
theorem dX12_areUnlike_24 : decode cX12_areUnlike 24 = .ok (.aload_n 0, 1) := by decide +kernel
theorem dX12_areUnlike_25 : decode cX12_areUnlike 25 = .ok (.getfield 52, 3) := by decide +kernel
theorem dX12_areUnlike_28 : decode cX12_areUnlike 28 = .ok (.iload_n 2, 1) := by decide +kernel
theorem dX12_areUnlike_29 : decode cX12_areUnlike 29 = .ok (.iaload, 1) := by decide +kernel
theorem dX12_areUnlike_30 : decode cX12_areUnlike 30 = .ok (.if_icmp .ne 33, 3) := by decide +kernel
theorem dX12_areUnlike_33 : decode cX12_areUnlike 33 = .ok (.aload_n 0, 1) := by decide +kernel
theorem dX12_areUnlike_34 : decode cX12_areUnlike 34 = .ok (.getfield 61, 3) := by decide +kernel
theorem dX12_areUnlike_37 : decode cX12_areUnlike 37 = .ok (.iload_n 1, 1) := by decide +kernel
theorem dX12_areUnlike_38 : decode cX12_areUnlike 38 = .ok (.baload, 1) := by decide +kernel
theorem dX12_areUnlike_39 : decode cX12_areUnlike 39 = .ok (.aload_n 0, 1) := by decide +kernel
theorem dX12_areUnlike_40 : decode cX12_areUnlike 40 = .ok (.getfield 61, 3) := by decide +kernel
theorem dX12_areUnlike_43 : decode cX12_areUnlike 43 = .ok (.iload_n 2, 1) := by decide +kernel
theorem dX12_areUnlike_44 : decode cX12_areUnlike 44 = .ok (.baload, 1) := by decide +kernel
theorem dX12_areUnlike_45 : decode cX12_areUnlike 45 = .ok (.if_icmp .ne 18, 3) := by decide +kernel
theorem dX12_areUnlike_48 : decode cX12_areUnlike 48 = .ok (.aload_n 0, 1) := by decide +kernel
theorem dX12_areUnlike_49 : decode cX12_areUnlike 49 = .ok (.getfield 58, 3) := by decide +kernel
theorem dX12_areUnlike_52 : decode cX12_areUnlike 52 = .ok (.iload_n 1, 1) := by decide +kernel
theorem dX12_areUnlike_53 : decode cX12_areUnlike 53 = .ok (.iaload, 1) := by decide +kernel
theorem dX12_areUnlike_54 : decode cX12_areUnlike 54 = .ok (.aload_n 0, 1) := by decide +kernel
theorem dX12_areUnlike_55 : decode cX12_areUnlike 55 = .ok (.getfield 58, 3) := by decide +kernel
theorem dX12_areUnlike_58 : decode cX12_areUnlike 58 = .ok (.iload_n 2, 1) := by decide +kernel
theorem dX12_areUnlike_59 : decode cX12_areUnlike 59 = .ok (.iaload, 1) := by decide +kernel
theorem dX12_areUnlike_60 : decode cX12_areUnlike 60 = .ok (.if_icmp .eq 5, 3) := by decide +kernel
theorem dX12_areUnlike_63 : decode cX12_areUnlike 63 = .ok (.iconst 0, 1) := by decide +kernel
theorem dX12_areUnlike_64 : decode cX12_areUnlike 64 = .ok (.ireturn, 1) := by decide +kernel
theorem dX12_areUnlike_65 : decode cX12_areUnlike 65 = .ok (.iconst 0, 1) := by decide +kernel
theorem dX12_areUnlike_66 : decode cX12_areUnlike 66 = .ok (.istore_n 3, 1) := by decide +kernel
theorem dX12_areUnlike_67 : decode cX12_areUnlike 67 = .ok (.iload_n 3, 1) := by decide +kernel
theorem dX12_areUnlike_68 : decode cX12_areUnlike 68 = .ok (.bipush 12, 2) := by decide +kernel
theorem dX12_areUnlike_70 : decode cX12_areUnlike 70 = .ok (.if_icmp .ge 63, 3) := by decide +kernel
theorem dX12_areUnlike_73 : decode cX12_areUnlike 73 = .ok (.aload_n 0, 1) := by decide +kernel
theorem dX12_areUnlike_74 : decode cX12_areUnlike 74 = .ok (.getfield 35, 3) := by decide +kernel
theorem dX12_areUnlike_77 : decode cX12_areUnlike 77 = .ok (.iload_n 3, 1) := by decide +kernel
theorem dX12_areUnlike_78 : decode cX12_areUnlike 78 = .ok (.iaload, 1) := by decide +kernel
theorem dX12_areUnlike_79 : decode cX12_areUnlike 79 = .ok (.ifCond .ne 48, 3) := by decide +kernel
theorem dX12_areUnlike_82 : decode cX12_areUnlike 82 = .ok (.aload_n 0, 1) := by decide +kernel
theorem dX12_areUnlike_83 : decode cX12_areUnlike 83 = .ok (.aload_n 0, 1) := by decide +kernel
theorem dX12_areUnlike_84 : decode cX12_areUnlike 84 = .ok (.getfield 55, 3) := by decide +kernel
theorem dX12_areUnlike_87 : decode cX12_areUnlike 87 = .ok (.iload_n 1, 1) := by decide +kernel
theorem dX12_areUnlike_88 : decode cX12_areUnlike 88 = .ok (.iaload, 1) := by decide +kernel
theorem dX12_areUnlike_89 : decode cX12_areUnlike 89 = .ok (.iload_n 3, 1) := by decide +kernel
theorem dX12_areUnlike_90 : decode cX12_areUnlike 90 = .ok (.invokevirtual 125, 3) := by decide +kernel
theorem dX12_areUnlike_93 : decode cX12_areUnlike 93 = .ok (.ifCond .eq 34, 3) := by decide +kernel
theorem dX12_areUnlike_96 : decode cX12_areUnlike 96 = .ok (.aload_n 0, 1) := by decide +kernel
theorem dX12_areUnlike_97 : decode cX12_areUnlike 97 = .ok (.aload_n 0, 1) := by decide +kernel
theorem dX12_areUnlike_98 : decode cX12_areUnlike 98 = .ok (.getfield 55, 3) := by decide +kernel
theorem dX12_areUnlike_101 : decode cX12_areUnlike 101 = .ok (.iload_n 2, 1) := by decide +kernel
theorem dX12_areUnlike_102 : decode cX12_areUnlike 102 = .ok (.iaload, 1) := by decide +kernel
theorem dX12_areUnlike_103 : decode cX12_areUnlike 103 = .ok (.iload_n 3, 1) := by decide +kernel
theorem dX12_areUnlike_104 : decode cX12_areUnlike 104 = .ok (.invokevirtual 125, 3) := by decide +kernel
theorem dX12_areUnlike_107 : decode cX12_areUnlike 107 = .ok (.ifCond .eq 20, 3) := by decide +kernel
theorem dX12_areUnlike_110 : decode cX12_areUnlike 110 = .ok (.aload_n 0, 1) := by decide +kernel
theorem dX12_areUnlike_111 : decode cX12_areUnlike 111 = .ok (.iload_n 1, 1) := by decide +kernel
theorem dX12_areUnlike_112 : decode cX12_areUnlike 112 = .ok (.iload_n 3, 1) := by decide +kernel
theorem dX12_areUnlike_113 : decode cX12_areUnlike 113 = .ok (.invokevirtual 228, 3) := by decide +kernel
theorem dX12_areUnlike_116 : decode cX12_areUnlike 116 = .ok (.aload_n 0, 1) := by decide +kernel
theorem dX12_areUnlike_117 : decode cX12_areUnlike 117 = .ok (.iload_n 2, 1) := by decide +kernel
theorem dX12_areUnlike_118 : decode cX12_areUnlike 118 = .ok (.iload_n 3, 1) := by decide +kernel
theorem dX12_areUnlike_119 : decode cX12_areUnlike 119 = .ok (.invokevirtual 228, 3) := by decide +kernel
theorem dX12_areUnlike_122 : decode cX12_areUnlike 122 = .ok (.if_icmp .eq 5, 3) := by decide +kernel
theorem dX12_areUnlike_125 : decode cX12_areUnlike 125 = .ok (.iconst 1, 1) := by decide +kernel
theorem dX12_areUnlike_126 : decode cX12_areUnlike 126 = .ok (.ireturn, 1) := by decide +kernel
theorem dX12_areUnlike_127 : decode cX12_areUnlike 127 = .ok (.iinc 3 1, 3) := by decide +kernel
theorem dX12_areUnlike_130 : decode cX12_areUnlike 130 = .ok (.goto (-63), 3) := by decide +kernel
theorem dX12_areUnlike_133 : decode cX12_areUnlike 133 = .ok (.iconst 0, 1) := by decide +kernel
theorem dX12_areUnlike_134 : decode cX12_areUnlike 134 = .ok (.ireturn, 1) := by decide +kernel
def f_X12_areUnlike_63 : Mo Int32 := rz .boolean (0 : Int32)
set_option maxRecDepth 100000 in
set_option maxHeartbeats 4000000 in
theorem s_X12_areUnlike_63 {X : Cg} (cx : Cx X cX12_areUnlike RX12 4) (hfr : 1 ≤ (xR X).frames) (hlo : 22 ≤ (xR X).locals) (hr : (xM X).sig.returnType = (some .boolean)) : Sim X 4 (FiM X vI) 63 [] [] (f_X12_areUnlike_63) := by
  unfold f_X12_areUnlike_63
  refine sm_iconst (v := 0) cx dX12_areUnlike_63 (by decide) ?_
  exact sm_zret cx hr dX12_areUnlike_64
def f_X12_areUnlike_127 (k67 : Int32 → Mo Int32) (r0 : Option Nat) (x1 : Int32) (x2 : Int32) (x3 : Int32) : Mo Int32 := k67 (x3 + 1)
set_option maxRecDepth 100000 in
set_option maxHeartbeats 4000000 in
theorem s_X12_areUnlike_127 {X : Cg} (cx : Cx X cX12_areUnlike RX12 4) (hfr : 1 ≤ (xR X).frames) (hlo : 22 ≤ (xR X).locals) (hr : (xM X).sig.returnType = (some .boolean)) (r0 : Option Nat) (x1 : Int32) (x2 : Int32) (x3 : Int32) {k67 : Int32 → Mo Int32} (hk67 : ∀ (x3 : Int32), Sim X 4 (FiM X vI) 67 [(0, va_rf r0), (1, .int x1), (2, .int x2), (3, .int x3)] [] (k67 x3)) : Sim X 4 (FiM X vI) 127 [(0, va_rf r0), (1, .int x1), (2, .int x2), (3, .int x3)] [] (f_X12_areUnlike_127 k67 r0 x1 x2 x3) := by
  unfold f_X12_areUnlike_127
  refine sm_iinc cx 3 [(3, .int (x3 + 1)), (0, va_rf r0), (1, .int x1), (2, .int x2)] dX12_areUnlike_127 rfl rfl (by decide) rfl (nc1 rfl) rfl ?_
  refine sm_goto (tgt := 67) cx dX12_areUnlike_130 (by decide) ?_
  exact sm_lv [1, 2, 3, 0] rfl (hk67 (x3 + 1))
def f_X12_areUnlike_67 (r0 : Option Nat) (x1 : Int32) (x2 : Int32) : Nat → Int32 → Mo Int32
  | 0, _ => mf
  | n + 1, x3 => (if (12 : Int32) ≤ x3 then rz .boolean (0 : Int32) else mb (gR 15 13 r0) (fun v74 => mb (aI 1 v74 x3) (fun v78 => (if v78 = 0 then mb (gR 15 25 r0) (fun v84 => mb (aI 1 v84 x1) (fun v88 => mb (mo 15 r0 (f_X12_tells r0 v88 x3)) (fun v90 => (if v90 = 0 then f_X12_areUnlike_127 (f_X12_areUnlike_67 r0 x1 x2 n) r0 x1 x2 x3 else mb (gR 15 25 r0) (fun v98 => mb (aI 1 v98 x2) (fun v102 => mb (mo 15 r0 (f_X12_tells r0 v102 x3)) (fun v104 => (if v104 = 0 then f_X12_areUnlike_127 (f_X12_areUnlike_67 r0 x1 x2 n) r0 x1 x2 x3 else mb (mo 15 r0 (f_X12_valueOf r0 x1 x3)) (fun v113 => mb (mo 15 r0 (f_X12_valueOf r0 x2 x3)) (fun v119 => (if v113 = v119 then f_X12_areUnlike_127 (f_X12_areUnlike_67 r0 x1 x2 n) r0 x1 x2 x3 else rz .boolean (1 : Int32)))))))))))) else f_X12_areUnlike_127 (f_X12_areUnlike_67 r0 x1 x2 n) r0 x1 x2 x3))))
set_option maxRecDepth 100000 in
set_option maxHeartbeats 4000000 in
theorem s_X12_areUnlike_67 {X : Cg} (cx : Cx X cX12_areUnlike RX12 4) (hfr : 1 ≤ (xR X).frames) (hlo : 22 ≤ (xR X).locals) (hr : (xM X).sig.returnType = (some .boolean)) (r0 : Option Nat) (x1 : Int32) (x2 : Int32) : ∀ (n : Nat) (x3 : Int32), Sim X 4 (FiM X vI) 67 [(0, va_rf r0), (1, .int x1), (2, .int x2), (3, .int x3)] [] (f_X12_areUnlike_67 r0 x1 x2 n x3) := by
  intro n
  induction n with
  | zero =>
    intro _
    exact sm_mf
  | succ n ih =>
    intro x3
    rw [f_X12_areUnlike_67]
    refine sm_iload_n cx 3 dX12_areUnlike_67 rfl rfl ?_
    refine sm_bipush (v := 12) cx dX12_areUnlike_68 (by decide) ?_
    refine sm_icmp_ge (tgt := 133) cx dX12_areUnlike_70 (by decide) ?_ ?_
    · refine sm_iconst (v := 0) cx dX12_areUnlike_133 (by decide) ?_
      exact sm_zret cx hr dX12_areUnlike_134
    · refine sm_aload_n cx 0 dX12_areUnlike_73 rfl rfl ?_
      refine sm_getR cx fl_X12_35 dX12_areUnlike_74 (fun v74 => ?_)
      refine sm_iload_n cx 3 dX12_areUnlike_77 rfl rfl ?_
      refine sm_iald cx dX12_areUnlike_78 (fun v78 => ?_)
      refine sm_if_ne (tgt := 127) cx dX12_areUnlike_79 (by decide) ?_ ?_
      · exact sm_lv [0, 1, 2, 3] rfl (s_X12_areUnlike_127 cx hfr hlo hr r0 x1 x2 x3 ih)
      · refine sm_aload_n cx 0 dX12_areUnlike_82 rfl rfl ?_
        refine sm_aload_n cx 0 dX12_areUnlike_83 rfl rfl ?_
        refine sm_getR cx fl_X12_55 dX12_areUnlike_84 (fun v84 => ?_)
        refine sm_iload_n cx 1 dX12_areUnlike_87 rfl rfl ?_
        refine sm_iald cx dX12_areUnlike_88 (fun v88 => ?_)
        refine sm_iload_n cx 3 dX12_areUnlike_89 rfl rfl ?_
        refine sm_callV (T := TX12) (N := 47) (toV := vI) cx [.int v88, .int x3] rfl cv_X12_125 (fun a h => ct_X12_tells (xZ X) a h v88 x3) (Nat.le_trans (by decide) hfr) (Nat.le_trans (by decide) hlo) rfl (cat_le _ (Nat.le_of_ble_eq_true rfl)) dX12_areUnlike_90 (fun v90 => ?_)
        refine sm_if_eq (tgt := 127) cx dX12_areUnlike_93 (by decide) ?_ ?_
        · exact sm_lv [0, 1, 2, 3] rfl (s_X12_areUnlike_127 cx hfr hlo hr r0 x1 x2 x3 ih)
        · refine sm_aload_n cx 0 dX12_areUnlike_96 rfl rfl ?_
          refine sm_aload_n cx 0 dX12_areUnlike_97 rfl rfl ?_
          refine sm_getR cx fl_X12_55 dX12_areUnlike_98 (fun v98 => ?_)
          refine sm_iload_n cx 2 dX12_areUnlike_101 rfl rfl ?_
          refine sm_iald cx dX12_areUnlike_102 (fun v102 => ?_)
          refine sm_iload_n cx 3 dX12_areUnlike_103 rfl rfl ?_
          refine sm_callV (T := TX12) (N := 47) (toV := vI) cx [.int v102, .int x3] rfl cv_X12_125 (fun a h => ct_X12_tells (xZ X) a h v102 x3) (Nat.le_trans (by decide) hfr) (Nat.le_trans (by decide) hlo) rfl (cat_le _ (Nat.le_of_ble_eq_true rfl)) dX12_areUnlike_104 (fun v104 => ?_)
          refine sm_if_eq (tgt := 127) cx dX12_areUnlike_107 (by decide) ?_ ?_
          · exact sm_lv [0, 1, 2, 3] rfl (s_X12_areUnlike_127 cx hfr hlo hr r0 x1 x2 x3 ih)
          · refine sm_aload_n cx 0 dX12_areUnlike_110 rfl rfl ?_
            refine sm_iload_n cx 1 dX12_areUnlike_111 rfl rfl ?_
            refine sm_iload_n cx 3 dX12_areUnlike_112 rfl rfl ?_
            refine sm_callV (T := TX12) (N := 47) (toV := vI) cx [.int x1, .int x3] rfl cv_X12_228 (fun a h => ct_X12_valueOf (xZ X) a h x1 x3) (Nat.le_trans (by decide) hfr) (Nat.le_trans (by decide) hlo) rfl (cat_le _ (Nat.le_of_ble_eq_true rfl)) dX12_areUnlike_113 (fun v113 => ?_)
            refine sm_aload_n cx 0 dX12_areUnlike_116 rfl rfl ?_
            refine sm_iload_n cx 2 dX12_areUnlike_117 rfl rfl ?_
            refine sm_iload_n cx 3 dX12_areUnlike_118 rfl rfl ?_
            refine sm_callV (T := TX12) (N := 47) (toV := vI) cx [.int x2, .int x3] rfl cv_X12_228 (fun a h => ct_X12_valueOf (xZ X) a h x2 x3) (Nat.le_trans (by decide) hfr) (Nat.le_trans (by decide) hlo) rfl (cat_le _ (Nat.le_of_ble_eq_true rfl)) dX12_areUnlike_119 (fun v119 => ?_)
            refine sm_icmp_eq (tgt := 127) cx dX12_areUnlike_122 (by decide) ?_ ?_
            · exact sm_lv [0, 1, 2, 3] rfl (s_X12_areUnlike_127 cx hfr hlo hr r0 x1 x2 x3 ih)
            · refine sm_iconst (v := 1) cx dX12_areUnlike_125 (by decide) ?_
              exact sm_zret cx hr dX12_areUnlike_126
def f_X12_areUnlike (r0 : Option Nat) (x1 : Int32) (x2 : Int32) : Mo Int32 := mb (gR 15 28 r0) (fun v1 => mb (aI 3 v1 x1) (fun v5 => (if v5 = 0 then mb (gR 15 28 r0) (fun v10 => mb (aI 3 v10 x2) (fun v14 => (if v14 = 0 then mb (gR 15 24 r0) (fun v19 => mb (aI 1 v19 x1) (fun v23 => mb (gR 15 24 r0) (fun v25 => mb (aI 1 v25 x2) (fun v29 => (if v23 = v29 then mb (gR 15 27 r0) (fun v34 => mb (aI 3 v34 x1) (fun v38 => mb (gR 15 27 r0) (fun v40 => mb (aI 3 v40 x2) (fun v44 => (if v38 = v44 then mb (gR 15 26 r0) (fun v49 => mb (aI 1 v49 x1) (fun v53 => mb (gR 15 26 r0) (fun v55 => mb (aI 1 v55 x2) (fun v59 => (if v53 = v59 then f_X12_areUnlike_67 r0 x1 x2 fuL (0 : Int32) else f_X12_areUnlike_63))))) else f_X12_areUnlike_63))))) else f_X12_areUnlike_63))))) else f_X12_areUnlike_63))) else f_X12_areUnlike_63)))
set_option maxRecDepth 100000 in
set_option maxHeartbeats 4000000 in
theorem s_X12_areUnlike {X : Cg} (cx : Cx X cX12_areUnlike RX12 4) (hfr : 1 ≤ (xR X).frames) (hlo : 22 ≤ (xR X).locals) (hr : (xM X).sig.returnType = (some .boolean)) (r0 : Option Nat) (x1 : Int32) (x2 : Int32) : Sim X 4 (FiM X vI) 0 [(0, va_rf r0), (1, .int x1), (2, .int x2)] [] (f_X12_areUnlike r0 x1 x2) := by
  unfold f_X12_areUnlike
  refine sm_aload_n cx 0 dX12_areUnlike_0 rfl rfl ?_
  refine sm_getR cx fl_X12_64 dX12_areUnlike_1 (fun v1 => ?_)
  refine sm_iload_n cx 1 dX12_areUnlike_4 rfl rfl ?_
  refine sm_zald cx dX12_areUnlike_5 (fun v5 => ?_)
  refine sm_if_ne (tgt := 63) cx dX12_areUnlike_6 (by decide) ?_ ?_
  · exact sm_lv [] rfl (s_X12_areUnlike_63 cx hfr hlo hr)
  · refine sm_aload_n cx 0 dX12_areUnlike_9 rfl rfl ?_
    refine sm_getR cx fl_X12_64 dX12_areUnlike_10 (fun v10 => ?_)
    refine sm_iload_n cx 2 dX12_areUnlike_13 rfl rfl ?_
    refine sm_zald cx dX12_areUnlike_14 (fun v14 => ?_)
    refine sm_if_ne (tgt := 63) cx dX12_areUnlike_15 (by decide) ?_ ?_
    · exact sm_lv [] rfl (s_X12_areUnlike_63 cx hfr hlo hr)
    · refine sm_aload_n cx 0 dX12_areUnlike_18 rfl rfl ?_
      refine sm_getR cx fl_X12_52 dX12_areUnlike_19 (fun v19 => ?_)
      refine sm_iload_n cx 1 dX12_areUnlike_22 rfl rfl ?_
      refine sm_iald cx dX12_areUnlike_23 (fun v23 => ?_)
      refine sm_aload_n cx 0 dX12_areUnlike_24 rfl rfl ?_
      refine sm_getR cx fl_X12_52 dX12_areUnlike_25 (fun v25 => ?_)
      refine sm_iload_n cx 2 dX12_areUnlike_28 rfl rfl ?_
      refine sm_iald cx dX12_areUnlike_29 (fun v29 => ?_)
      refine sm_icmp_ne (tgt := 63) cx dX12_areUnlike_30 (by decide) ?_ ?_
      · exact sm_lv [] rfl (s_X12_areUnlike_63 cx hfr hlo hr)
      · refine sm_aload_n cx 0 dX12_areUnlike_33 rfl rfl ?_
        refine sm_getR cx fl_X12_61 dX12_areUnlike_34 (fun v34 => ?_)
        refine sm_iload_n cx 1 dX12_areUnlike_37 rfl rfl ?_
        refine sm_zald cx dX12_areUnlike_38 (fun v38 => ?_)
        refine sm_aload_n cx 0 dX12_areUnlike_39 rfl rfl ?_
        refine sm_getR cx fl_X12_61 dX12_areUnlike_40 (fun v40 => ?_)
        refine sm_iload_n cx 2 dX12_areUnlike_43 rfl rfl ?_
        refine sm_zald cx dX12_areUnlike_44 (fun v44 => ?_)
        refine sm_icmp_ne (tgt := 63) cx dX12_areUnlike_45 (by decide) ?_ ?_
        · exact sm_lv [] rfl (s_X12_areUnlike_63 cx hfr hlo hr)
        · refine sm_aload_n cx 0 dX12_areUnlike_48 rfl rfl ?_
          refine sm_getR cx fl_X12_58 dX12_areUnlike_49 (fun v49 => ?_)
          refine sm_iload_n cx 1 dX12_areUnlike_52 rfl rfl ?_
          refine sm_iald cx dX12_areUnlike_53 (fun v53 => ?_)
          refine sm_aload_n cx 0 dX12_areUnlike_54 rfl rfl ?_
          refine sm_getR cx fl_X12_58 dX12_areUnlike_55 (fun v55 => ?_)
          refine sm_iload_n cx 2 dX12_areUnlike_58 rfl rfl ?_
          refine sm_iald cx dX12_areUnlike_59 (fun v59 => ?_)
          refine sm_icmp_eq (tgt := 65) cx dX12_areUnlike_60 (by decide) ?_ ?_
          · refine sm_iconst (v := 0) cx dX12_areUnlike_65 (by decide) ?_
            refine sm_istore_n cx [(3, .int (0 : Int32)), (0, va_rf r0), (1, .int x1), (2, .int x2)] dX12_areUnlike_66 rfl (by decide) rfl (nc1 rfl) rfl ?_
            exact sm_lv [1, 2, 3, 0] rfl (s_X12_areUnlike_67 cx hfr hlo hr r0 x1 x2 fuL (0 : Int32))
          · exact sm_lv [] rfl (s_X12_areUnlike_63 cx hfr hlo hr)
set_option maxRecDepth 100000 in
set_option maxHeartbeats 4000000 in
theorem ct_X12_areUnlike (Z : Nat → Nat) {r0 : Option Nat} (a0 : Nat) (h0 : r0 = some a0) (x1 : Int32) (x2 : Int32) : Ct yX12_areUnlike cX12_areUnlike 4 (some .boolean) 1 22 Z [.ref a0, .int x1, .int x2] vI (f_X12_areUnlike r0 x1 x2) := by
  subst h0
  refine ct_of (lv0 := [(0, va_rf (some a0)), (1, .int x1), (2, .int x2)]) (by decide +kernel) (by simp [lg_sl, ct_i, ct_l, ct_r, rf_cat]) (by show _ = ([(0, Value.ref a0), (1, .int x1), (2, .int x2)] : List (Nat × Value)); simp [lv_args, ct_i, ct_l, ct_r, rf_cat]) (fun X cx hZ hfr hlo hr hin => ?_)
  subst hZ
  exact s_X12_areUnlike cx (Nat.le_of_eq hfr.symm) (Nat.le_of_eq hlo.symm) hr (some a0) x1 x2
/-! PolicyTreeModel.looks(I)I -/
theorem dX12_looks_0 : decode cX12_looks 0 = .ok (.iconst 0, 1) := by decide +kernel
theorem dX12_looks_1 : decode cX12_looks 1 = .ok (.istore_n 2, 1) := by decide +kernel
theorem dX12_looks_2 : decode cX12_looks 2 = .ok (.iconst 0, 1) := by decide +kernel
theorem dX12_looks_3 : decode cX12_looks 3 = .ok (.istore_n 3, 1) := by decide +kernel
theorem dX12_looks_4 : decode cX12_looks 4 = .ok (.iload_n 3, 1) := by decide +kernel
theorem dX12_looks_5 : decode cX12_looks 5 = .ok (.aload_n 0, 1) := by decide +kernel
theorem dX12_looks_6 : decode cX12_looks 6 = .ok (.getfield 205, 3) := by decide +kernel
theorem dX12_looks_9 : decode cX12_looks 9 = .ok (.if_icmp .ge 65, 3) := by decide +kernel
theorem dX12_looks_12 : decode cX12_looks 12 = .ok (.iload_n 3, 1) := by decide +kernel
theorem dX12_looks_13 : decode cX12_looks 13 = .ok (.iconst 1, 1) := by decide +kernel
theorem dX12_looks_14 : decode cX12_looks 14 = .ok (.iadd, 1) := by decide +kernel
theorem dX12_looks_15 : decode cX12_looks 15 = .ok (.istore 4, 2) := by decide +kernel
theorem dX12_looks_17 : decode cX12_looks 17 = .ok (.iload 4, 2) := by decide +kernel
theorem dX12_looks_19 : decode cX12_looks 19 = .ok (.aload_n 0, 1) := by decide +kernel
theorem dX12_looks_20 : decode cX12_looks 20 = .ok (.getfield 205, 3) := by decide +kernel
theorem dX12_looks_23 : decode cX12_looks 23 = .ok (.if_icmp .ge 45, 3) := by decide +kernel
theorem dX12_looks_26 : decode cX12_looks 26 = .ok (.aload_n 0, 1) := by decide +kernel
theorem dX12_looks_27 : decode cX12_looks 27 = .ok (.iload_n 3, 1) := by decide +kernel
theorem dX12_looks_28 : decode cX12_looks 28 = .ok (.iload 4, 2) := by decide +kernel
theorem dX12_looks_30 : decode cX12_looks 30 = .ok (.invokevirtual 267, 3) := by decide +kernel
theorem dX12_looks_33 : decode cX12_looks 33 = .ok (.ifCond .ne 6, 3) := by decide +kernel
theorem dX12_looks_36 : decode cX12_looks 36 = .ok (.goto 26, 3) := by decide +kernel
theorem dX12_looks_39 : decode cX12_looks 39 = .ok (.aload_n 0, 1) := by decide +kernel
theorem dX12_looks_40 : decode cX12_looks 40 = .ok (.iload_n 3, 1) := by decide +kernel
theorem dX12_looks_41 : decode cX12_looks 41 = .ok (.putfield 270, 3) := by decide +kernel
theorem dX12_looks_44 : decode cX12_looks 44 = .ok (.aload_n 0, 1) := by decide +kernel
theorem dX12_looks_45 : decode cX12_looks 45 = .ok (.iload 4, 2) := by decide +kernel
theorem dX12_looks_47 : decode cX12_looks 47 = .ok (.putfield 272, 3) := by decide +kernel
theorem dX12_looks_50 : decode cX12_looks 50 = .ok (.iinc 2 1, 3) := by decide +kernel
theorem dX12_looks_53 : decode cX12_looks 53 = .ok (.iload_n 2, 1) := by decide +kernel
theorem dX12_looks_54 : decode cX12_looks 54 = .ok (.iload_n 1, 1) := by decide +kernel
theorem dX12_looks_55 : decode cX12_looks 55 = .ok (.iconst 1, 1) := by decide +kernel
theorem dX12_looks_56 : decode cX12_looks 56 = .ok (.iadd, 1) := by decide +kernel
theorem dX12_looks_57 : decode cX12_looks 57 = .ok (.if_icmp .ne 5, 3) := by decide +kernel
theorem dX12_looks_60 : decode cX12_looks 60 = .ok (.iload_n 2, 1) := by decide +kernel
theorem dX12_looks_61 : decode cX12_looks 61 = .ok (.ireturn, 1) := by decide +kernel
theorem dX12_looks_62 : decode cX12_looks 62 = .ok (.iinc 4 1, 3) := by decide +kernel
theorem dX12_looks_65 : decode cX12_looks 65 = .ok (.goto (-48), 3) := by decide +kernel
theorem dX12_looks_68 : decode cX12_looks 68 = .ok (.iinc 3 1, 3) := by decide +kernel
theorem dX12_looks_71 : decode cX12_looks 71 = .ok (.goto (-67), 3) := by decide +kernel
theorem dX12_looks_74 : decode cX12_looks 74 = .ok (.iload_n 2, 1) := by decide +kernel
theorem dX12_looks_75 : decode cX12_looks 75 = .ok (.ireturn, 1) := by decide +kernel
def f_X12_looks_62 (k4 : Int32 → Int32 → Mo Int32) (k17 : Int32 → Int32 → Mo Int32) (r0 : Option Nat) (x1 : Int32) (x2 : Int32) (x3 : Int32) (x4 : Int32) : Mo Int32 := k17 x2 (x4 + 1)
set_option maxRecDepth 100000 in
set_option maxHeartbeats 4000000 in
theorem s_X12_looks_62 {X : Cg} (cx : Cx X cX12_looks RX12 5) (hfr : 2 ≤ (xR X).frames) (hlo : 45 ≤ (xR X).locals) (hr : (xM X).sig.returnType = (some .int)) (r0 : Option Nat) (x1 : Int32) (x2 : Int32) (x3 : Int32) (x4 : Int32) {k4 : Int32 → Int32 → Mo Int32} (hk4 : ∀ (x2 : Int32) (x3 : Int32), Sim X 5 (FiM X vI) 4 [(0, va_rf r0), (1, .int x1), (2, .int x2), (3, .int x3)] [] (k4 x2 x3)) {k17 : Int32 → Int32 → Mo Int32} (hk17 : ∀ (x2 : Int32) (x4 : Int32), Sim X 5 (FiM X vI) 17 [(0, va_rf r0), (1, .int x1), (2, .int x2), (3, .int x3), (4, .int x4)] [] (k17 x2 x4)) : Sim X 5 (FiM X vI) 62 [(0, va_rf r0), (1, .int x1), (2, .int x2), (3, .int x3), (4, .int x4)] [] (f_X12_looks_62 k4 k17 r0 x1 x2 x3 x4) := by
  unfold f_X12_looks_62
  refine sm_iinc cx 4 [(4, .int (x4 + 1)), (0, va_rf r0), (1, .int x1), (2, .int x2), (3, .int x3)] dX12_looks_62 rfl rfl (by decide) rfl (nc1 rfl) rfl ?_
  refine sm_goto (tgt := 17) cx dX12_looks_65 (by decide) ?_
  exact sm_lv [1, 2, 3, 4, 0] rfl (hk17 x2 (x4 + 1))
def f_X12_looks_17 (k4 : Int32 → Int32 → Mo Int32) (r0 : Option Nat) (x1 : Int32) (x3 : Int32) : Nat → Int32 → Int32 → Mo Int32
  | 0, _, _ => mf
  | n + 1, x2, x4 => mb (gI 15 32 r0) (fun v20 => (if v20 ≤ x4 then k4 x2 (x3 + 1) else mb (mo 15 r0 (f_X12_areUnlike r0 x3 x4)) (fun v30 => (if v30 = 0 then f_X12_looks_62 k4 (f_X12_looks_17 k4 r0 x1 x3 n) r0 x1 x2 x3 x4 else mb (pV 15 45 r0 (.int x3)) (fun _ => mb (pV 15 46 r0 (.int x4)) (fun _ => (if (x2 + 1) = (x1 + (1 : Int32)) then mp (x2 + 1) else f_X12_looks_62 k4 (f_X12_looks_17 k4 r0 x1 x3 n) r0 x1 (x2 + 1) x3 x4)))))))
set_option maxRecDepth 100000 in
set_option maxHeartbeats 4000000 in
theorem s_X12_looks_17 {X : Cg} (cx : Cx X cX12_looks RX12 5) (hfr : 2 ≤ (xR X).frames) (hlo : 45 ≤ (xR X).locals) (hr : (xM X).sig.returnType = (some .int)) (r0 : Option Nat) (x1 : Int32) (x3 : Int32) {k4 : Int32 → Int32 → Mo Int32} (hk4 : ∀ (x2 : Int32) (x3 : Int32), Sim X 5 (FiM X vI) 4 [(0, va_rf r0), (1, .int x1), (2, .int x2), (3, .int x3)] [] (k4 x2 x3)) : ∀ (n : Nat) (x2 : Int32) (x4 : Int32), Sim X 5 (FiM X vI) 17 [(0, va_rf r0), (1, .int x1), (2, .int x2), (3, .int x3), (4, .int x4)] [] (f_X12_looks_17 k4 r0 x1 x3 n x2 x4) := by
  intro n
  induction n with
  | zero =>
    intro _ _
    exact sm_mf
  | succ n ih =>
    intro x2 x4
    rw [f_X12_looks_17]
    refine sm_iload cx 4 dX12_looks_17 rfl ?_
    refine sm_aload_n cx 0 dX12_looks_19 rfl rfl ?_
    refine sm_getI cx fl_X12_205 dX12_looks_20 (fun v20 => ?_)
    refine sm_icmp_ge (tgt := 68) cx dX12_looks_23 (by decide) ?_ ?_
    · refine sm_iinc cx 3 [(3, .int (x3 + 1)), (0, va_rf r0), (1, .int x1), (2, .int x2), (4, .int x4)] dX12_looks_68 rfl rfl (by decide) rfl (nc1 rfl) rfl ?_
      refine sm_goto (tgt := 4) cx dX12_looks_71 (by decide) ?_
      exact sm_lv [1, 2, 3, 0] rfl (hk4 x2 (x3 + 1))
    · refine sm_aload_n cx 0 dX12_looks_26 rfl rfl ?_
      refine sm_iload_n cx 3 dX12_looks_27 rfl rfl ?_
      refine sm_iload cx 4 dX12_looks_28 rfl ?_
      refine sm_callV (T := TX12) (N := 47) (toV := vI) cx [.int x3, .int x4] rfl cv_X12_267 (fun a h => ct_X12_areUnlike (xZ X) a h x3 x4) (Nat.le_trans (by decide) hfr) (Nat.le_trans (by decide) hlo) rfl (cat_le _ (Nat.le_of_ble_eq_true rfl)) dX12_looks_30 (fun v30 => ?_)
      refine sm_if_ne (tgt := 39) cx dX12_looks_33 (by decide) ?_ ?_
      · refine sm_aload_n cx 0 dX12_looks_39 rfl rfl ?_
        refine sm_iload_n cx 3 dX12_looks_40 rfl rfl ?_
        refine sm_putV cx fl_X12_270 rfl rfl dX12_looks_41 ?_
        refine sm_aload_n cx 0 dX12_looks_44 rfl rfl ?_
        refine sm_iload cx 4 dX12_looks_45 rfl ?_
        refine sm_putV cx fl_X12_272 rfl rfl dX12_looks_47 ?_
        refine sm_iinc cx 2 [(2, .int (x2 + 1)), (0, va_rf r0), (1, .int x1), (3, .int x3), (4, .int x4)] dX12_looks_50 rfl rfl (by decide) rfl (nc1 rfl) rfl ?_
        refine sm_iload_n cx 0 dX12_looks_53 rfl rfl ?_
        refine sm_iload_n cx 2 dX12_looks_54 rfl rfl ?_
        refine sm_iconst (v := 1) cx dX12_looks_55 (by decide) ?_
        refine sm_iadd cx dX12_looks_56 ?_
        refine sm_icmp_ne (tgt := 62) cx dX12_looks_57 (by decide) ?_ ?_
        · exact sm_lv [1, 2, 0, 3, 4] rfl (s_X12_looks_62 cx hfr hlo hr r0 x1 (x2 + 1) x3 x4 hk4 ih)
        · refine sm_iload_n cx 0 dX12_looks_60 rfl rfl ?_
          exact sm_iret cx hr dX12_looks_61
      · refine sm_goto (tgt := 62) cx dX12_looks_36 (by decide) ?_
        exact sm_lv [0, 1, 2, 3, 4] rfl (s_X12_looks_62 cx hfr hlo hr r0 x1 x2 x3 x4 hk4 ih)
def f_X12_looks_4 (r0 : Option Nat) (x1 : Int32) : Nat → Int32 → Int32 → Mo Int32
  | 0, _, _ => mf
  | n + 1, x2, x3 => mb (gI 15 32 r0) (fun v6 => (if v6 ≤ x3 then mp x2 else f_X12_looks_17 (f_X12_looks_4 r0 x1 n) r0 x1 x3 fuL x2 (x3 + (1 : Int32))))
set_option maxRecDepth 100000 in
set_option maxHeartbeats 4000000 in
theorem s_X12_looks_4 {X : Cg} (cx : Cx X cX12_looks RX12 5) (hfr : 2 ≤ (xR X).frames) (hlo : 45 ≤ (xR X).locals) (hr : (xM X).sig.returnType = (some .int)) (r0 : Option Nat) (x1 : Int32) : ∀ (n : Nat) (x2 : Int32) (x3 : Int32), Sim X 5 (FiM X vI) 4 [(0, va_rf r0), (1, .int x1), (2, .int x2), (3, .int x3)] [] (f_X12_looks_4 r0 x1 n x2 x3) := by
  intro n
  induction n with
  | zero =>
    intro _ _
    exact sm_mf
  | succ n ih =>
    intro x2 x3
    rw [f_X12_looks_4]
    refine sm_iload_n cx 3 dX12_looks_4 rfl rfl ?_
    refine sm_aload_n cx 0 dX12_looks_5 rfl rfl ?_
    refine sm_getI cx fl_X12_205 dX12_looks_6 (fun v6 => ?_)
    refine sm_icmp_ge (tgt := 74) cx dX12_looks_9 (by decide) ?_ ?_
    · refine sm_iload_n cx 2 dX12_looks_74 rfl rfl ?_
      exact sm_iret cx hr dX12_looks_75
    · refine sm_iload_n cx 3 dX12_looks_12 rfl rfl ?_
      refine sm_iconst (v := 1) cx dX12_looks_13 (by decide) ?_
      refine sm_iadd cx dX12_looks_14 ?_
      refine sm_istore cx [(4, .int (x3 + (1 : Int32))), (0, va_rf r0), (1, .int x1), (2, .int x2), (3, .int x3)] dX12_looks_15 (by decide) rfl (nc1 rfl) rfl ?_
      exact sm_lv [1, 2, 3, 4, 0] rfl (s_X12_looks_17 cx hfr hlo hr r0 x1 x3 ih fuL x2 (x3 + (1 : Int32)))
def f_X12_looks (r0 : Option Nat) (x1 : Int32) : Mo Int32 := f_X12_looks_4 r0 x1 fuL (0 : Int32) (0 : Int32)
set_option maxRecDepth 100000 in
set_option maxHeartbeats 4000000 in
theorem s_X12_looks {X : Cg} (cx : Cx X cX12_looks RX12 5) (hfr : 2 ≤ (xR X).frames) (hlo : 45 ≤ (xR X).locals) (hr : (xM X).sig.returnType = (some .int)) (r0 : Option Nat) (x1 : Int32) : Sim X 5 (FiM X vI) 0 [(0, va_rf r0), (1, .int x1)] [] (f_X12_looks r0 x1) := by
  unfold f_X12_looks
  refine sm_iconst (v := 0) cx dX12_looks_0 (by decide) ?_
  refine sm_istore_n cx [(2, .int (0 : Int32)), (0, va_rf r0), (1, .int x1)] dX12_looks_1 rfl (by decide) rfl (nc1 rfl) rfl ?_
  refine sm_iconst (v := 0) cx dX12_looks_2 (by decide) ?_
  refine sm_istore_n cx [(3, .int (0 : Int32)), (2, .int (0 : Int32)), (0, va_rf r0), (1, .int x1)] dX12_looks_3 rfl (by decide) rfl (nc1 rfl) rfl ?_
  exact sm_lv [2, 3, 1, 0] rfl (s_X12_looks_4 cx hfr hlo hr r0 x1 fuL (0 : Int32) (0 : Int32))
set_option maxRecDepth 100000 in
set_option maxHeartbeats 4000000 in
theorem ct_X12_looks (Z : Nat → Nat) {r0 : Option Nat} (a0 : Nat) (h0 : r0 = some a0) (x1 : Int32) : Ct yX12_looks cX12_looks 5 (some .int) 2 45 Z [.ref a0, .int x1] vI (f_X12_looks r0 x1) := by
  subst h0
  refine ct_of (lv0 := [(0, va_rf (some a0)), (1, .int x1)]) (by decide +kernel) (by simp [lg_sl, ct_i, ct_l, ct_r, rf_cat]) (by show _ = ([(0, Value.ref a0), (1, .int x1)] : List (Nat × Value)); simp [lv_args, ct_i, ct_l, ct_r, rf_cat]) (fun X cx hZ hfr hlo hr hin => ?_)
  subst hZ
  exact s_X12_looks cx (Nat.le_of_eq hfr.symm) (Nat.le_of_eq hlo.symm) hr (some a0) x1
/-! PolicyTreeModel.quarrels()I -/
theorem dX12_quarrels_0 : decode cX12_quarrels 0 = .ok (.aload_n 0, 1) := by decide +kernel
theorem dX12_quarrels_1 : decode cX12_quarrels 1 = .ok (.iconst 0, 1) := by decide +kernel
theorem dX12_quarrels_2 : decode cX12_quarrels 2 = .ok (.putfield 97, 3) := by decide +kernel
theorem dX12_quarrels_5 : decode cX12_quarrels 5 = .ok (.aload_n 0, 1) := by decide +kernel
theorem dX12_quarrels_6 : decode cX12_quarrels 6 = .ok (.ldc_w 263, 3) := by decide +kernel
theorem dX12_quarrels_9 : decode cX12_quarrels 9 = .ok (.invokevirtual 275, 3) := by decide +kernel
theorem dX12_quarrels_12 : decode cX12_quarrels 12 = .ok (.ireturn, 1) := by decide +kernel
def f_X12_quarrels (r0 : Option Nat) : Mo Int32 := mb (pV 15 0 r0 (.int (0 : Int32))) (fun _ => mb (mo 15 r0 (f_X12_looks r0 (100000 : Int32))) (fun v9 => mp v9))
set_option maxRecDepth 100000 in
set_option maxHeartbeats 4000000 in
theorem s_X12_quarrels {X : Cg} (cx : Cx X cX12_quarrels RX12 1) (hfr : 3 ≤ (xR X).frames) (hlo : 69 ≤ (xR X).locals) (hr : (xM X).sig.returnType = (some .int)) (r0 : Option Nat) : Sim X 1 (FiM X vI) 0 [(0, va_rf r0)] [] (f_X12_quarrels r0) := by
  unfold f_X12_quarrels
  refine sm_aload_n cx 0 dX12_quarrels_0 rfl rfl ?_
  refine sm_iconst (v := 0) cx dX12_quarrels_1 (by decide) ?_
  refine sm_putV cx fl_X12_97 rfl rfl dX12_quarrels_2 ?_
  refine sm_aload_n cx 0 dX12_quarrels_5 rfl rfl ?_
  refine sm_ldcw (v := 100000) cx dX12_quarrels_6 wd_7_237 ?_
  refine sm_callV (T := TX12) (N := 47) (toV := vI) cx [.int (100000 : Int32)] rfl cv_X12_275 (fun a h => ct_X12_looks (xZ X) a h (100000 : Int32)) (Nat.le_trans (by decide) hfr) (Nat.le_trans (by decide) hlo) rfl (cat_le _ (Nat.le_of_ble_eq_true rfl)) dX12_quarrels_9 (fun v9 => ?_)
  exact sm_iret cx hr dX12_quarrels_12
set_option maxRecDepth 100000 in
set_option maxHeartbeats 4000000 in
theorem ct_X12_quarrels (Z : Nat → Nat) {r0 : Option Nat} (a0 : Nat) (h0 : r0 = some a0) : Ct yX12_quarrels cX12_quarrels 1 (some .int) 3 69 Z [.ref a0] vI (f_X12_quarrels r0) := by
  subst h0
  refine ct_of (lv0 := [(0, va_rf (some a0))]) (by decide +kernel) (by simp [lg_sl, ct_i, ct_l, ct_r, rf_cat]) (by show _ = ([(0, Value.ref a0)] : List (Nat × Value)); simp [lv_args, ct_i, ct_l, ct_r, rf_cat]) (fun X cx hZ hfr hlo hr hin => ?_)
  subst hZ
  exact s_X12_quarrels cx (Nat.le_of_eq hfr.symm) (Nat.le_of_eq hlo.symm) hr (some a0)
/-! PolicyTreeModel.quarrel(II)I -/
theorem dX12_quarrel_0 : decode cX12_quarrel 0 = .ok (.aload_n 0, 1) := by decide +kernel
theorem dX12_quarrel_1 : decode cX12_quarrel 1 = .ok (.iconst 0, 1) := by decide +kernel
theorem dX12_quarrel_2 : decode cX12_quarrel 2 = .ok (.putfield 97, 3) := by decide +kernel
theorem dX12_quarrel_5 : decode cX12_quarrel 5 = .ok (.aload_n 0, 1) := by decide +kernel
theorem dX12_quarrel_6 : decode cX12_quarrel 6 = .ok (.iload_n 2, 1) := by decide +kernel
theorem dX12_quarrel_7 : decode cX12_quarrel 7 = .ok (.ifCond .lt 8, 3) := by decide +kernel
theorem dX12_quarrel_10 : decode cX12_quarrel 10 = .ok (.iload_n 2, 1) := by decide +kernel
theorem dX12_quarrel_11 : decode cX12_quarrel 11 = .ok (.iconst 1, 1) := by decide +kernel
theorem dX12_quarrel_12 : decode cX12_quarrel 12 = .ok (.if_icmp .le 7, 3) := by decide +kernel
theorem dX12_quarrel_15 : decode cX12_quarrel 15 = .ok (.iconst 1, 1) := by decide +kernel
theorem dX12_quarrel_16 : decode cX12_quarrel 16 = .ok (.goto 4, 3) := by decide +kernel
theorem dX12_quarrel_19 : decode cX12_quarrel 19 = .ok (.iconst 0, 1) := by decide +kernel
theorem dX12_quarrel_20 : decode cX12_quarrel 20 = .ok (.iconst 1, 1) := by decide +kernel
theorem dX12_quarrel_21 : decode cX12_quarrel 21 = .ok (.invokevirtual 104, 3) := by decide +kernel
theorem dX12_quarrel_24 : decode cX12_quarrel 24 = .ok (.ifCond .eq 5, 3) := by decide +kernel
theorem dX12_quarrel_27 : decode cX12_quarrel 27 = .ok (.iconst 0, 1) := by decide +kernel
theorem dX12_quarrel_28 : decode cX12_quarrel 28 = .ok (.ireturn, 1) := by decide +kernel
theorem dX12_quarrel_29 : decode cX12_quarrel 29 = .ok (.iload_n 1, 1) := by decide +kernel
theorem dX12_quarrel_30 : decode cX12_quarrel 30 = .ok (.ifCond .lt 19, 3) := by decide +kernel
theorem dX12_quarrel_33 : decode cX12_quarrel 33 = .ok (.iload_n 1, 1) := by decide +kernel
theorem dX12_quarrel_34 : decode cX12_quarrel 34 = .ok (.ldc_w 263, 3) := by decide +kernel
theorem dX12_quarrel_37 : decode cX12_quarrel 37 = .ok (.if_icmp .gt 12, 3) := by decide +kernel
theorem dX12_quarrel_40 : decode cX12_quarrel 40 = .ok (.aload_n 0, 1) := by decide +kernel
theorem dX12_quarrel_41 : decode cX12_quarrel 41 = .ok (.iload_n 1, 1) := by decide +kernel
theorem dX12_quarrel_42 : decode cX12_quarrel 42 = .ok (.invokevirtual 275, 3) := by decide +kernel
theorem dX12_quarrel_45 : decode cX12_quarrel 45 = .ok (.iload_n 1, 1) := by decide +kernel
theorem dX12_quarrel_46 : decode cX12_quarrel 46 = .ok (.if_icmp .gt 5, 3) := by decide +kernel
theorem dX12_quarrel_49 : decode cX12_quarrel 49 = .ok (.iconst (-1), 1) := by decide +kernel
theorem dX12_quarrel_50 : decode cX12_quarrel 50 = .ok (.ireturn, 1) := by decide +kernel
theorem dX12_quarrel_51 : decode cX12_quarrel 51 = .ok (.iload_n 2, 1) := by decide +kernel
theorem dX12_quarrel_52 : decode cX12_quarrel 52 = .ok (.ifCond .ne 10, 3) := by decide +kernel
theorem dX12_quarrel_55 : decode cX12_quarrel 55 = .ok (.aload_n 0, 1) := by decide +kernel
theorem dX12_quarrel_56 : decode cX12_quarrel 56 = .ok (.getfield 270, 3) := by decide +kernel
theorem dX12_quarrel_59 : decode cX12_quarrel 59 = .ok (.goto 7, 3) := by decide +kernel
theorem dX12_quarrel_62 : decode cX12_quarrel 62 = .ok (.aload_n 0, 1) := by decide +kernel
theorem dX12_quarrel_63 : decode cX12_quarrel 63 = .ok (.getfield 272, 3) := by decide +kernel
theorem dX12_quarrel_66 : decode cX12_quarrel 66 = .ok (.ireturn, 1) := by decide +kernel
def f_X12_quarrel_49 : Mo Int32 := mp (-1 : Int32)
set_option maxRecDepth 100000 in
set_option maxHeartbeats 4000000 in
theorem s_X12_quarrel_49 {X : Cg} (cx : Cx X cX12_quarrel RX12 3) (hfr : 3 ≤ (xR X).frames) (hlo : 69 ≤ (xR X).locals) (hr : (xM X).sig.returnType = (some .int)) : Sim X 3 (FiM X vI) 49 [] [] (f_X12_quarrel_49) := by
  unfold f_X12_quarrel_49
  refine sm_iconst (v := -1) cx dX12_quarrel_49 (by decide) ?_
  exact sm_iret cx hr dX12_quarrel_50
def f_X12_quarrel_66 (sx0 : Int32) : Mo Int32 := mp sx0
set_option maxRecDepth 100000 in
set_option maxHeartbeats 4000000 in
theorem s_X12_quarrel_66 {X : Cg} (cx : Cx X cX12_quarrel RX12 3) (hfr : 3 ≤ (xR X).frames) (hlo : 69 ≤ (xR X).locals) (hr : (xM X).sig.returnType = (some .int)) (sx0 : Int32) : Sim X 3 (FiM X vI) 66 [] [.int sx0] (f_X12_quarrel_66 sx0) := by
  unfold f_X12_quarrel_66
  exact sm_iret cx hr dX12_quarrel_66
def f_X12_quarrel_20 (r0 : Option Nat) (x1 : Int32) (x2 : Int32) (sr0 : Option Nat) (sx1 : Int32) : Mo Int32 := mb (mo 15 sr0 (f_X12_bad sr0 sx1 (1 : Int32))) (fun v21 => (if v21 = 0 then (if x1 < 0 then f_X12_quarrel_49 else (if (100000 : Int32) < x1 then f_X12_quarrel_49 else mb (mo 15 r0 (f_X12_looks r0 x1)) (fun v42 => (if x1 < v42 then (if x2 = 0 then mb (gI 15 45 r0) (fun v56 => f_X12_quarrel_66 v56) else mb (gI 15 46 r0) (fun v63 => f_X12_quarrel_66 v63)) else f_X12_quarrel_49)))) else mp (0 : Int32)))
set_option maxRecDepth 100000 in
set_option maxHeartbeats 4000000 in
theorem s_X12_quarrel_20 {X : Cg} (cx : Cx X cX12_quarrel RX12 3) (hfr : 3 ≤ (xR X).frames) (hlo : 69 ≤ (xR X).locals) (hr : (xM X).sig.returnType = (some .int)) (r0 : Option Nat) (x1 : Int32) (x2 : Int32) (sr0 : Option Nat) (sx1 : Int32) : Sim X 3 (FiM X vI) 20 [(0, va_rf r0), (1, .int x1), (2, .int x2)] [.int sx1, va_rf sr0] (f_X12_quarrel_20 r0 x1 x2 sr0 sx1) := by
  unfold f_X12_quarrel_20
  refine sm_iconst (v := 1) cx dX12_quarrel_20 (by decide) ?_
  refine sm_callV (T := TX12) (N := 47) (toV := vI) cx [.int sx1, .int (1 : Int32)] rfl cv_X12_104 (fun a h => ct_X12_bad (xZ X) a h sx1 (1 : Int32)) (Nat.le_trans (by decide) hfr) (Nat.le_trans (by decide) hlo) rfl (cat_le _ (Nat.le_of_ble_eq_true rfl)) dX12_quarrel_21 (fun v21 => ?_)
  refine sm_if_eq (tgt := 29) cx dX12_quarrel_24 (by decide) ?_ ?_
  · refine sm_iload_n cx 1 dX12_quarrel_29 rfl rfl ?_
    refine sm_if_lt (tgt := 49) cx dX12_quarrel_30 (by decide) ?_ ?_
    · exact sm_lv [] rfl (s_X12_quarrel_49 cx hfr hlo hr)
    · refine sm_iload_n cx 1 dX12_quarrel_33 rfl rfl ?_
      refine sm_ldcw (v := 100000) cx dX12_quarrel_34 wd_7_237 ?_
      refine sm_icmp_gt (tgt := 49) cx dX12_quarrel_37 (by decide) ?_ ?_
      · exact sm_lv [] rfl (s_X12_quarrel_49 cx hfr hlo hr)
      · refine sm_aload_n cx 0 dX12_quarrel_40 rfl rfl ?_
        refine sm_iload_n cx 1 dX12_quarrel_41 rfl rfl ?_
        refine sm_callV (T := TX12) (N := 47) (toV := vI) cx [.int x1] rfl cv_X12_275 (fun a h => ct_X12_looks (xZ X) a h x1) (Nat.le_trans (by decide) hfr) (Nat.le_trans (by decide) hlo) rfl (cat_le _ (Nat.le_of_ble_eq_true rfl)) dX12_quarrel_42 (fun v42 => ?_)
        refine sm_iload_n cx 1 dX12_quarrel_45 rfl rfl ?_
        refine sm_icmp_gt (tgt := 51) cx dX12_quarrel_46 (by decide) ?_ ?_
        · refine sm_iload_n cx 2 dX12_quarrel_51 rfl rfl ?_
          refine sm_if_ne (tgt := 62) cx dX12_quarrel_52 (by decide) ?_ ?_
          · refine sm_aload_n cx 0 dX12_quarrel_62 rfl rfl ?_
            refine sm_getI cx fl_X12_272 dX12_quarrel_63 (fun v63 => ?_)
            exact sm_lv [] rfl (s_X12_quarrel_66 cx hfr hlo hr v63)
          · refine sm_aload_n cx 0 dX12_quarrel_55 rfl rfl ?_
            refine sm_getI cx fl_X12_270 dX12_quarrel_56 (fun v56 => ?_)
            refine sm_goto (tgt := 66) cx dX12_quarrel_59 (by decide) ?_
            exact sm_lv [] rfl (s_X12_quarrel_66 cx hfr hlo hr v56)
        · exact sm_lv [] rfl (s_X12_quarrel_49 cx hfr hlo hr)
  · refine sm_iconst (v := 0) cx dX12_quarrel_27 (by decide) ?_
    exact sm_iret cx hr dX12_quarrel_28
def f_X12_quarrel_15 (r0 : Option Nat) (x1 : Int32) (x2 : Int32) (sr0 : Option Nat) : Mo Int32 := f_X12_quarrel_20 r0 x1 x2 sr0 (1 : Int32)
set_option maxRecDepth 100000 in
set_option maxHeartbeats 4000000 in
theorem s_X12_quarrel_15 {X : Cg} (cx : Cx X cX12_quarrel RX12 3) (hfr : 3 ≤ (xR X).frames) (hlo : 69 ≤ (xR X).locals) (hr : (xM X).sig.returnType = (some .int)) (r0 : Option Nat) (x1 : Int32) (x2 : Int32) (sr0 : Option Nat) : Sim X 3 (FiM X vI) 15 [(0, va_rf r0), (1, .int x1), (2, .int x2)] [va_rf sr0] (f_X12_quarrel_15 r0 x1 x2 sr0) := by
  unfold f_X12_quarrel_15
  refine sm_iconst (v := 1) cx dX12_quarrel_15 (by decide) ?_
  refine sm_goto (tgt := 20) cx dX12_quarrel_16 (by decide) ?_
  exact sm_lv [0, 1, 2] rfl (s_X12_quarrel_20 cx hfr hlo hr r0 x1 x2 sr0 (1 : Int32))
def f_X12_quarrel (r0 : Option Nat) (x1 : Int32) (x2 : Int32) : Mo Int32 := mb (pV 15 0 r0 (.int (0 : Int32))) (fun _ => (if x2 < 0 then f_X12_quarrel_15 r0 x1 x2 r0 else (if x2 ≤ (1 : Int32) then f_X12_quarrel_20 r0 x1 x2 r0 (0 : Int32) else f_X12_quarrel_15 r0 x1 x2 r0)))
set_option maxRecDepth 100000 in
set_option maxHeartbeats 4000000 in
theorem s_X12_quarrel {X : Cg} (cx : Cx X cX12_quarrel RX12 3) (hfr : 3 ≤ (xR X).frames) (hlo : 69 ≤ (xR X).locals) (hr : (xM X).sig.returnType = (some .int)) (r0 : Option Nat) (x1 : Int32) (x2 : Int32) : Sim X 3 (FiM X vI) 0 [(0, va_rf r0), (1, .int x1), (2, .int x2)] [] (f_X12_quarrel r0 x1 x2) := by
  unfold f_X12_quarrel
  refine sm_aload_n cx 0 dX12_quarrel_0 rfl rfl ?_
  refine sm_iconst (v := 0) cx dX12_quarrel_1 (by decide) ?_
  refine sm_putV cx fl_X12_97 rfl rfl dX12_quarrel_2 ?_
  refine sm_aload_n cx 0 dX12_quarrel_5 rfl rfl ?_
  refine sm_iload_n cx 2 dX12_quarrel_6 rfl rfl ?_
  refine sm_if_lt (tgt := 15) cx dX12_quarrel_7 (by decide) ?_ ?_
  · exact sm_lv [0, 1, 2] rfl (s_X12_quarrel_15 cx hfr hlo hr r0 x1 x2 r0)
  · refine sm_iload_n cx 2 dX12_quarrel_10 rfl rfl ?_
    refine sm_iconst (v := 1) cx dX12_quarrel_11 (by decide) ?_
    refine sm_icmp_le (tgt := 19) cx dX12_quarrel_12 (by decide) ?_ ?_
    · refine sm_iconst (v := 0) cx dX12_quarrel_19 (by decide) ?_
      exact sm_lv [0, 1, 2] rfl (s_X12_quarrel_20 cx hfr hlo hr r0 x1 x2 r0 (0 : Int32))
    · exact sm_lv [0, 1, 2] rfl (s_X12_quarrel_15 cx hfr hlo hr r0 x1 x2 r0)
set_option maxRecDepth 100000 in
set_option maxHeartbeats 4000000 in
theorem ct_X12_quarrel (Z : Nat → Nat) {r0 : Option Nat} (a0 : Nat) (h0 : r0 = some a0) (x1 : Int32) (x2 : Int32) : Ct yX12_quarrel cX12_quarrel 3 (some .int) 3 69 Z [.ref a0, .int x1, .int x2] vI (f_X12_quarrel r0 x1 x2) := by
  subst h0
  refine ct_of (lv0 := [(0, va_rf (some a0)), (1, .int x1), (2, .int x2)]) (by decide +kernel) (by simp [lg_sl, ct_i, ct_l, ct_r, rf_cat]) (by show _ = ([(0, Value.ref a0), (1, .int x1), (2, .int x2)] : List (Nat × Value)); simp [lv_args, ct_i, ct_l, ct_r, rf_cat]) (fun X cx hZ hfr hlo hr hin => ?_)
  subst hZ
  exact s_X12_quarrel cx (Nat.le_of_eq hfr.symm) (Nat.le_of_eq hlo.symm) hr (some a0) x1 x2
/-! PolicyTreeModel.count(I)I -/
theorem dX12_count_0 : decode cX12_count 0 = .ok (.aload_n 0, 1) := by decide +kernel
theorem dX12_count_1 : decode cX12_count 1 = .ok (.iconst 0, 1) := by decide +kernel
theorem dX12_count_2 : decode cX12_count 2 = .ok (.putfield 97, 3) := by decide +kernel
theorem dX12_count_5 : decode cX12_count 5 = .ok (.iload_n 1, 1) := by decide +kernel
theorem dX12_count_6 : decode cX12_count 6 = .ok (.tableswitch 109 0 6 #[42, 47, 52, 57, 62, 67, 104], 42) := by decide +kernel
theorem dX12_count_48 : decode cX12_count 48 = .ok (.aload_n 0, 1) := by decide +kernel
theorem dX12_count_49 : decode cX12_count 49 = .ok (.getfield 94, 3) := by decide +kernel
theorem dX12_count_52 : decode cX12_count 52 = .ok (.ireturn, 1) := by decide +kernel
theorem dX12_count_53 : decode cX12_count 53 = .ok (.aload_n 0, 1) := by decide +kernel
theorem dX12_count_54 : decode cX12_count 54 = .ok (.getfield 108, 3) := by decide +kernel
theorem dX12_count_57 : decode cX12_count 57 = .ok (.ireturn, 1) := by decide +kernel
theorem dX12_count_58 : decode cX12_count 58 = .ok (.aload_n 0, 1) := by decide +kernel
theorem dX12_count_59 : decode cX12_count 59 = .ok (.getfield 111, 3) := by decide +kernel
theorem dX12_count_62 : decode cX12_count 62 = .ok (.ireturn, 1) := by decide +kernel
theorem dX12_count_63 : decode cX12_count 63 = .ok (.aload_n 0, 1) := by decide +kernel
theorem dX12_count_64 : decode cX12_count 64 = .ok (.getfield 118, 3) := by decide +kernel
theorem dX12_count_67 : decode cX12_count 67 = .ok (.ireturn, 1) := by decide +kernel
theorem dX12_count_68 : decode cX12_count 68 = .ok (.aload_n 0, 1) := by decide +kernel
theorem dX12_count_69 : decode cX12_count 69 = .ok (.getfield 205, 3) := by decide +kernel
theorem dX12_count_72 : decode cX12_count 72 = .ok (.ireturn, 1) := by decide +kernel
theorem dX12_count_73 : decode cX12_count 73 = .ok (.iconst 0, 1) := by decide +kernel
theorem dX12_count_74 : decode cX12_count 74 = .ok (.istore_n 2, 1) := by decide +kernel
theorem dX12_count_75 : decode cX12_count 75 = .ok (.iconst 0, 1) := by decide +kernel
theorem dX12_count_76 : decode cX12_count 76 = .ok (.istore_n 3, 1) := by decide +kernel
theorem dX12_count_77 : decode cX12_count 77 = .ok (.iload_n 3, 1) := by decide +kernel
theorem dX12_count_78 : decode cX12_count 78 = .ok (.aload_n 0, 1) := by decide +kernel
theorem dX12_count_79 : decode cX12_count 79 = .ok (.getfield 205, 3) := by decide +kernel
theorem dX12_count_82 : decode cX12_count 82 = .ok (.if_icmp .ge 26, 3) := by decide +kernel
theorem dX12_count_85 : decode cX12_count 85 = .ok (.iload_n 2, 1) := by decide +kernel
theorem dX12_count_86 : decode cX12_count 86 = .ok (.aload_n 0, 1) := by decide +kernel
theorem dX12_count_87 : decode cX12_count 87 = .ok (.getfield 64, 3) := by decide +kernel
theorem dX12_count_90 : decode cX12_count 90 = .ok (.iload_n 3, 1) := by decide +kernel
theorem dX12_count_91 : decode cX12_count 91 = .ok (.baload, 1) := by decide +kernel
theorem dX12_count_92 : decode cX12_count 92 = .ok (.ifCond .eq 7, 3) := by decide +kernel
theorem dX12_count_95 : decode cX12_count 95 = .ok (.iconst 0, 1) := by decide +kernel
theorem dX12_count_96 : decode cX12_count 96 = .ok (.goto 4, 3) := by decide +kernel
theorem dX12_count_99 : decode cX12_count 99 = .ok (.iconst 1, 1) := by decide +kernel
theorem dX12_count_100 : decode cX12_count 100 = .ok (.iadd, 1) := by decide +kernel
theorem dX12_count_101 : decode cX12_count 101 = .ok (.istore_n 2, 1) := by decide +kernel
theorem dX12_count_102 : decode cX12_count 102 = .ok (.iinc 3 1, 3) := by decide +kernel
theorem dX12_count_105 : decode cX12_count 105 = .ok (.goto (-28), 3) := by decide +kernel
theorem dX12_count_108 : decode cX12_count 108 = .ok (.iload_n 2, 1) := by decide +kernel
theorem dX12_count_109 : decode cX12_count 109 = .ok (.ireturn, 1) := by decide +kernel
theorem dX12_count_110 : decode cX12_count 110 = .ok (.aload_n 0, 1) := by decide +kernel
theorem dX12_count_111 : decode cX12_count 111 = .ok (.getfield 128, 3) := by decide +kernel
theorem dX12_count_114 : decode cX12_count 114 = .ok (.ireturn, 1) := by decide +kernel
theorem dX12_count_115 : decode cX12_count 115 = .ok (.iconst (-1), 1) := by decide +kernel
theorem dX12_count_116 : decode cX12_count 116 = .ok (.ireturn, 1) := by decide +kernel
def f_X12_count_100 (k77 : Int32 → Int32 → Mo Int32) (r0 : Option Nat) (x3 : Int32) (sx0 : Int32) (sx1 : Int32) : Mo Int32 := k77 (sx0 + sx1) (x3 + 1)
set_option maxRecDepth 100000 in
set_option maxHeartbeats 4000000 in
theorem s_X12_count_100 {X : Cg} (cx : Cx X cX12_count RX12 4) (hfr : 0 ≤ (xR X).frames) (hlo : 0 ≤ (xR X).locals) (hr : (xM X).sig.returnType = (some .int)) (r0 : Option Nat) (x3 : Int32) (sx0 : Int32) (sx1 : Int32) {k77 : Int32 → Int32 → Mo Int32} (hk77 : ∀ (x2 : Int32) (x3 : Int32), Sim X 4 (FiM X vI) 77 [(0, va_rf r0), (2, .int x2), (3, .int x3)] [] (k77 x2 x3)) : Sim X 4 (FiM X vI) 100 [(0, va_rf r0), (3, .int x3)] [.int sx1, .int sx0] (f_X12_count_100 k77 r0 x3 sx0 sx1) := by
  unfold f_X12_count_100
  refine sm_iadd cx dX12_count_100 ?_
  refine sm_istore_n cx [(2, .int (sx0 + sx1)), (0, va_rf r0), (3, .int x3)] dX12_count_101 rfl (by decide) rfl nc0 rfl ?_
  refine sm_iinc cx 2 [(3, .int (x3 + 1)), (2, .int (sx0 + sx1)), (0, va_rf r0)] dX12_count_102 rfl rfl (by decide) rfl (nc1 rfl) rfl ?_
  refine sm_goto (tgt := 77) cx dX12_count_105 (by decide) ?_
  exact sm_lv [2, 1, 0] rfl (hk77 (sx0 + sx1) (x3 + 1))
def f_X12_count_77 (r0 : Option Nat) : Nat → Int32 → Int32 → Mo Int32
  | 0, _, _ => mf
  | n + 1, x2, x3 => mb (gI 15 32 r0) (fun v79 => (if v79 ≤ x3 then mp x2 else mb (gR 15 28 r0) (fun v87 => mb (aI 3 v87 x3) (fun v91 => (if v91 = 0 then f_X12_count_100 (f_X12_count_77 r0 n) r0 x3 x2 (1 : Int32) else f_X12_count_100 (f_X12_count_77 r0 n) r0 x3 x2 (0 : Int32))))))
set_option maxRecDepth 100000 in
set_option maxHeartbeats 4000000 in
theorem s_X12_count_77 {X : Cg} (cx : Cx X cX12_count RX12 4) (hfr : 0 ≤ (xR X).frames) (hlo : 0 ≤ (xR X).locals) (hr : (xM X).sig.returnType = (some .int)) (r0 : Option Nat) : ∀ (n : Nat) (x2 : Int32) (x3 : Int32), Sim X 4 (FiM X vI) 77 [(0, va_rf r0), (2, .int x2), (3, .int x3)] [] (f_X12_count_77 r0 n x2 x3) := by
  intro n
  induction n with
  | zero =>
    intro _ _
    exact sm_mf
  | succ n ih =>
    intro x2 x3
    rw [f_X12_count_77]
    refine sm_iload_n cx 2 dX12_count_77 rfl rfl ?_
    refine sm_aload_n cx 0 dX12_count_78 rfl rfl ?_
    refine sm_getI cx fl_X12_205 dX12_count_79 (fun v79 => ?_)
    refine sm_icmp_ge (tgt := 108) cx dX12_count_82 (by decide) ?_ ?_
    · refine sm_iload_n cx 1 dX12_count_108 rfl rfl ?_
      exact sm_iret cx hr dX12_count_109
    · refine sm_iload_n cx 1 dX12_count_85 rfl rfl ?_
      refine sm_aload_n cx 0 dX12_count_86 rfl rfl ?_
      refine sm_getR cx fl_X12_64 dX12_count_87 (fun v87 => ?_)
      refine sm_iload_n cx 2 dX12_count_90 rfl rfl ?_
      refine sm_zald cx dX12_count_91 (fun v91 => ?_)
      refine sm_if_eq (tgt := 99) cx dX12_count_92 (by decide) ?_ ?_
      · refine sm_iconst (v := 1) cx dX12_count_99 (by decide) ?_
        exact sm_lv [0, 2] rfl (s_X12_count_100 cx hfr hlo hr r0 x3 x2 (1 : Int32) ih)
      · refine sm_iconst (v := 0) cx dX12_count_95 (by decide) ?_
        refine sm_goto (tgt := 100) cx dX12_count_96 (by decide) ?_
        exact sm_lv [0, 2] rfl (s_X12_count_100 cx hfr hlo hr r0 x3 x2 (0 : Int32) ih)
def f_X12_count (r0 : Option Nat) (x1 : Int32) : Mo Int32 := mb (pV 15 0 r0 (.int (0 : Int32))) (fun _ => (if x1 = 0 then mb (gI 15 3 r0) (fun v49 => mp v49) else (if x1 = 1 then mb (gI 15 7 r0) (fun v54 => mp v54) else (if x1 = 2 then mb (gI 15 9 r0) (fun v59 => mp v59) else (if x1 = 3 then mb (gI 15 12 r0) (fun v64 => mp v64) else (if x1 = 4 then mb (gI 15 32 r0) (fun v69 => mp v69) else (if x1 = 5 then f_X12_count_77 r0 fuL (0 : Int32) (0 : Int32) else (if x1 = 6 then mb (gI 15 15 r0) (fun v111 => mp v111) else mp (-1 : Int32)))))))))
set_option maxRecDepth 100000 in
set_option maxHeartbeats 4000000 in
theorem s_X12_count {X : Cg} (cx : Cx X cX12_count RX12 4) (hfr : 0 ≤ (xR X).frames) (hlo : 0 ≤ (xR X).locals) (hr : (xM X).sig.returnType = (some .int)) (r0 : Option Nat) (x1 : Int32) : Sim X 4 (FiM X vI) 0 [(0, va_rf r0), (1, .int x1)] [] (f_X12_count r0 x1) := by
  unfold f_X12_count
  refine sm_aload_n cx 0 dX12_count_0 rfl rfl ?_
  refine sm_iconst (v := 0) cx dX12_count_1 (by decide) ?_
  refine sm_putV cx fl_X12_97 rfl rfl dX12_count_2 ?_
  refine sm_iload_n cx 1 dX12_count_5 rfl rfl ?_
  refine sm_tsw7 (t0 := 48) (t1 := 53) (t2 := 58) (t3 := 63) (t4 := 68) (t5 := 73) (t6 := 110) (td := 115) cx dX12_count_6 (by decide) (by decide) (by decide) (by decide) (by decide) (by decide) (by decide) (by decide) ?_ ?_ ?_ ?_ ?_ ?_ ?_ ?_
  · refine sm_aload_n cx 0 dX12_count_48 rfl rfl ?_
    refine sm_getI cx fl_X12_94 dX12_count_49 (fun v49 => ?_)
    exact sm_iret cx hr dX12_count_52
  · refine sm_aload_n cx 0 dX12_count_53 rfl rfl ?_
    refine sm_getI cx fl_X12_108 dX12_count_54 (fun v54 => ?_)
    exact sm_iret cx hr dX12_count_57
  · refine sm_aload_n cx 0 dX12_count_58 rfl rfl ?_
    refine sm_getI cx fl_X12_111 dX12_count_59 (fun v59 => ?_)
    exact sm_iret cx hr dX12_count_62
  · refine sm_aload_n cx 0 dX12_count_63 rfl rfl ?_
    refine sm_getI cx fl_X12_118 dX12_count_64 (fun v64 => ?_)
    exact sm_iret cx hr dX12_count_67
  · refine sm_aload_n cx 0 dX12_count_68 rfl rfl ?_
    refine sm_getI cx fl_X12_205 dX12_count_69 (fun v69 => ?_)
    exact sm_iret cx hr dX12_count_72
  · refine sm_iconst (v := 0) cx dX12_count_73 (by decide) ?_
    refine sm_istore_n cx [(2, .int (0 : Int32)), (0, va_rf r0), (1, .int x1)] dX12_count_74 rfl (by decide) rfl (nc1 rfl) rfl ?_
    refine sm_iconst (v := 0) cx dX12_count_75 (by decide) ?_
    refine sm_istore_n cx [(3, .int (0 : Int32)), (2, .int (0 : Int32)), (0, va_rf r0), (1, .int x1)] dX12_count_76 rfl (by decide) rfl (nc1 rfl) rfl ?_
    exact sm_lv [2, 1, 0] rfl (s_X12_count_77 cx hfr hlo hr r0 fuL (0 : Int32) (0 : Int32))
  · refine sm_aload_n cx 0 dX12_count_110 rfl rfl ?_
    refine sm_getI cx fl_X12_128 dX12_count_111 (fun v111 => ?_)
    exact sm_iret cx hr dX12_count_114
  · refine sm_iconst (v := -1) cx dX12_count_115 (by decide) ?_
    exact sm_iret cx hr dX12_count_116
set_option maxRecDepth 100000 in
set_option maxHeartbeats 4000000 in
theorem ct_X12_count (Z : Nat → Nat) {r0 : Option Nat} (a0 : Nat) (h0 : r0 = some a0) (x1 : Int32) : Ct yX12_count cX12_count 4 (some .int) 0 0 Z [.ref a0, .int x1] vI (f_X12_count r0 x1) := by
  subst h0
  refine ct_of (lv0 := [(0, va_rf (some a0)), (1, .int x1)]) (by decide +kernel) (by simp [lg_sl, ct_i, ct_l, ct_r, rf_cat]) (by show _ = ([(0, Value.ref a0), (1, .int x1)] : List (Nat × Value)); simp [lv_args, ct_i, ct_l, ct_r, rf_cat]) (fun X cx hZ hfr hlo hr hin => ?_)
  subst hZ
  exact s_X12_count cx (Nat.le_of_eq hfr.symm) (Nat.le_of_eq hlo.symm) hr (some a0) x1
