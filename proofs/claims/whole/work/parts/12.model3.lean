theorem fl_X12_205 : FldOk RX12 205 15 32 .int false true := ⟨RX12, TX12, 47, "PolicyTreeModel", tyX12, rfl, by decide, inT_X12, tyX12_ok, nmX12, wd_6_159, Or.inl rfl, tyX12_ok 32 (by decide), rfl, fun _ => rfl⟩
theorem fl_X12_215 : FldOk RX12 215 15 36 .int false true := ⟨RX12, TX12, 47, "PolicyTreeModel", tyX12, rfl, by decide, inT_X12, tyX12_ok, nmX12, wd_6_163, Or.inl rfl, tyX12_ok 36 (by decide), rfl, fun _ => rfl⟩
theorem fl_X12_222 : FldOk RX12 222 15 38 .int false true := ⟨RX12, TX12, 47, "PolicyTreeModel", tyX12, rfl, by decide, inT_X12, tyX12_ok, nmX12, wd_6_165, Or.inl rfl, tyX12_ok 38 (by decide), rfl, fun _ => rfl⟩
theorem fl_X12_225 : FldOk RX12 225 15 39 .int false true := ⟨RX12, TX12, 47, "PolicyTreeModel", tyX12, rfl, by decide, inT_X12, tyX12_ok, nmX12, wd_6_166, Or.inl rfl, tyX12_ok 39 (by decide), rfl, fun _ => rfl⟩
theorem fl_X12_248 : FldOk RX12 248 15 41 .int false true := ⟨RX12, TX12, 47, "PolicyTreeModel", tyX12, rfl, by decide, inT_X12, tyX12_ok, nmX12, wd_6_168, Or.inl rfl, tyX12_ok 41 (by decide), rfl, fun _ => rfl⟩
theorem cv_X12_208 : CalV RX12 208 RX12 yX12_isBelow cX12_isBelow 4 (some .boolean) 2 := ⟨wd_V wd_7_197 wd_7_199 wp_4_4 wd_1_16 wd_7_200, rfl, by decide +kernel, by decide +kernel, by decide +kernel⟩
theorem cv_X12_211 : CalV RX12 211 RX12 yX12_holds cX12_holds 8 (some .boolean) 3 := ⟨wd_V wd_7_193 wd_7_195 wp_4_3 wd_1_16 wd_7_196, rfl, by decide +kernel, by decide +kernel, by decide +kernel⟩
theorem cv_X12_218 : CalV RX12 218 RX12 yX12_adds cX12_adds 8 none 5 := ⟨wd_V wd_7_189 wd_7_191 wp_4_2 wd_1_16 wd_7_192, rfl, by decide +kernel, by decide +kernel, by decide +kernel⟩
theorem cv_X12_228 : CalV RX12 228 RX12 yX12_valueOf cX12_valueOf 3 (some .int) 2 := ⟨wd_V wd_7_205 wd_7_207 wp_4_6 wd_1_16 wd_7_208, rfl, by decide +kernel, by decide +kernel, by decide +kernel⟩
theorem cv_X12_232 : CalV RX12 232 RX12 yX12_groupsAnew cX12_groupsAnew 2 none 0 := ⟨wd_V wd_7_177 wd_7_179 wp_3_15 wd_1_16 wd_7_180, rfl, by decide +kernel, by decide +kernel, by decide +kernel⟩
theorem cv_X12_235 : CalV RX12 235 RX12 yX12_yesOf cX12_yesOf 4 (some .int) 1 := ⟨wd_V wd_7_181 wd_7_183 wp_4_0 wd_1_16 wd_7_184, rfl, by decide +kernel, by decide +kernel, by decide +kernel⟩
theorem cv_X12_238 : CalV RX12 238 RX12 yX12_makes cX12_makes 7 none 3 := ⟨wd_V wd_7_185 wd_7_187 wp_4_1 wd_1_16 wd_7_188, rfl, by decide +kernel, by decide +kernel, by decide +kernel⟩
theorem cv_X12_242 : CalV RX12 242 RX12 yX12_outcomes cX12_outcomes 6 none 1 := ⟨wd_V wd_7_201 wd_7_203 wp_4_5 wd_1_16 wd_7_204, rfl, by decide +kernel, by decide +kernel, by decide +kernel⟩
theorem cv_X12_245 : CalV RX12 245 RX12 yX12_isAsked cX12_isAsked 3 (some .boolean) 2 := ⟨wd_V wd_7_173 wd_7_175 wp_3_14 wd_1_16 wd_7_176, rfl, by decide +kernel, by decide +kernel, by decide +kernel⟩
theorem cv_X12_254 : CalV RX12 254 RX12 yX12_isAsKept cX12_isAsKept 3 (some .boolean) 0 := ⟨wd_V wd_7_229 wd_7_231 wp_4_8 wd_1_16 wd_7_232, rfl, by decide +kernel, by decide +kernel, by decide +kernel⟩
theorem cv_X12_251 : CalV RX12 251 RX12 yX12_keepsThem cX12_keepsThem 2 none 0 := ⟨wd_V wd_7_225 wd_7_227 wp_4_7 wd_1_16 wd_7_228, rfl, by decide +kernel, by decide +kernel, by decide +kernel⟩
def r_X12_one (Z : Nat → Nat) : Nat → Option Nat → Mo Unit
  | 0, _ => mf
  | d + 1, r0 => f_X12_one Z (fun r => f_X12_any Z (fun r => f_X12_all Z (r_X12_one Z d) r) r) (r_X12_one Z d) r0
def r_X12_all (Z : Nat → Nat) (d : Nat) (r0 : Option Nat) : Mo Unit := f_X12_all Z (r_X12_one Z d) r0
def r_X12_any (Z : Nat → Nat) (d : Nat) (r0 : Option Nat) : Mo Unit := f_X12_any Z (r_X12_all Z d) r0
theorem ct_X12_all_of (Z : Nat → Nat) (d : Nat) {r0 : Option Nat} (a0 : Nat) (h0 : r0 = some a0) (ih : ∀ {r0 : Option Nat} (a0 : Nat), r0 = some a0 → ∀ (_ : Unit), Ct yX12_one cX12_one 1 none (20 + 3 * d) (200 + 66 * d) Z [.ref a0] vV (r_X12_one Z d r0)) : Ct yX12_all cX12_all 1 none (20 + 3 * d + 1) (200 + 66 * d + 22) Z [.ref a0] vV (f_X12_all Z (r_X12_one Z d) r0) := by
    subst h0
    refine ct_of (lv0 := [(0, va_rf (some a0))]) (by decide +kernel) (by simp [lg_sl, ct_i, ct_l, ct_r, rf_cat]) (by show _ = ([(0, Value.ref a0)] : List (Nat × Value)); simp [lv_args, ct_i, ct_l, ct_r, rf_cat]) (fun X cx hZ hfr hlo hr hin => ?_)
    subst hZ
    exact s_X12_all cx (by rw [hfr]; omega) (by rw [hlo]; omega) hr (fun a h => ih a h ()) (by rw [hfr]; omega) (by rw [hlo]; omega) (some a0)
theorem ct_X12_any_of (Z : Nat → Nat) (d : Nat) {r0 : Option Nat} (a0 : Nat) (h0 : r0 = some a0) (ih : ∀ {r0 : Option Nat} (a0 : Nat), r0 = some a0 → ∀ (_ : Unit), Ct yX12_one cX12_one 1 none (20 + 3 * d) (200 + 66 * d) Z [.ref a0] vV (r_X12_one Z d r0)) : Ct yX12_any cX12_any 1 none (20 + 3 * d + 2) (200 + 66 * d + 44) Z [.ref a0] vV (f_X12_any Z (r_X12_all Z d) r0) := by
    subst h0
    refine ct_of (lv0 := [(0, va_rf (some a0))]) (by decide +kernel) (by simp [lg_sl, ct_i, ct_l, ct_r, rf_cat]) (by show _ = ([(0, Value.ref a0)] : List (Nat × Value)); simp [lv_args, ct_i, ct_l, ct_r, rf_cat]) (fun X cx hZ hfr hlo hr hin => ?_)
    subst hZ
    exact s_X12_any cx (by rw [hfr]; omega) (by rw [hlo]; omega) hr (fun a h => ct_X12_all_of (xZ X) d a h ih) (by rw [hfr]; omega) (by rw [hlo]; omega) (some a0)
theorem ct_r_X12_one (Z : Nat → Nat) : ∀ (d : Nat) {r0 : Option Nat} (a0 : Nat), r0 = some a0 → ∀ (_ : Unit), Ct yX12_one cX12_one 1 none (20 + 3 * d) (200 + 66 * d) Z [.ref a0] vV (r_X12_one Z d r0) := by
  intro d
  induction d with
  | zero =>
    intro r0 a0 h0 _ l D cy A h r h' c n hf
    rw [r_X12_one] at hf
    cases hf
  | succ d ih =>
    intro r0 a0 h0 _
    subst h0
    rw [r_X12_one]
    refine ct_of (lv0 := [(0, va_rf (some a0))]) (by decide +kernel) (by simp [lg_sl, ct_i, ct_l, ct_r, rf_cat]) (by show _ = ([(0, Value.ref a0)] : List (Nat × Value)); simp [lv_args, ct_i, ct_l, ct_r, rf_cat]) (fun X cx hZ hfr hlo hr hin => ?_)
    subst hZ
    exact s_X12_one cx (by rw [hfr]; omega) (by rw [hlo]; omega) hr (fun a h => ct_X12_any_of (xZ X) d a h ih) (by rw [hfr]; omega) (by rw [hlo]; omega) (fun a h => ih a h ()) (by rw [hfr]; omega) (by rw [hlo]; omega) (some a0)
def f_X12_anyC (Z : Nat → Nat) (r0 : Option Nat) : Mo Unit := r_X12_any Z 16 r0
theorem ct_X12_anyC (Z : Nat → Nat) {r0 : Option Nat} (a0 : Nat) (h0 : r0 = some a0) : Ct yX12_any cX12_any 1 none 70 1300 Z [.ref a0] vV (f_X12_anyC Z r0) := ct_X12_any_of Z 16 a0 h0 (ct_r_X12_one Z 16)
/-! PolicyTreeModel.link(IIIZI)I -/
theorem dX12_link_0 : decode cX12_link 0 = .ok (.aload_n 0, 1) := by decide +kernel
theorem dX12_link_1 : decode cX12_link 1 = .ok (.iconst 0, 1) := by decide +kernel
theorem dX12_link_2 : decode cX12_link 2 = .ok (.putfield 97, 3) := by decide +kernel
theorem dX12_link_5 : decode cX12_link 5 = .ok (.aload_n 0, 1) := by decide +kernel
theorem dX12_link_6 : decode cX12_link 6 = .ok (.iload_n 1, 1) := by decide +kernel
theorem dX12_link_7 : decode cX12_link 7 = .ok (.aload_n 0, 1) := by decide +kernel
theorem dX12_link_8 : decode cX12_link 8 = .ok (.getfield 94, 3) := by decide +kernel
theorem dX12_link_11 : decode cX12_link 11 = .ok (.invokevirtual 100, 3) := by decide +kernel
theorem dX12_link_14 : decode cX12_link 14 = .ok (.ifCond .ne 74, 3) := by decide +kernel
theorem dX12_link_17 : decode cX12_link 17 = .ok (.aload_n 0, 1) := by decide +kernel
theorem dX12_link_18 : decode cX12_link 18 = .ok (.iload_n 2, 1) := by decide +kernel
theorem dX12_link_19 : decode cX12_link 19 = .ok (.aload_n 0, 1) := by decide +kernel
theorem dX12_link_20 : decode cX12_link 20 = .ok (.getfield 118, 3) := by decide +kernel
theorem dX12_link_23 : decode cX12_link 23 = .ok (.invokevirtual 100, 3) := by decide +kernel
theorem dX12_link_26 : decode cX12_link 26 = .ok (.ifCond .ne 62, 3) := by decide +kernel
theorem dX12_link_29 : decode cX12_link 29 = .ok (.aload_n 0, 1) := by decide +kernel
theorem dX12_link_30 : decode cX12_link 30 = .ok (.iload_n 3, 1) := by decide +kernel
theorem dX12_link_31 : decode cX12_link 31 = .ok (.ifCond .lt 23, 3) := by decide +kernel
theorem dX12_link_34 : decode cX12_link 34 = .ok (.iload_n 3, 1) := by decide +kernel
theorem dX12_link_35 : decode cX12_link 35 = .ok (.bipush 99, 2) := by decide +kernel
theorem dX12_link_37 : decode cX12_link 37 = .ok (.if_icmp .gt 17, 3) := by decide +kernel
theorem dX12_link_40 : decode cX12_link 40 = .ok (.iload 5, 2) := by decide +kernel
theorem dX12_link_42 : decode cX12_link 42 = .ok (.ifCond .lt 12, 3) := by decide +kernel
theorem dX12_link_45 : decode cX12_link 45 = .ok (.iload 5, 2) := by decide +kernel
theorem dX12_link_47 : decode cX12_link 47 = .ok (.aload_n 0, 1) := by decide +kernel
theorem dX12_link_48 : decode cX12_link 48 = .ok (.getfield 128, 3) := by decide +kernel
theorem dX12_link_51 : decode cX12_link 51 = .ok (.if_icmp .le 7, 3) := by decide +kernel
theorem dX12_link_54 : decode cX12_link 54 = .ok (.iconst 1, 1) := by decide +kernel
theorem dX12_link_55 : decode cX12_link 55 = .ok (.goto 4, 3) := by decide +kernel
theorem dX12_link_58 : decode cX12_link 58 = .ok (.iconst 0, 1) := by decide +kernel
theorem dX12_link_59 : decode cX12_link 59 = .ok (.iconst 2, 1) := by decide +kernel
theorem dX12_link_60 : decode cX12_link 60 = .ok (.invokevirtual 104, 3) := by decide +kernel
theorem dX12_link_63 : decode cX12_link 63 = .ok (.ifCond .ne 25, 3) := by decide +kernel
theorem dX12_link_66 : decode cX12_link 66 = .ok (.aload_n 0, 1) := by decide +kernel
theorem dX12_link_67 : decode cX12_link 67 = .ok (.aload_n 0, 1) := by decide +kernel
theorem dX12_link_68 : decode cX12_link 68 = .ok (.getfield 205, 3) := by decide +kernel
theorem dX12_link_71 : decode cX12_link 71 = .ok (.bipush 100, 2) := by decide +kernel
theorem dX12_link_73 : decode cX12_link 73 = .ok (.if_icmp .ne 7, 3) := by decide +kernel
theorem dX12_link_76 : decode cX12_link 76 = .ok (.iconst 1, 1) := by decide +kernel
theorem dX12_link_77 : decode cX12_link 77 = .ok (.goto 4, 3) := by decide +kernel
theorem dX12_link_80 : decode cX12_link 80 = .ok (.iconst 0, 1) := by decide +kernel
theorem dX12_link_81 : decode cX12_link 81 = .ok (.iconst 3, 1) := by decide +kernel
theorem dX12_link_82 : decode cX12_link 82 = .ok (.invokevirtual 104, 3) := by decide +kernel
theorem dX12_link_85 : decode cX12_link 85 = .ok (.ifCond .eq 5, 3) := by decide +kernel
theorem dX12_link_88 : decode cX12_link 88 = .ok (.iconst 0, 1) := by decide +kernel
theorem dX12_link_89 : decode cX12_link 89 = .ok (.ireturn, 1) := by decide +kernel
theorem dX12_link_90 : decode cX12_link 90 = .ok (.aload_n 0, 1) := by decide +kernel
theorem dX12_link_91 : decode cX12_link 91 = .ok (.iload 5, 2) := by decide +kernel
theorem dX12_link_93 : decode cX12_link 93 = .ok (.putfield 131, 3) := by decide +kernel
theorem dX12_link_96 : decode cX12_link 96 = .ok (.aload_n 0, 1) := by decide +kernel
theorem dX12_link_97 : decode cX12_link 97 = .ok (.iconst 0, 1) := by decide +kernel
theorem dX12_link_98 : decode cX12_link 98 = .ok (.putfield 128, 3) := by decide +kernel
theorem dX12_link_101 : decode cX12_link 101 = .ok (.aload_n 0, 1) := by decide +kernel
theorem dX12_link_102 : decode cX12_link 102 = .ok (.iconst 0, 1) := by decide +kernel
theorem dX12_link_103 : decode cX12_link 103 = .ok (.putfield 134, 3) := by decide +kernel
theorem dX12_link_106 : decode cX12_link 106 = .ok (.aload_n 0, 1) := by decide +kernel
theorem dX12_link_107 : decode cX12_link 107 = .ok (.iconst 0, 1) := by decide +kernel
theorem dX12_link_108 : decode cX12_link 108 = .ok (.putfield 140, 3) := by decide +kernel
theorem dX12_link_111 : decode cX12_link 111 = .ok (.aload_n 0, 1) := by decide +kernel
theorem dX12_link_112 : decode cX12_link 112 = .ok (.iconst (-1), 1) := by decide +kernel
theorem dX12_link_113 : decode cX12_link 113 = .ok (.putfield 42, 3) := by decide +kernel
theorem dX12_link_116 : decode cX12_link 116 = .ok (.aload_n 0, 1) := by decide +kernel
theorem dX12_link_117 : decode cX12_link 117 = .ok (.iconst 0, 1) := by decide +kernel
theorem dX12_link_118 : decode cX12_link 118 = .ok (.putfield 180, 3) := by decide +kernel
theorem dX12_link_121 : decode cX12_link 121 = .ok (.aload_n 0, 1) := by decide +kernel
theorem dX12_link_122 : decode cX12_link 122 = .ok (.getfield 160, 3) := by decide +kernel
theorem dX12_link_125 : decode cX12_link 125 = .ok (.istore 6, 2) := by decide +kernel
theorem dX12_link_127 : decode cX12_link 127 = .ok (.aload_n 0, 1) := by decide +kernel
theorem dX12_link_128 : decode cX12_link 128 = .ok (.invokevirtual 143, 3) := by decide +kernel
theorem dX12_link_131 : decode cX12_link 131 = .ok (.aload_n 0, 1) := by decide +kernel
theorem dX12_link_132 : decode cX12_link 132 = .ok (.getfield 134, 3) := by decide +kernel
theorem dX12_link_135 : decode cX12_link 135 = .ok (.aload_n 0, 1) := by decide +kernel
theorem dX12_link_136 : decode cX12_link 136 = .ok (.getfield 131, 3) := by decide +kernel
theorem dX12_link_139 : decode cX12_link 139 = .ok (.if_icmp .ge 31, 3) := by decide +kernel
theorem dX12_link_142 : decode cX12_link 142 = .ok (.aload_n 0, 1) := by decide +kernel
theorem dX12_link_143 : decode cX12_link 143 = .ok (.invokevirtual 193, 3) := by decide +kernel
theorem dX12_link_146 : decode cX12_link 146 = .ok (.aload_n 0, 1) := by decide +kernel
theorem dX12_link_147 : decode cX12_link 147 = .ok (.invokevirtual 143, 3) := by decide +kernel
theorem dX12_link_150 : decode cX12_link 150 = .ok (.aload_n 0, 1) := by decide +kernel
theorem dX12_link_151 : decode cX12_link 151 = .ok (.getfield 134, 3) := by decide +kernel
theorem dX12_link_154 : decode cX12_link 154 = .ok (.aload_n 0, 1) := by decide +kernel
theorem dX12_link_155 : decode cX12_link 155 = .ok (.getfield 131, 3) := by decide +kernel
theorem dX12_link_158 : decode cX12_link 158 = .ok (.if_icmp .ge 12, 3) := by decide +kernel
theorem dX12_link_161 : decode cX12_link 161 = .ok (.aload_n 0, 1) := by decide +kernel
theorem dX12_link_162 : decode cX12_link 162 = .ok (.iconst 1, 1) := by decide +kernel
theorem dX12_link_163 : decode cX12_link 163 = .ok (.aload_n 0, 1) := by decide +kernel
theorem dX12_link_164 : decode cX12_link 164 = .ok (.getfield 134, 3) := by decide +kernel
theorem dX12_link_167 : decode cX12_link 167 = .ok (.invokevirtual 183, 3) := by decide +kernel
theorem dX12_link_170 : decode cX12_link 170 = .ok (.aload_n 0, 1) := by decide +kernel
theorem dX12_link_171 : decode cX12_link 171 = .ok (.getfield 140, 3) := by decide +kernel
theorem dX12_link_174 : decode cX12_link 174 = .ok (.ifCond .le 17, 3) := by decide +kernel
theorem dX12_link_177 : decode cX12_link 177 = .ok (.aload_n 0, 1) := by decide +kernel
theorem dX12_link_178 : decode cX12_link 178 = .ok (.iload 6, 2) := by decide +kernel
theorem dX12_link_180 : decode cX12_link 180 = .ok (.putfield 160, 3) := by decide +kernel
theorem dX12_link_183 : decode cX12_link 183 = .ok (.aload_n 0, 1) := by decide +kernel
theorem dX12_link_184 : decode cX12_link 184 = .ok (.getfield 140, 3) := by decide +kernel
theorem dX12_link_187 : decode cX12_link 187 = .ok (.bipush 10, 2) := by decide +kernel
theorem dX12_link_189 : decode cX12_link 189 = .ok (.isub, 1) := by decide +kernel
theorem dX12_link_190 : decode cX12_link 190 = .ok (.ireturn, 1) := by decide +kernel
theorem dX12_link_191 : decode cX12_link 191 = .ok (.aload_n 0, 1) := by decide +kernel
theorem dX12_link_192 : decode cX12_link 192 = .ok (.getfield 67, 3) := by decide +kernel
theorem dX12_link_195 : decode cX12_link 195 = .ok (.aload_n 0, 1) := by decide +kernel
theorem dX12_link_196 : decode cX12_link 196 = .ok (.getfield 205, 3) := by decide +kernel
theorem dX12_link_199 : decode cX12_link 199 = .ok (.iload 6, 2) := by decide +kernel
theorem dX12_link_201 : decode cX12_link 201 = .ok (.iastore, 1) := by decide +kernel
theorem dX12_link_202 : decode cX12_link 202 = .ok (.aload_n 0, 1) := by decide +kernel
theorem dX12_link_203 : decode cX12_link 203 = .ok (.getfield 70, 3) := by decide +kernel
theorem dX12_link_206 : decode cX12_link 206 = .ok (.aload_n 0, 1) := by decide +kernel
theorem dX12_link_207 : decode cX12_link 207 = .ok (.getfield 205, 3) := by decide +kernel
theorem dX12_link_210 : decode cX12_link 210 = .ok (.aload_n 0, 1) := by decide +kernel
theorem dX12_link_211 : decode cX12_link 211 = .ok (.getfield 160, 3) := by decide +kernel
theorem dX12_link_214 : decode cX12_link 214 = .ok (.iastore, 1) := by decide +kernel
theorem dX12_link_215 : decode cX12_link 215 = .ok (.aload_n 0, 1) := by decide +kernel
theorem dX12_link_216 : decode cX12_link 216 = .ok (.getfield 52, 3) := by decide +kernel
theorem dX12_link_219 : decode cX12_link 219 = .ok (.aload_n 0, 1) := by decide +kernel
theorem dX12_link_220 : decode cX12_link 220 = .ok (.getfield 205, 3) := by decide +kernel
theorem dX12_link_223 : decode cX12_link 223 = .ok (.iload_n 1, 1) := by decide +kernel
theorem dX12_link_224 : decode cX12_link 224 = .ok (.iastore, 1) := by decide +kernel
theorem dX12_link_225 : decode cX12_link 225 = .ok (.aload_n 0, 1) := by decide +kernel
theorem dX12_link_226 : decode cX12_link 226 = .ok (.getfield 55, 3) := by decide +kernel
theorem dX12_link_229 : decode cX12_link 229 = .ok (.aload_n 0, 1) := by decide +kernel
theorem dX12_link_230 : decode cX12_link 230 = .ok (.getfield 205, 3) := by decide +kernel
theorem dX12_link_233 : decode cX12_link 233 = .ok (.iload_n 2, 1) := by decide +kernel
theorem dX12_link_234 : decode cX12_link 234 = .ok (.iastore, 1) := by decide +kernel
theorem dX12_link_235 : decode cX12_link 235 = .ok (.aload_n 0, 1) := by decide +kernel
theorem dX12_link_236 : decode cX12_link 236 = .ok (.getfield 58, 3) := by decide +kernel
theorem dX12_link_239 : decode cX12_link 239 = .ok (.aload_n 0, 1) := by decide +kernel
theorem dX12_link_240 : decode cX12_link 240 = .ok (.getfield 205, 3) := by decide +kernel
theorem dX12_link_243 : decode cX12_link 243 = .ok (.iload_n 3, 1) := by decide +kernel
theorem dX12_link_244 : decode cX12_link 244 = .ok (.iastore, 1) := by decide +kernel
theorem dX12_link_245 : decode cX12_link 245 = .ok (.aload_n 0, 1) := by decide +kernel
theorem dX12_link_246 : decode cX12_link 246 = .ok (.getfield 61, 3) := by decide +kernel
theorem dX12_link_249 : decode cX12_link 249 = .ok (.aload_n 0, 1) := by decide +kernel
theorem dX12_link_250 : decode cX12_link 250 = .ok (.getfield 205, 3) := by decide +kernel
theorem dX12_link_253 : decode cX12_link 253 = .ok (.iload 4, 2) := by decide +kernel
theorem dX12_link_255 : decode cX12_link 255 = .ok (.bastore, 1) := by decide +kernel
theorem dX12_link_256 : decode cX12_link 256 = .ok (.aload_n 0, 1) := by decide +kernel
theorem dX12_link_257 : decode cX12_link 257 = .ok (.getfield 205, 3) := by decide +kernel
theorem dX12_link_260 : decode cX12_link 260 = .ok (.istore 7, 2) := by decide +kernel
theorem dX12_link_262 : decode cX12_link 262 = .ok (.iload 7, 2) := by decide +kernel
theorem dX12_link_264 : decode cX12_link 264 = .ok (.ifCond .le 43, 3) := by decide +kernel
theorem dX12_link_267 : decode cX12_link 267 = .ok (.aload_n 0, 1) := by decide +kernel
theorem dX12_link_268 : decode cX12_link 268 = .ok (.getfield 58, 3) := by decide +kernel
theorem dX12_link_271 : decode cX12_link 271 = .ok (.aload_n 0, 1) := by decide +kernel
theorem dX12_link_272 : decode cX12_link 272 = .ok (.getfield 73, 3) := by decide +kernel
theorem dX12_link_275 : decode cX12_link 275 = .ok (.iload 7, 2) := by decide +kernel
theorem dX12_link_277 : decode cX12_link 277 = .ok (.iconst 1, 1) := by decide +kernel
theorem dX12_link_278 : decode cX12_link 278 = .ok (.isub, 1) := by decide +kernel
theorem dX12_link_279 : decode cX12_link 279 = .ok (.iaload, 1) := by decide +kernel
theorem dX12_link_280 : decode cX12_link 280 = .ok (.iaload, 1) := by decide +kernel
theorem dX12_link_281 : decode cX12_link 281 = .ok (.iload_n 3, 1) := by decide +kernel
theorem dX12_link_282 : decode cX12_link 282 = .ok (.if_icmp .le 25, 3) := by decide +kernel
theorem dX12_link_285 : decode cX12_link 285 = .ok (.aload_n 0, 1) := by decide +kernel
theorem dX12_link_286 : decode cX12_link 286 = .ok (.getfield 73, 3) := by decide +kernel
theorem dX12_link_289 : decode cX12_link 289 = .ok (.iload 7, 2) := by decide +kernel
theorem dX12_link_291 : decode cX12_link 291 = .ok (.aload_n 0, 1) := by decide +kernel
theorem dX12_link_292 : decode cX12_link 292 = .ok (.getfield 73, 3) := by decide +kernel
theorem dX12_link_295 : decode cX12_link 295 = .ok (.iload 7, 2) := by decide +kernel
theorem dX12_link_297 : decode cX12_link 297 = .ok (.iconst 1, 1) := by decide +kernel
theorem dX12_link_298 : decode cX12_link 298 = .ok (.isub, 1) := by decide +kernel
theorem dX12_link_299 : decode cX12_link 299 = .ok (.iaload, 1) := by decide +kernel
theorem dX12_link_300 : decode cX12_link 300 = .ok (.iastore, 1) := by decide +kernel
theorem dX12_link_301 : decode cX12_link 301 = .ok (.iinc 7 (-1), 3) := by decide +kernel
theorem dX12_link_304 : decode cX12_link 304 = .ok (.goto (-42), 3) := by decide +kernel
theorem dX12_link_307 : decode cX12_link 307 = .ok (.aload_n 0, 1) := by decide +kernel
theorem dX12_link_308 : decode cX12_link 308 = .ok (.getfield 73, 3) := by decide +kernel
theorem dX12_link_311 : decode cX12_link 311 = .ok (.iload 7, 2) := by decide +kernel
theorem dX12_link_313 : decode cX12_link 313 = .ok (.aload_n 0, 1) := by decide +kernel
theorem dX12_link_314 : decode cX12_link 314 = .ok (.getfield 205, 3) := by decide +kernel
theorem dX12_link_317 : decode cX12_link 317 = .ok (.iastore, 1) := by decide +kernel
theorem dX12_link_318 : decode cX12_link 318 = .ok (.aload_n 0, 1) := by decide +kernel
theorem dX12_link_319 : decode cX12_link 319 = .ok (.dup, 1) := by decide +kernel
theorem dX12_link_320 : decode cX12_link 320 = .ok (.getfield 205, 3) := by decide +kernel
theorem dX12_link_323 : decode cX12_link 323 = .ok (.iconst 1, 1) := by decide +kernel
theorem dX12_link_324 : decode cX12_link 324 = .ok (.iadd, 1) := by decide +kernel
theorem dX12_link_325 : decode cX12_link 325 = .ok (.putfield 205, 3) := by decide +kernel
theorem dX12_link_328 : decode cX12_link 328 = .ok (.aload_n 0, 1) := by decide +kernel
theorem dX12_link_329 : decode cX12_link 329 = .ok (.getfield 205, 3) := by decide +kernel
theorem dX12_link_332 : decode cX12_link 332 = .ok (.iconst 1, 1) := by decide +kernel
theorem dX12_link_333 : decode cX12_link 333 = .ok (.isub, 1) := by decide +kernel
theorem dX12_link_334 : decode cX12_link 334 = .ok (.ireturn, 1) := by decide +kernel
def f_X12_link_88 (Z : Nat → Nat) : Mo Int32 := mp (0 : Int32)
set_option maxRecDepth 100000 in
set_option maxHeartbeats 4000000 in
theorem s_X12_link_88 {X : Cg} (cx : Cx X cX12_link RX12 8) (hfr : 71 ≤ (xR X).frames) (hlo : 1320 ≤ (xR X).locals) (hr : (xM X).sig.returnType = (some .int)) : Sim X 8 (FiM X vI) 88 [] [] (f_X12_link_88 (xZ X)) := by
  unfold f_X12_link_88
  refine sm_iconst (v := 0) cx dX12_link_88 (by decide) ?_
  exact sm_iret cx hr dX12_link_89
def f_X12_link_307 (Z : Nat → Nat) (r0 : Option Nat) (x7 : Int32) : Mo Int32 := mb (gR 15 31 r0) (fun v308 => mb (gI 15 32 r0) (fun v314 => mb (sI 1 v308 x7 v314) (fun _ => mb (gI 15 32 r0) (fun v320 => mb (pV 15 32 r0 (.int (v320 + (1 : Int32)))) (fun _ => mb (gI 15 32 r0) (fun v329 => mp (v329 - (1 : Int32))))))))
set_option maxRecDepth 100000 in
set_option maxHeartbeats 4000000 in
theorem s_X12_link_307 {X : Cg} (cx : Cx X cX12_link RX12 8) (hfr : 71 ≤ (xR X).frames) (hlo : 1320 ≤ (xR X).locals) (hr : (xM X).sig.returnType = (some .int)) (r0 : Option Nat) (x7 : Int32) : Sim X 8 (FiM X vI) 307 [(0, va_rf r0), (7, .int x7)] [] (f_X12_link_307 (xZ X) r0 x7) := by
  unfold f_X12_link_307
  refine sm_aload_n cx 0 dX12_link_307 rfl rfl ?_
  refine sm_getR cx fl_X12_73 dX12_link_308 (fun v308 => ?_)
  refine sm_iload cx 1 dX12_link_311 rfl ?_
  refine sm_aload_n cx 0 dX12_link_313 rfl rfl ?_
  refine sm_getI cx fl_X12_205 dX12_link_314 (fun v314 => ?_)
  refine sm_iast cx dX12_link_317 ?_
  refine sm_aload_n cx 0 dX12_link_318 rfl rfl ?_
  refine sm_dup cx dX12_link_319 (rf_cat _) ?_
  refine sm_getI cx fl_X12_205 dX12_link_320 (fun v320 => ?_)
  refine sm_iconst (v := 1) cx dX12_link_323 (by decide) ?_
  refine sm_iadd cx dX12_link_324 ?_
  refine sm_putV cx fl_X12_205 rfl rfl dX12_link_325 ?_
  refine sm_aload_n cx 0 dX12_link_328 rfl rfl ?_
  refine sm_getI cx fl_X12_205 dX12_link_329 (fun v329 => ?_)
  refine sm_iconst (v := 1) cx dX12_link_332 (by decide) ?_
  refine sm_isub cx dX12_link_333 ?_
  exact sm_iret cx hr dX12_link_334
def f_X12_link_262 (Z : Nat → Nat) (r0 : Option Nat) (x3 : Int32) : Nat → Int32 → Mo Int32
  | 0, _ => mf
  | n + 1, x7 => (if x7 ≤ 0 then f_X12_link_307 Z r0 x7 else mb (gR 15 26 r0) (fun v268 => mb (gR 15 31 r0) (fun v272 => mb (aI 1 v272 (x7 - (1 : Int32))) (fun v279 => mb (aI 1 v268 v279) (fun v280 => (if v280 ≤ x3 then f_X12_link_307 Z r0 x7 else mb (gR 15 31 r0) (fun v286 => mb (gR 15 31 r0) (fun v292 => mb (aI 1 v292 (x7 - (1 : Int32))) (fun v299 => mb (sI 1 v286 x7 v299) (fun _ => (f_X12_link_262 Z r0 x3 n) (x7 + (-1))))))))))))
set_option maxRecDepth 100000 in
set_option maxHeartbeats 4000000 in
theorem s_X12_link_262 {X : Cg} (cx : Cx X cX12_link RX12 8) (hfr : 71 ≤ (xR X).frames) (hlo : 1320 ≤ (xR X).locals) (hr : (xM X).sig.returnType = (some .int)) (r0 : Option Nat) (x3 : Int32) : ∀ (n : Nat) (x7 : Int32), Sim X 8 (FiM X vI) 262 [(0, va_rf r0), (3, .int x3), (7, .int x7)] [] (f_X12_link_262 (xZ X) r0 x3 n x7) := by
  intro n
  induction n with
  | zero =>
    intro _
    exact sm_mf
  | succ n ih =>
    intro x7
    rw [f_X12_link_262]
    refine sm_iload cx 2 dX12_link_262 rfl ?_
    refine sm_if_le (tgt := 307) cx dX12_link_264 (by decide) ?_ ?_
    · exact sm_lv [0, 2] rfl (s_X12_link_307 cx hfr hlo hr r0 x7)
    · refine sm_aload_n cx 0 dX12_link_267 rfl rfl ?_
      refine sm_getR cx fl_X12_58 dX12_link_268 (fun v268 => ?_)
      refine sm_aload_n cx 0 dX12_link_271 rfl rfl ?_
      refine sm_getR cx fl_X12_73 dX12_link_272 (fun v272 => ?_)
      refine sm_iload cx 2 dX12_link_275 rfl ?_
      refine sm_iconst (v := 1) cx dX12_link_277 (by decide) ?_
      refine sm_isub cx dX12_link_278 ?_
      refine sm_iald cx dX12_link_279 (fun v279 => ?_)
      refine sm_iald cx dX12_link_280 (fun v280 => ?_)
      refine sm_iload_n cx 1 dX12_link_281 rfl rfl ?_
      refine sm_icmp_le (tgt := 307) cx dX12_link_282 (by decide) ?_ ?_
      · exact sm_lv [0, 2] rfl (s_X12_link_307 cx hfr hlo hr r0 x7)
      · refine sm_aload_n cx 0 dX12_link_285 rfl rfl ?_
        refine sm_getR cx fl_X12_73 dX12_link_286 (fun v286 => ?_)
        refine sm_iload cx 2 dX12_link_289 rfl ?_
        refine sm_aload_n cx 0 dX12_link_291 rfl rfl ?_
        refine sm_getR cx fl_X12_73 dX12_link_292 (fun v292 => ?_)
        refine sm_iload cx 2 dX12_link_295 rfl ?_
        refine sm_iconst (v := 1) cx dX12_link_297 (by decide) ?_
        refine sm_isub cx dX12_link_298 ?_
        refine sm_iald cx dX12_link_299 (fun v299 => ?_)
        refine sm_iast cx dX12_link_300 ?_
        refine sm_iinc cx 2 [(7, .int (x7 + (-1))), (0, va_rf r0), (3, .int x3)] dX12_link_301 rfl rfl (by decide) rfl nc0 rfl ?_
        refine sm_goto (tgt := 262) cx dX12_link_304 (by decide) ?_
        exact sm_lv [1, 2, 0] rfl (ih (x7 + (-1)))
def f_X12_link_170 (Z : Nat → Nat) (r0 : Option Nat) (x1 : Int32) (x2 : Int32) (x3 : Int32) (x4 : Int32) (x6 : Int32) : Mo Int32 := mb (gI 15 18 r0) (fun v171 => (if v171 ≤ 0 then mb (gR 15 29 r0) (fun v192 => mb (gI 15 32 r0) (fun v196 => mb (sI 1 v192 v196 x6) (fun _ => mb (gR 15 30 r0) (fun v203 => mb (gI 15 32 r0) (fun v207 => mb (gI 15 22 r0) (fun v211 => mb (sI 1 v203 v207 v211) (fun _ => mb (gR 15 24 r0) (fun v216 => mb (gI 15 32 r0) (fun v220 => mb (sI 1 v216 v220 x1) (fun _ => mb (gR 15 25 r0) (fun v226 => mb (gI 15 32 r0) (fun v230 => mb (sI 1 v226 v230 x2) (fun _ => mb (gR 15 26 r0) (fun v236 => mb (gI 15 32 r0) (fun v240 => mb (sI 1 v236 v240 x3) (fun _ => mb (gR 15 27 r0) (fun v246 => mb (gI 15 32 r0) (fun v250 => mb (sI 3 v246 v250 x4) (fun _ => mb (gI 15 32 r0) (fun v257 => f_X12_link_262 Z r0 x3 fuL v257)))))))))))))))))))) else mb (pV 15 22 r0 (.int x6)) (fun _ => mb (gI 15 18 r0) (fun v184 => mp (v184 - (10 : Int32))))))
set_option maxRecDepth 100000 in
set_option maxHeartbeats 4000000 in
theorem s_X12_link_170 {X : Cg} (cx : Cx X cX12_link RX12 8) (hfr : 71 ≤ (xR X).frames) (hlo : 1320 ≤ (xR X).locals) (hr : (xM X).sig.returnType = (some .int)) (r0 : Option Nat) (x1 : Int32) (x2 : Int32) (x3 : Int32) (x4 : Int32) (x6 : Int32) : Sim X 8 (FiM X vI) 170 [(0, va_rf r0), (1, .int x1), (2, .int x2), (3, .int x3), (4, .int x4), (6, .int x6)] [] (f_X12_link_170 (xZ X) r0 x1 x2 x3 x4 x6) := by
  unfold f_X12_link_170
  refine sm_aload_n cx 0 dX12_link_170 rfl rfl ?_
  refine sm_getI cx fl_X12_140 dX12_link_171 (fun v171 => ?_)
  refine sm_if_le (tgt := 191) cx dX12_link_174 (by decide) ?_ ?_
  · refine sm_aload_n cx 0 dX12_link_191 rfl rfl ?_
    refine sm_getR cx fl_X12_67 dX12_link_192 (fun v192 => ?_)
    refine sm_aload_n cx 0 dX12_link_195 rfl rfl ?_
    refine sm_getI cx fl_X12_205 dX12_link_196 (fun v196 => ?_)
    refine sm_iload cx 5 dX12_link_199 rfl ?_
    refine sm_iast cx dX12_link_201 ?_
    refine sm_aload_n cx 0 dX12_link_202 rfl rfl ?_
    refine sm_getR cx fl_X12_70 dX12_link_203 (fun v203 => ?_)
    refine sm_aload_n cx 0 dX12_link_206 rfl rfl ?_
    refine sm_getI cx fl_X12_205 dX12_link_207 (fun v207 => ?_)
    refine sm_aload_n cx 0 dX12_link_210 rfl rfl ?_
    refine sm_getI cx fl_X12_160 dX12_link_211 (fun v211 => ?_)
    refine sm_iast cx dX12_link_214 ?_
    refine sm_aload_n cx 0 dX12_link_215 rfl rfl ?_
    refine sm_getR cx fl_X12_52 dX12_link_216 (fun v216 => ?_)
    refine sm_aload_n cx 0 dX12_link_219 rfl rfl ?_
    refine sm_getI cx fl_X12_205 dX12_link_220 (fun v220 => ?_)
    refine sm_iload_n cx 1 dX12_link_223 rfl rfl ?_
    refine sm_iast cx dX12_link_224 ?_
    refine sm_aload_n cx 0 dX12_link_225 rfl rfl ?_
    refine sm_getR cx fl_X12_55 dX12_link_226 (fun v226 => ?_)
    refine sm_aload_n cx 0 dX12_link_229 rfl rfl ?_
    refine sm_getI cx fl_X12_205 dX12_link_230 (fun v230 => ?_)
    refine sm_iload_n cx 2 dX12_link_233 rfl rfl ?_
    refine sm_iast cx dX12_link_234 ?_
    refine sm_aload_n cx 0 dX12_link_235 rfl rfl ?_
    refine sm_getR cx fl_X12_58 dX12_link_236 (fun v236 => ?_)
    refine sm_aload_n cx 0 dX12_link_239 rfl rfl ?_
    refine sm_getI cx fl_X12_205 dX12_link_240 (fun v240 => ?_)
    refine sm_iload_n cx 3 dX12_link_243 rfl rfl ?_
    refine sm_iast cx dX12_link_244 ?_
    refine sm_aload_n cx 0 dX12_link_245 rfl rfl ?_
    refine sm_getR cx fl_X12_61 dX12_link_246 (fun v246 => ?_)
    refine sm_aload_n cx 0 dX12_link_249 rfl rfl ?_
    refine sm_getI cx fl_X12_205 dX12_link_250 (fun v250 => ?_)
    refine sm_iload cx 4 dX12_link_253 rfl ?_
    refine sm_zast cx dX12_link_255 ?_
    refine sm_aload_n cx 0 dX12_link_256 rfl rfl ?_
    refine sm_getI cx fl_X12_205 dX12_link_257 (fun v257 => ?_)
    refine sm_istore cx [(7, .int v257), (0, va_rf r0), (1, .int x1), (2, .int x2), (3, .int x3), (4, .int x4), (6, .int x6)] dX12_link_260 (by decide) rfl (nc1 rfl) rfl ?_
    exact sm_lv [1, 4, 0] rfl (s_X12_link_262 cx hfr hlo hr r0 x3 fuL v257)
  · refine sm_aload_n cx 0 dX12_link_177 rfl rfl ?_
    refine sm_iload cx 5 dX12_link_178 rfl ?_
    refine sm_putV cx fl_X12_160 rfl rfl dX12_link_180 ?_
    refine sm_aload_n cx 0 dX12_link_183 rfl rfl ?_
    refine sm_getI cx fl_X12_140 dX12_link_184 (fun v184 => ?_)
    refine sm_bipush (v := 10) cx dX12_link_187 (by decide) ?_
    refine sm_isub cx dX12_link_189 ?_
    exact sm_iret cx hr dX12_link_190
def f_X12_link_81 (Z : Nat → Nat) (r0 : Option Nat) (x1 : Int32) (x2 : Int32) (x3 : Int32) (x4 : Int32) (x5 : Int32) (sr0 : Option Nat) (sx1 : Int32) : Mo Int32 := mb (mo 15 sr0 (f_X12_bad sr0 sx1 (3 : Int32))) (fun v82 => (if v82 = 0 then mb (pV 15 16 r0 (.int x5)) (fun _ => mb (pV 15 15 r0 (.int (0 : Int32))) (fun _ => mb (pV 15 17 r0 (.int (0 : Int32))) (fun _ => mb (pV 15 18 r0 (.int (0 : Int32))) (fun _ => mb (pV 15 19 r0 (.int (-1 : Int32))) (fun _ => mb (pV 15 20 r0 (.int (0 : Int32))) (fun _ => mb (gI 15 22 r0) (fun v122 => mb (mo 15 r0 (f_X12_blanks r0)) (fun _ => mb (gI 15 17 r0) (fun v132 => mb (gI 15 16 r0) (fun v136 => (if v136 ≤ v132 then f_X12_link_170 Z r0 x1 x2 x3 x4 v122 else mb (mo 15 r0 (f_X12_anyC Z r0)) (fun _ => mb (mo 15 r0 (f_X12_blanks r0)) (fun _ => mb (gI 15 17 r0) (fun v151 => mb (gI 15 16 r0) (fun v155 => (if v155 ≤ v151 then f_X12_link_170 Z r0 x1 x2 x3 x4 v122 else mb (gI 15 17 r0) (fun v164 => mb (mo 15 r0 (f_X12_wrong r0 (1 : Int32) v164)) (fun _ => f_X12_link_170 Z r0 x1 x2 x3 x4 v122)))))))))))))))))) else f_X12_link_88 Z))
set_option maxRecDepth 100000 in
set_option maxHeartbeats 4000000 in
theorem s_X12_link_81 {X : Cg} (cx : Cx X cX12_link RX12 8) (hfr : 71 ≤ (xR X).frames) (hlo : 1320 ≤ (xR X).locals) (hr : (xM X).sig.returnType = (some .int)) (r0 : Option Nat) (x1 : Int32) (x2 : Int32) (x3 : Int32) (x4 : Int32) (x5 : Int32) (sr0 : Option Nat) (sx1 : Int32) : Sim X 8 (FiM X vI) 81 [(0, va_rf r0), (1, .int x1), (2, .int x2), (3, .int x3), (4, .int x4), (5, .int x5)] [.int sx1, va_rf sr0] (f_X12_link_81 (xZ X) r0 x1 x2 x3 x4 x5 sr0 sx1) := by
  unfold f_X12_link_81
  refine sm_iconst (v := 3) cx dX12_link_81 (by decide) ?_
  refine sm_callV (T := TX12) (N := 47) (toV := vI) cx [.int sx1, .int (3 : Int32)] rfl cv_X12_104 (fun a h => ct_X12_bad (xZ X) a h sx1 (3 : Int32)) (Nat.le_trans (by decide) hfr) (Nat.le_trans (by decide) hlo) rfl (cat_le _ (Nat.le_of_ble_eq_true rfl)) dX12_link_82 (fun v82 => ?_)
  refine sm_if_eq (tgt := 90) cx dX12_link_85 (by decide) ?_ ?_
  · refine sm_aload_n cx 0 dX12_link_90 rfl rfl ?_
    refine sm_iload cx 5 dX12_link_91 rfl ?_
    refine sm_putV cx fl_X12_131 rfl rfl dX12_link_93 ?_
    refine sm_aload_n cx 0 dX12_link_96 rfl rfl ?_
    refine sm_iconst (v := 0) cx dX12_link_97 (by decide) ?_
    refine sm_putV cx fl_X12_128 rfl rfl dX12_link_98 ?_
    refine sm_aload_n cx 0 dX12_link_101 rfl rfl ?_
    refine sm_iconst (v := 0) cx dX12_link_102 (by decide) ?_
    refine sm_putV cx fl_X12_134 rfl rfl dX12_link_103 ?_
    refine sm_aload_n cx 0 dX12_link_106 rfl rfl ?_
    refine sm_iconst (v := 0) cx dX12_link_107 (by decide) ?_
    refine sm_putV cx fl_X12_140 rfl rfl dX12_link_108 ?_
    refine sm_aload_n cx 0 dX12_link_111 rfl rfl ?_
    refine sm_iconst (v := -1) cx dX12_link_112 (by decide) ?_
    refine sm_putV cx fl_X12_42 rfl rfl dX12_link_113 ?_
    refine sm_aload_n cx 0 dX12_link_116 rfl rfl ?_
    refine sm_iconst (v := 0) cx dX12_link_117 (by decide) ?_
    refine sm_putV cx fl_X12_180 rfl rfl dX12_link_118 ?_
    refine sm_aload_n cx 0 dX12_link_121 rfl rfl ?_
    refine sm_getI cx fl_X12_160 dX12_link_122 (fun v122 => ?_)
    refine sm_istore cx [(6, .int v122), (0, va_rf r0), (1, .int x1), (2, .int x2), (3, .int x3), (4, .int x4), (5, .int x5)] dX12_link_125 (by decide) rfl (nc1 rfl) rfl ?_
    refine sm_aload_n cx 1 dX12_link_127 rfl rfl ?_
    refine sm_callV (T := TX12) (N := 47) (toV := vV) cx [] rfl cv_X12_143 (fun a h => ct_X12_blanks (xZ X) a h) (Nat.le_trans (by decide) hfr) (Nat.le_trans (by decide) hlo) rfl (cat_le _ (Nat.le_of_ble_eq_true rfl)) dX12_link_128 (fun _ => ?_)
    refine sm_aload_n cx 1 dX12_link_131 rfl rfl ?_
    refine sm_getI cx fl_X12_134 dX12_link_132 (fun v132 => ?_)
    refine sm_aload_n cx 1 dX12_link_135 rfl rfl ?_
    refine sm_getI cx fl_X12_131 dX12_link_136 (fun v136 => ?_)
    refine sm_icmp_ge (tgt := 170) cx dX12_link_139 (by decide) ?_ ?_
    · exact sm_lv [1, 2, 3, 4, 5, 0] rfl (s_X12_link_170 cx hfr hlo hr r0 x1 x2 x3 x4 v122)
    · refine sm_aload_n cx 1 dX12_link_142 rfl rfl ?_
      refine sm_callV (T := TX12) (N := 47) (toV := vV) cx [] rfl cv_X12_193 (fun a h => ct_X12_anyC (xZ X) a h) (Nat.le_trans (by decide) hfr) (Nat.le_trans (by decide) hlo) rfl (cat_le _ (Nat.le_of_ble_eq_true rfl)) dX12_link_143 (fun _ => ?_)
      refine sm_aload_n cx 1 dX12_link_146 rfl rfl ?_
      refine sm_callV (T := TX12) (N := 47) (toV := vV) cx [] rfl cv_X12_143 (fun a h => ct_X12_blanks (xZ X) a h) (Nat.le_trans (by decide) hfr) (Nat.le_trans (by decide) hlo) rfl (cat_le _ (Nat.le_of_ble_eq_true rfl)) dX12_link_147 (fun _ => ?_)
      refine sm_aload_n cx 1 dX12_link_150 rfl rfl ?_
      refine sm_getI cx fl_X12_134 dX12_link_151 (fun v151 => ?_)
      refine sm_aload_n cx 1 dX12_link_154 rfl rfl ?_
      refine sm_getI cx fl_X12_131 dX12_link_155 (fun v155 => ?_)
      refine sm_icmp_ge (tgt := 170) cx dX12_link_158 (by decide) ?_ ?_
      · exact sm_lv [1, 2, 3, 4, 5, 0] rfl (s_X12_link_170 cx hfr hlo hr r0 x1 x2 x3 x4 v122)
      · refine sm_aload_n cx 1 dX12_link_161 rfl rfl ?_
        refine sm_iconst (v := 1) cx dX12_link_162 (by decide) ?_
        refine sm_aload_n cx 1 dX12_link_163 rfl rfl ?_
        refine sm_getI cx fl_X12_134 dX12_link_164 (fun v164 => ?_)
        refine sm_callV (T := TX12) (N := 47) (toV := vV) cx [.int (1 : Int32), .int v164] rfl cv_X12_183 (fun a h => ct_X12_wrong (xZ X) a h (1 : Int32) v164) (Nat.le_trans (by decide) hfr) (Nat.le_trans (by decide) hlo) rfl (cat_le _ (Nat.le_of_ble_eq_true rfl)) dX12_link_167 (fun _ => ?_)
        exact sm_lv [1, 2, 3, 4, 5, 0] rfl (s_X12_link_170 cx hfr hlo hr r0 x1 x2 x3 x4 v122)
  · exact sm_lv [] rfl (s_X12_link_88 cx hfr hlo hr)
def f_X12_link_59 (Z : Nat → Nat) (r0 : Option Nat) (x1 : Int32) (x2 : Int32) (x3 : Int32) (x4 : Int32) (x5 : Int32) (sr0 : Option Nat) (sx1 : Int32) : Mo Int32 := mb (mo 15 sr0 (f_X12_bad sr0 sx1 (2 : Int32))) (fun v60 => (if v60 = 0 then mb (gI 15 32 r0) (fun v68 => (if v68 = (100 : Int32) then f_X12_link_81 Z r0 x1 x2 x3 x4 x5 r0 (1 : Int32) else f_X12_link_81 Z r0 x1 x2 x3 x4 x5 r0 (0 : Int32))) else f_X12_link_88 Z))
set_option maxRecDepth 100000 in
set_option maxHeartbeats 4000000 in
theorem s_X12_link_59 {X : Cg} (cx : Cx X cX12_link RX12 8) (hfr : 71 ≤ (xR X).frames) (hlo : 1320 ≤ (xR X).locals) (hr : (xM X).sig.returnType = (some .int)) (r0 : Option Nat) (x1 : Int32) (x2 : Int32) (x3 : Int32) (x4 : Int32) (x5 : Int32) (sr0 : Option Nat) (sx1 : Int32) : Sim X 8 (FiM X vI) 59 [(0, va_rf r0), (1, .int x1), (2, .int x2), (3, .int x3), (4, .int x4), (5, .int x5)] [.int sx1, va_rf sr0] (f_X12_link_59 (xZ X) r0 x1 x2 x3 x4 x5 sr0 sx1) := by
  unfold f_X12_link_59
  refine sm_iconst (v := 2) cx dX12_link_59 (by decide) ?_
  refine sm_callV (T := TX12) (N := 47) (toV := vI) cx [.int sx1, .int (2 : Int32)] rfl cv_X12_104 (fun a h => ct_X12_bad (xZ X) a h sx1 (2 : Int32)) (Nat.le_trans (by decide) hfr) (Nat.le_trans (by decide) hlo) rfl (cat_le _ (Nat.le_of_ble_eq_true rfl)) dX12_link_60 (fun v60 => ?_)
  refine sm_if_ne (tgt := 88) cx dX12_link_63 (by decide) ?_ ?_
  · exact sm_lv [] rfl (s_X12_link_88 cx hfr hlo hr)
  · refine sm_aload_n cx 0 dX12_link_66 rfl rfl ?_
    refine sm_aload_n cx 0 dX12_link_67 rfl rfl ?_
    refine sm_getI cx fl_X12_205 dX12_link_68 (fun v68 => ?_)
    refine sm_bipush (v := 100) cx dX12_link_71 (by decide) ?_
    refine sm_icmp_ne (tgt := 80) cx dX12_link_73 (by decide) ?_ ?_
    · refine sm_iconst (v := 0) cx dX12_link_80 (by decide) ?_
      exact sm_lv [0, 1, 2, 3, 4, 5] rfl (s_X12_link_81 cx hfr hlo hr r0 x1 x2 x3 x4 x5 r0 (0 : Int32))
    · refine sm_iconst (v := 1) cx dX12_link_76 (by decide) ?_
      refine sm_goto (tgt := 81) cx dX12_link_77 (by decide) ?_
      exact sm_lv [0, 1, 2, 3, 4, 5] rfl (s_X12_link_81 cx hfr hlo hr r0 x1 x2 x3 x4 x5 r0 (1 : Int32))
def f_X12_link_54 (Z : Nat → Nat) (r0 : Option Nat) (x1 : Int32) (x2 : Int32) (x3 : Int32) (x4 : Int32) (x5 : Int32) (sr0 : Option Nat) : Mo Int32 := f_X12_link_59 Z r0 x1 x2 x3 x4 x5 sr0 (1 : Int32)
set_option maxRecDepth 100000 in
set_option maxHeartbeats 4000000 in
theorem s_X12_link_54 {X : Cg} (cx : Cx X cX12_link RX12 8) (hfr : 71 ≤ (xR X).frames) (hlo : 1320 ≤ (xR X).locals) (hr : (xM X).sig.returnType = (some .int)) (r0 : Option Nat) (x1 : Int32) (x2 : Int32) (x3 : Int32) (x4 : Int32) (x5 : Int32) (sr0 : Option Nat) : Sim X 8 (FiM X vI) 54 [(0, va_rf r0), (1, .int x1), (2, .int x2), (3, .int x3), (4, .int x4), (5, .int x5)] [va_rf sr0] (f_X12_link_54 (xZ X) r0 x1 x2 x3 x4 x5 sr0) := by
  unfold f_X12_link_54
  refine sm_iconst (v := 1) cx dX12_link_54 (by decide) ?_
  refine sm_goto (tgt := 59) cx dX12_link_55 (by decide) ?_
  exact sm_lv [0, 1, 2, 3, 4, 5] rfl (s_X12_link_59 cx hfr hlo hr r0 x1 x2 x3 x4 x5 sr0 (1 : Int32))
def f_X12_link (Z : Nat → Nat) (r0 : Option Nat) (x1 : Int32) (x2 : Int32) (x3 : Int32) (x4 : Int32) (x5 : Int32) : Mo Int32 := mb (pV 15 0 r0 (.int (0 : Int32))) (fun _ => mb (gI 15 3 r0) (fun v8 => mb (mo 15 r0 (f_X12_none r0 x1 v8)) (fun v11 => (if v11 = 0 then mb (gI 15 12 r0) (fun v20 => mb (mo 15 r0 (f_X12_none r0 x2 v20)) (fun v23 => (if v23 = 0 then (if x3 < 0 then f_X12_link_54 Z r0 x1 x2 x3 x4 x5 r0 else (if (99 : Int32) < x3 then f_X12_link_54 Z r0 x1 x2 x3 x4 x5 r0 else (if x5 < 0 then f_X12_link_54 Z r0 x1 x2 x3 x4 x5 r0 else mb (gI 15 15 r0) (fun v48 => (if x5 ≤ v48 then f_X12_link_59 Z r0 x1 x2 x3 x4 x5 r0 (0 : Int32) else f_X12_link_54 Z r0 x1 x2 x3 x4 x5 r0))))) else f_X12_link_88 Z))) else f_X12_link_88 Z))))
set_option maxRecDepth 100000 in
set_option maxHeartbeats 4000000 in
theorem s_X12_link {X : Cg} (cx : Cx X cX12_link RX12 8) (hfr : 71 ≤ (xR X).frames) (hlo : 1320 ≤ (xR X).locals) (hr : (xM X).sig.returnType = (some .int)) (r0 : Option Nat) (x1 : Int32) (x2 : Int32) (x3 : Int32) (x4 : Int32) (x5 : Int32) : Sim X 8 (FiM X vI) 0 [(0, va_rf r0), (1, .int x1), (2, .int x2), (3, .int x3), (4, .int x4), (5, .int x5)] [] (f_X12_link (xZ X) r0 x1 x2 x3 x4 x5) := by
  unfold f_X12_link
  refine sm_aload_n cx 0 dX12_link_0 rfl rfl ?_
  refine sm_iconst (v := 0) cx dX12_link_1 (by decide) ?_
  refine sm_putV cx fl_X12_97 rfl rfl dX12_link_2 ?_
  refine sm_aload_n cx 0 dX12_link_5 rfl rfl ?_
  refine sm_iload_n cx 1 dX12_link_6 rfl rfl ?_
  refine sm_aload_n cx 0 dX12_link_7 rfl rfl ?_
  refine sm_getI cx fl_X12_94 dX12_link_8 (fun v8 => ?_)
  refine sm_callV (T := TX12) (N := 47) (toV := vI) cx [.int x1, .int v8] rfl cv_X12_100 (fun a h => ct_X12_none (xZ X) a h x1 v8) (Nat.le_trans (by decide) hfr) (Nat.le_trans (by decide) hlo) rfl (cat_le _ (Nat.le_of_ble_eq_true rfl)) dX12_link_11 (fun v11 => ?_)
  refine sm_if_ne (tgt := 88) cx dX12_link_14 (by decide) ?_ ?_
  · exact sm_lv [] rfl (s_X12_link_88 cx hfr hlo hr)
  · refine sm_aload_n cx 0 dX12_link_17 rfl rfl ?_
    refine sm_iload_n cx 2 dX12_link_18 rfl rfl ?_
    refine sm_aload_n cx 0 dX12_link_19 rfl rfl ?_
    refine sm_getI cx fl_X12_118 dX12_link_20 (fun v20 => ?_)
    refine sm_callV (T := TX12) (N := 47) (toV := vI) cx [.int x2, .int v20] rfl cv_X12_100 (fun a h => ct_X12_none (xZ X) a h x2 v20) (Nat.le_trans (by decide) hfr) (Nat.le_trans (by decide) hlo) rfl (cat_le _ (Nat.le_of_ble_eq_true rfl)) dX12_link_23 (fun v23 => ?_)
    refine sm_if_ne (tgt := 88) cx dX12_link_26 (by decide) ?_ ?_
    · exact sm_lv [] rfl (s_X12_link_88 cx hfr hlo hr)
    · refine sm_aload_n cx 0 dX12_link_29 rfl rfl ?_
      refine sm_iload_n cx 3 dX12_link_30 rfl rfl ?_
      refine sm_if_lt (tgt := 54) cx dX12_link_31 (by decide) ?_ ?_
      · exact sm_lv [0, 1, 2, 3, 4, 5] rfl (s_X12_link_54 cx hfr hlo hr r0 x1 x2 x3 x4 x5 r0)
      · refine sm_iload_n cx 3 dX12_link_34 rfl rfl ?_
        refine sm_bipush (v := 99) cx dX12_link_35 (by decide) ?_
        refine sm_icmp_gt (tgt := 54) cx dX12_link_37 (by decide) ?_ ?_
        · exact sm_lv [0, 1, 2, 3, 4, 5] rfl (s_X12_link_54 cx hfr hlo hr r0 x1 x2 x3 x4 x5 r0)
        · refine sm_iload cx 5 dX12_link_40 rfl ?_
          refine sm_if_lt (tgt := 54) cx dX12_link_42 (by decide) ?_ ?_
          · exact sm_lv [0, 1, 2, 3, 4, 5] rfl (s_X12_link_54 cx hfr hlo hr r0 x1 x2 x3 x4 x5 r0)
          · refine sm_iload cx 5 dX12_link_45 rfl ?_
            refine sm_aload_n cx 0 dX12_link_47 rfl rfl ?_
            refine sm_getI cx fl_X12_128 dX12_link_48 (fun v48 => ?_)
            refine sm_icmp_le (tgt := 58) cx dX12_link_51 (by decide) ?_ ?_
            · refine sm_iconst (v := 0) cx dX12_link_58 (by decide) ?_
              exact sm_lv [0, 1, 2, 3, 4, 5] rfl (s_X12_link_59 cx hfr hlo hr r0 x1 x2 x3 x4 x5 r0 (0 : Int32))
            · exact sm_lv [0, 1, 2, 3, 4, 5] rfl (s_X12_link_54 cx hfr hlo hr r0 x1 x2 x3 x4 x5 r0)
set_option maxRecDepth 100000 in
set_option maxHeartbeats 4000000 in
theorem ct_X12_link (Z : Nat → Nat) {r0 : Option Nat} (a0 : Nat) (h0 : r0 = some a0) (x1 : Int32) (x2 : Int32) (x3 : Int32) (x4 : Int32) (x5 : Int32) : Ct yX12_link cX12_link 8 (some .int) 71 1320 Z [.ref a0, .int x1, .int x2, .int x3, .int x4, .int x5] vI (f_X12_link Z r0 x1 x2 x3 x4 x5) := by
  subst h0
  refine ct_of (lv0 := [(0, va_rf (some a0)), (1, .int x1), (2, .int x2), (3, .int x3), (4, .int x4), (5, .int x5)]) (by decide +kernel) (by simp [lg_sl, ct_i, ct_l, ct_r, rf_cat]) (by show _ = ([(0, Value.ref a0), (1, .int x1), (2, .int x2), (3, .int x3), (4, .int x4), (5, .int x5)] : List (Nat × Value)); simp [lv_args, ct_i, ct_l, ct_r, rf_cat]) (fun X cx hZ hfr hlo hr hin => ?_)
  subst hZ
  exact s_X12_link cx (Nat.le_of_eq hfr.symm) (Nat.le_of_eq hlo.symm) hr (some a0) x1 x2 x3 x4 x5
/-! PolicyTreeModel.fault()I -/
theorem dX12_fault_0 : decode cX12_fault 0 = .ok (.aload_n 0, 1) := by decide +kernel
theorem dX12_fault_1 : decode cX12_fault 1 = .ok (.iconst 0, 1) := by decide +kernel
theorem dX12_fault_2 : decode cX12_fault 2 = .ok (.putfield 97, 3) := by decide +kernel
theorem dX12_fault_5 : decode cX12_fault 5 = .ok (.aload_n 0, 1) := by decide +kernel
theorem dX12_fault_6 : decode cX12_fault 6 = .ok (.getfield 42, 3) := by decide +kernel
theorem dX12_fault_9 : decode cX12_fault 9 = .ok (.ireturn, 1) := by decide +kernel
def f_X12_fault (r0 : Option Nat) : Mo Int32 := mb (pV 15 0 r0 (.int (0 : Int32))) (fun _ => mb (gI 15 19 r0) (fun v6 => mp v6))
set_option maxRecDepth 100000 in
set_option maxHeartbeats 4000000 in
theorem s_X12_fault {X : Cg} (cx : Cx X cX12_fault RX12 1) (hfr : 0 ≤ (xR X).frames) (hlo : 0 ≤ (xR X).locals) (hr : (xM X).sig.returnType = (some .int)) (r0 : Option Nat) : Sim X 1 (FiM X vI) 0 [(0, va_rf r0)] [] (f_X12_fault r0) := by
  unfold f_X12_fault
  refine sm_aload_n cx 0 dX12_fault_0 rfl rfl ?_
  refine sm_iconst (v := 0) cx dX12_fault_1 (by decide) ?_
  refine sm_putV cx fl_X12_97 rfl rfl dX12_fault_2 ?_
  refine sm_aload_n cx 0 dX12_fault_5 rfl rfl ?_
  refine sm_getI cx fl_X12_42 dX12_fault_6 (fun v6 => ?_)
  exact sm_iret cx hr dX12_fault_9
set_option maxRecDepth 100000 in
set_option maxHeartbeats 4000000 in
theorem ct_X12_fault (Z : Nat → Nat) {r0 : Option Nat} (a0 : Nat) (h0 : r0 = some a0) : Ct yX12_fault cX12_fault 1 (some .int) 0 0 Z [.ref a0] vI (f_X12_fault r0) := by
  subst h0
  refine ct_of (lv0 := [(0, va_rf (some a0))]) (by decide +kernel) (by simp [lg_sl, ct_i, ct_l, ct_r, rf_cat]) (by show _ = ([(0, Value.ref a0)] : List (Nat × Value)); simp [lv_args, ct_i, ct_l, ct_r, rf_cat]) (fun X cx hZ hfr hlo hr hin => ?_)
  subst hZ
  exact s_X12_fault cx (Nat.le_of_eq hfr.symm) (Nat.le_of_eq hlo.symm) hr (some a0)
/-! PolicyTreeModel.end(I)Z -/
theorem dX12_end_0 : decode cX12_end 0 = .ok (.aload_n 0, 1) := by decide +kernel
theorem dX12_end_1 : decode cX12_end 1 = .ok (.iconst 0, 1) := by decide +kernel
theorem dX12_end_2 : decode cX12_end 2 = .ok (.putfield 97, 3) := by decide +kernel
theorem dX12_end_5 : decode cX12_end 5 = .ok (.aload_n 0, 1) := by decide +kernel
theorem dX12_end_6 : decode cX12_end 6 = .ok (.iload_n 1, 1) := by decide +kernel
theorem dX12_end_7 : decode cX12_end 7 = .ok (.aload_n 0, 1) := by decide +kernel
theorem dX12_end_8 : decode cX12_end 8 = .ok (.getfield 205, 3) := by decide +kernel
theorem dX12_end_11 : decode cX12_end 11 = .ok (.invokevirtual 100, 3) := by decide +kernel
theorem dX12_end_14 : decode cX12_end 14 = .ok (.ifCond .eq 5, 3) := by decide +kernel
theorem dX12_end_17 : decode cX12_end 17 = .ok (.iconst 0, 1) := by decide +kernel
theorem dX12_end_18 : decode cX12_end 18 = .ok (.ireturn, 1) := by decide +kernel
theorem dX12_end_19 : decode cX12_end 19 = .ok (.aload_n 0, 1) := by decide +kernel
theorem dX12_end_20 : decode cX12_end 20 = .ok (.getfield 64, 3) := by decide +kernel
theorem dX12_end_23 : decode cX12_end 23 = .ok (.iload_n 1, 1) := by decide +kernel
theorem dX12_end_24 : decode cX12_end 24 = .ok (.baload, 1) := by decide +kernel
theorem dX12_end_25 : decode cX12_end 25 = .ok (.ifCond .ne 7, 3) := by decide +kernel
theorem dX12_end_28 : decode cX12_end 28 = .ok (.iconst 1, 1) := by decide +kernel
theorem dX12_end_29 : decode cX12_end 29 = .ok (.goto 4, 3) := by decide +kernel
theorem dX12_end_32 : decode cX12_end 32 = .ok (.iconst 0, 1) := by decide +kernel
theorem dX12_end_33 : decode cX12_end 33 = .ok (.istore_n 2, 1) := by decide +kernel
theorem dX12_end_34 : decode cX12_end 34 = .ok (.aload_n 0, 1) := by decide +kernel
theorem dX12_end_35 : decode cX12_end 35 = .ok (.getfield 64, 3) := by decide +kernel
theorem dX12_end_38 : decode cX12_end 38 = .ok (.iload_n 1, 1) := by decide +kernel
theorem dX12_end_39 : decode cX12_end 39 = .ok (.iconst 1, 1) := by decide +kernel
theorem dX12_end_40 : decode cX12_end 40 = .ok (.bastore, 1) := by decide +kernel
theorem dX12_end_41 : decode cX12_end 41 = .ok (.iload_n 2, 1) := by decide +kernel
theorem dX12_end_42 : decode cX12_end 42 = .ok (.ireturn, 1) := by decide +kernel
def f_X12_end_33 (r0 : Option Nat) (x1 : Int32) (sx0 : Int32) : Mo Int32 := mb (gR 15 28 r0) (fun v35 => mb (sI 3 v35 x1 (1 : Int32)) (fun _ => rz .boolean sx0))
set_option maxRecDepth 100000 in
set_option maxHeartbeats 4000000 in
theorem s_X12_end_33 {X : Cg} (cx : Cx X cX12_end RX12 3) (hfr : 1 ≤ (xR X).frames) (hlo : 22 ≤ (xR X).locals) (hr : (xM X).sig.returnType = (some .boolean)) (r0 : Option Nat) (x1 : Int32) (sx0 : Int32) : Sim X 3 (FiM X vI) 33 [(0, va_rf r0), (1, .int x1)] [.int sx0] (f_X12_end_33 r0 x1 sx0) := by
  unfold f_X12_end_33
  refine sm_istore_n cx [(2, .int sx0), (0, va_rf r0), (1, .int x1)] dX12_end_33 rfl (by decide) rfl (nc1 rfl) rfl ?_
  refine sm_aload_n cx 1 dX12_end_34 rfl rfl ?_
  refine sm_getR cx fl_X12_64 dX12_end_35 (fun v35 => ?_)
  refine sm_iload_n cx 2 dX12_end_38 rfl rfl ?_
  refine sm_iconst (v := 1) cx dX12_end_39 (by decide) ?_
  refine sm_zast cx dX12_end_40 ?_
  refine sm_iload_n cx 0 dX12_end_41 rfl rfl ?_
  exact sm_zret cx hr dX12_end_42
def f_X12_end (r0 : Option Nat) (x1 : Int32) : Mo Int32 := mb (pV 15 0 r0 (.int (0 : Int32))) (fun _ => mb (gI 15 32 r0) (fun v8 => mb (mo 15 r0 (f_X12_none r0 x1 v8)) (fun v11 => (if v11 = 0 then mb (gR 15 28 r0) (fun v20 => mb (aI 3 v20 x1) (fun v24 => (if v24 = 0 then f_X12_end_33 r0 x1 (1 : Int32) else f_X12_end_33 r0 x1 (0 : Int32)))) else rz .boolean (0 : Int32)))))
set_option maxRecDepth 100000 in
set_option maxHeartbeats 4000000 in
theorem s_X12_end {X : Cg} (cx : Cx X cX12_end RX12 3) (hfr : 1 ≤ (xR X).frames) (hlo : 22 ≤ (xR X).locals) (hr : (xM X).sig.returnType = (some .boolean)) (r0 : Option Nat) (x1 : Int32) : Sim X 3 (FiM X vI) 0 [(0, va_rf r0), (1, .int x1)] [] (f_X12_end r0 x1) := by
  unfold f_X12_end
  refine sm_aload_n cx 0 dX12_end_0 rfl rfl ?_
  refine sm_iconst (v := 0) cx dX12_end_1 (by decide) ?_
  refine sm_putV cx fl_X12_97 rfl rfl dX12_end_2 ?_
  refine sm_aload_n cx 0 dX12_end_5 rfl rfl ?_
  refine sm_iload_n cx 1 dX12_end_6 rfl rfl ?_
  refine sm_aload_n cx 0 dX12_end_7 rfl rfl ?_
  refine sm_getI cx fl_X12_205 dX12_end_8 (fun v8 => ?_)
  refine sm_callV (T := TX12) (N := 47) (toV := vI) cx [.int x1, .int v8] rfl cv_X12_100 (fun a h => ct_X12_none (xZ X) a h x1 v8) (Nat.le_trans (by decide) hfr) (Nat.le_trans (by decide) hlo) rfl (cat_le _ (Nat.le_of_ble_eq_true rfl)) dX12_end_11 (fun v11 => ?_)
  refine sm_if_eq (tgt := 19) cx dX12_end_14 (by decide) ?_ ?_
  · refine sm_aload_n cx 0 dX12_end_19 rfl rfl ?_
    refine sm_getR cx fl_X12_64 dX12_end_20 (fun v20 => ?_)
    refine sm_iload_n cx 1 dX12_end_23 rfl rfl ?_
    refine sm_zald cx dX12_end_24 (fun v24 => ?_)
    refine sm_if_ne (tgt := 32) cx dX12_end_25 (by decide) ?_ ?_
    · refine sm_iconst (v := 0) cx dX12_end_32 (by decide) ?_
      exact sm_lv [0, 1] rfl (s_X12_end_33 cx hfr hlo hr r0 x1 (0 : Int32))
    · refine sm_iconst (v := 1) cx dX12_end_28 (by decide) ?_
      refine sm_goto (tgt := 33) cx dX12_end_29 (by decide) ?_
      exact sm_lv [0, 1] rfl (s_X12_end_33 cx hfr hlo hr r0 x1 (1 : Int32))
  · refine sm_iconst (v := 0) cx dX12_end_17 (by decide) ?_
    exact sm_zret cx hr dX12_end_18
set_option maxRecDepth 100000 in
set_option maxHeartbeats 4000000 in
theorem ct_X12_end (Z : Nat → Nat) {r0 : Option Nat} (a0 : Nat) (h0 : r0 = some a0) (x1 : Int32) : Ct yX12_end cX12_end 3 (some .boolean) 1 22 Z [.ref a0, .int x1] vI (f_X12_end r0 x1) := by
  subst h0
  refine ct_of (lv0 := [(0, va_rf (some a0)), (1, .int x1)]) (by decide +kernel) (by simp [lg_sl, ct_i, ct_l, ct_r, rf_cat]) (by show _ = ([(0, Value.ref a0), (1, .int x1)] : List (Nat × Value)); simp [lv_args, ct_i, ct_l, ct_r, rf_cat]) (fun X cx hZ hfr hlo hr hin => ?_)
  subst hZ
  exact s_X12_end cx (Nat.le_of_eq hfr.symm) (Nat.le_of_eq hlo.symm) hr (some a0) x1
/-! PolicyTreeModel.holds(III)Z -/
theorem dX12_holds_0 : decode cX12_holds 0 = .ok (.iconst 0, 1) := by decide +kernel
theorem dX12_holds_1 : decode cX12_holds 1 = .ok (.istore 4, 2) := by decide +kernel
theorem dX12_holds_3 : decode cX12_holds 3 = .ok (.aload_n 0, 1) := by decide +kernel
theorem dX12_holds_4 : decode cX12_holds 4 = .ok (.getfield 67, 3) := by decide +kernel
theorem dX12_holds_7 : decode cX12_holds 7 = .ok (.iload_n 1, 1) := by decide +kernel
theorem dX12_holds_8 : decode cX12_holds 8 = .ok (.iaload, 1) := by decide +kernel
theorem dX12_holds_9 : decode cX12_holds 9 = .ok (.istore 5, 2) := by decide +kernel
theorem dX12_holds_11 : decode cX12_holds 11 = .ok (.iload 5, 2) := by decide +kernel
theorem dX12_holds_13 : decode cX12_holds 13 = .ok (.aload_n 0, 1) := by decide +kernel
theorem dX12_holds_14 : decode cX12_holds 14 = .ok (.getfield 70, 3) := by decide +kernel
theorem dX12_holds_17 : decode cX12_holds 17 = .ok (.iload_n 1, 1) := by decide +kernel
theorem dX12_holds_18 : decode cX12_holds 18 = .ok (.iaload, 1) := by decide +kernel
theorem dX12_holds_19 : decode cX12_holds 19 = .ok (.if_icmp .ge 224, 3) := by decide +kernel
theorem dX12_holds_22 : decode cX12_holds 22 = .ok (.aload_n 0, 1) := by decide +kernel
theorem dX12_holds_23 : decode cX12_holds 23 = .ok (.getfield 46, 3) := by decide +kernel
theorem dX12_holds_26 : decode cX12_holds 26 = .ok (.iload 5, 2) := by decide +kernel
theorem dX12_holds_28 : decode cX12_holds 28 = .ok (.iaload, 1) := by decide +kernel
theorem dX12_holds_29 : decode cX12_holds 29 = .ok (.istore 6, 2) := by decide +kernel
theorem dX12_holds_31 : decode cX12_holds 31 = .ok (.iload 6, 2) := by decide +kernel
theorem dX12_holds_33 : decode cX12_holds 33 = .ok (.iconst 2, 1) := by decide +kernel
theorem dX12_holds_34 : decode cX12_holds 34 = .ok (.if_icmp .ge 80, 3) := by decide +kernel
theorem dX12_holds_37 : decode cX12_holds 37 = .ok (.iinc 4 (-1), 3) := by decide +kernel
theorem dX12_holds_40 : decode cX12_holds 40 = .ok (.aload_n 0, 1) := by decide +kernel
theorem dX12_holds_41 : decode cX12_holds 41 = .ok (.getfield 49, 3) := by decide +kernel
theorem dX12_holds_44 : decode cX12_holds 44 = .ok (.iload 4, 2) := by decide +kernel
theorem dX12_holds_46 : decode cX12_holds 46 = .ok (.iconst 1, 1) := by decide +kernel
theorem dX12_holds_47 : decode cX12_holds 47 = .ok (.isub, 1) := by decide +kernel
theorem dX12_holds_48 : decode cX12_holds 48 = .ok (.iload 6, 2) := by decide +kernel
theorem dX12_holds_50 : decode cX12_holds 50 = .ok (.ifCond .ne 33, 3) := by decide +kernel
theorem dX12_holds_53 : decode cX12_holds 53 = .ok (.aload_n 0, 1) := by decide +kernel
theorem dX12_holds_54 : decode cX12_holds 54 = .ok (.getfield 49, 3) := by decide +kernel
theorem dX12_holds_57 : decode cX12_holds 57 = .ok (.iload 4, 2) := by decide +kernel
theorem dX12_holds_59 : decode cX12_holds 59 = .ok (.iconst 1, 1) := by decide +kernel
theorem dX12_holds_60 : decode cX12_holds 60 = .ok (.isub, 1) := by decide +kernel
theorem dX12_holds_61 : decode cX12_holds 61 = .ok (.baload, 1) := by decide +kernel
theorem dX12_holds_62 : decode cX12_holds 62 = .ok (.ifCond .eq 17, 3) := by decide +kernel
theorem dX12_holds_65 : decode cX12_holds 65 = .ok (.aload_n 0, 1) := by decide +kernel
theorem dX12_holds_66 : decode cX12_holds 66 = .ok (.getfield 49, 3) := by decide +kernel
theorem dX12_holds_69 : decode cX12_holds 69 = .ok (.iload 4, 2) := by decide +kernel
theorem dX12_holds_71 : decode cX12_holds 71 = .ok (.baload, 1) := by decide +kernel
theorem dX12_holds_72 : decode cX12_holds 72 = .ok (.ifCond .eq 7, 3) := by decide +kernel
theorem dX12_holds_75 : decode cX12_holds 75 = .ok (.iconst 1, 1) := by decide +kernel
theorem dX12_holds_76 : decode cX12_holds 76 = .ok (.goto 34, 3) := by decide +kernel
theorem dX12_holds_79 : decode cX12_holds 79 = .ok (.iconst 0, 1) := by decide +kernel
theorem dX12_holds_80 : decode cX12_holds 80 = .ok (.goto 30, 3) := by decide +kernel
theorem dX12_holds_83 : decode cX12_holds 83 = .ok (.aload_n 0, 1) := by decide +kernel
theorem dX12_holds_84 : decode cX12_holds 84 = .ok (.getfield 49, 3) := by decide +kernel
theorem dX12_holds_87 : decode cX12_holds 87 = .ok (.iload 4, 2) := by decide +kernel
theorem dX12_holds_89 : decode cX12_holds 89 = .ok (.iconst 1, 1) := by decide +kernel
theorem dX12_holds_90 : decode cX12_holds 90 = .ok (.isub, 1) := by decide +kernel
theorem dX12_holds_91 : decode cX12_holds 91 = .ok (.baload, 1) := by decide +kernel
theorem dX12_holds_92 : decode cX12_holds 92 = .ok (.ifCond .ne 13, 3) := by decide +kernel
theorem dX12_holds_95 : decode cX12_holds 95 = .ok (.aload_n 0, 1) := by decide +kernel
theorem dX12_holds_96 : decode cX12_holds 96 = .ok (.getfield 49, 3) := by decide +kernel
theorem dX12_holds_99 : decode cX12_holds 99 = .ok (.iload 4, 2) := by decide +kernel
theorem dX12_holds_101 : decode cX12_holds 101 = .ok (.baload, 1) := by decide +kernel
theorem dX12_holds_102 : decode cX12_holds 102 = .ok (.ifCond .eq 7, 3) := by decide +kernel
theorem dX12_holds_105 : decode cX12_holds 105 = .ok (.iconst 1, 1) := by decide +kernel
theorem dX12_holds_106 : decode cX12_holds 106 = .ok (.goto 4, 3) := by decide +kernel
theorem dX12_holds_109 : decode cX12_holds 109 = .ok (.iconst 0, 1) := by decide +kernel
theorem dX12_holds_110 : decode cX12_holds 110 = .ok (.bastore, 1) := by decide +kernel
theorem dX12_holds_111 : decode cX12_holds 111 = .ok (.goto 126, 3) := by decide +kernel
theorem dX12_holds_114 : decode cX12_holds 114 = .ok (.iload 6, 2) := by decide +kernel
theorem dX12_holds_116 : decode cX12_holds 116 = .ok (.iconst 2, 1) := by decide +kernel
theorem dX12_holds_117 : decode cX12_holds 117 = .ok (.if_icmp .ne 32, 3) := by decide +kernel
theorem dX12_holds_120 : decode cX12_holds 120 = .ok (.aload_n 0, 1) := by decide +kernel
theorem dX12_holds_121 : decode cX12_holds 121 = .ok (.getfield 49, 3) := by decide +kernel
theorem dX12_holds_124 : decode cX12_holds 124 = .ok (.iload 4, 2) := by decide +kernel
theorem dX12_holds_126 : decode cX12_holds 126 = .ok (.iconst 1, 1) := by decide +kernel
theorem dX12_holds_127 : decode cX12_holds 127 = .ok (.isub, 1) := by decide +kernel
theorem dX12_holds_128 : decode cX12_holds 128 = .ok (.aload_n 0, 1) := by decide +kernel
theorem dX12_holds_129 : decode cX12_holds 129 = .ok (.getfield 49, 3) := by decide +kernel
theorem dX12_holds_132 : decode cX12_holds 132 = .ok (.iload 4, 2) := by decide +kernel
theorem dX12_holds_134 : decode cX12_holds 134 = .ok (.iconst 1, 1) := by decide +kernel
theorem dX12_holds_135 : decode cX12_holds 135 = .ok (.isub, 1) := by decide +kernel
theorem dX12_holds_136 : decode cX12_holds 136 = .ok (.baload, 1) := by decide +kernel
theorem dX12_holds_137 : decode cX12_holds 137 = .ok (.ifCond .ne 7, 3) := by decide +kernel
theorem dX12_holds_140 : decode cX12_holds 140 = .ok (.iconst 1, 1) := by decide +kernel
theorem dX12_holds_141 : decode cX12_holds 141 = .ok (.goto 4, 3) := by decide +kernel
theorem dX12_holds_144 : decode cX12_holds 144 = .ok (.iconst 0, 1) := by decide +kernel
theorem dX12_holds_145 : decode cX12_holds 145 = .ok (.bastore, 1) := by decide +kernel
theorem dX12_holds_146 : decode cX12_holds 146 = .ok (.goto 91, 3) := by decide +kernel
theorem dX12_holds_149 : decode cX12_holds 149 = .ok (.iload 6, 2) := by decide +kernel
theorem dX12_holds_151 : decode cX12_holds 151 = .ok (.bipush 100, 2) := by decide +kernel
theorem dX12_holds_153 : decode cX12_holds 153 = .ok (.irem, 1) := by decide +kernel
theorem dX12_holds_154 : decode cX12_holds 154 = .ok (.istore 7, 2) := by decide +kernel
theorem dX12_holds_156 : decode cX12_holds 156 = .ok (.aload_n 0, 1) := by decide +kernel
theorem dX12_holds_157 : decode cX12_holds 157 = .ok (.getfield 49, 3) := by decide +kernel
theorem dX12_holds_160 : decode cX12_holds 160 = .ok (.iload 4, 2) := by decide +kernel
theorem dX12_holds_162 : decode cX12_holds 162 = .ok (.iload 6, 2) := by decide +kernel
theorem dX12_holds_164 : decode cX12_holds 164 = .ok (.sipush 200, 3) := by decide +kernel
theorem dX12_holds_167 : decode cX12_holds 167 = .ok (.if_icmp .ge 28, 3) := by decide +kernel
theorem dX12_holds_170 : decode cX12_holds 170 = .ok (.aload_n 0, 1) := by decide +kernel
theorem dX12_holds_171 : decode cX12_holds 171 = .ok (.getfield 76, 3) := by decide +kernel
theorem dX12_holds_174 : decode cX12_holds 174 = .ok (.iload 7, 2) := by decide +kernel
theorem dX12_holds_176 : decode cX12_holds 176 = .ok (.iaload, 1) := by decide +kernel
theorem dX12_holds_177 : decode cX12_holds 177 = .ok (.aload_n 0, 1) := by decide +kernel
theorem dX12_holds_178 : decode cX12_holds 178 = .ok (.getfield 23, 3) := by decide +kernel
theorem dX12_holds_181 : decode cX12_holds 181 = .ok (.iload_n 2, 1) := by decide +kernel
theorem dX12_holds_182 : decode cX12_holds 182 = .ok (.iaload, 1) := by decide +kernel
theorem dX12_holds_183 : decode cX12_holds 183 = .ok (.iand, 1) := by decide +kernel
theorem dX12_holds_184 : decode cX12_holds 184 = .ok (.ifCond .eq 7, 3) := by decide +kernel
theorem dX12_holds_187 : decode cX12_holds 187 = .ok (.iconst 1, 1) := by decide +kernel
theorem dX12_holds_188 : decode cX12_holds 188 = .ok (.goto 45, 3) := by decide +kernel
theorem dX12_holds_191 : decode cX12_holds 191 = .ok (.iconst 0, 1) := by decide +kernel
theorem dX12_holds_192 : decode cX12_holds 192 = .ok (.goto 41, 3) := by decide +kernel
theorem dX12_holds_195 : decode cX12_holds 195 = .ok (.iload 6, 2) := by decide +kernel
theorem dX12_holds_197 : decode cX12_holds 197 = .ok (.sipush 300, 3) := by decide +kernel
theorem dX12_holds_200 : decode cX12_holds 200 = .ok (.if_icmp .ge 21, 3) := by decide +kernel
theorem dX12_holds_203 : decode cX12_holds 203 = .ok (.iload_n 3, 1) := by decide +kernel
theorem dX12_holds_204 : decode cX12_holds 204 = .ok (.iload 7, 2) := by decide +kernel
theorem dX12_holds_206 : decode cX12_holds 206 = .ok (.ishr, 1) := by decide +kernel
theorem dX12_holds_207 : decode cX12_holds 207 = .ok (.iconst 1, 1) := by decide +kernel
theorem dX12_holds_208 : decode cX12_holds 208 = .ok (.iand, 1) := by decide +kernel
theorem dX12_holds_209 : decode cX12_holds 209 = .ok (.iconst 1, 1) := by decide +kernel
theorem dX12_holds_210 : decode cX12_holds 210 = .ok (.if_icmp .ne 7, 3) := by decide +kernel
theorem dX12_holds_213 : decode cX12_holds 213 = .ok (.iconst 1, 1) := by decide +kernel
theorem dX12_holds_214 : decode cX12_holds 214 = .ok (.goto 19, 3) := by decide +kernel
theorem dX12_holds_217 : decode cX12_holds 217 = .ok (.iconst 0, 1) := by decide +kernel
theorem dX12_holds_218 : decode cX12_holds 218 = .ok (.goto 15, 3) := by decide +kernel
theorem dX12_holds_221 : decode cX12_holds 221 = .ok (.aload_n 0, 1) := by decide +kernel
theorem dX12_holds_222 : decode cX12_holds 222 = .ok (.aload_n 0, 1) := by decide +kernel
theorem dX12_holds_223 : decode cX12_holds 223 = .ok (.getfield 17, 3) := by decide +kernel
theorem dX12_holds_226 : decode cX12_holds 226 = .ok (.iload_n 2, 1) := by decide +kernel
theorem dX12_holds_227 : decode cX12_holds 227 = .ok (.iaload, 1) := by decide +kernel
theorem dX12_holds_228 : decode cX12_holds 228 = .ok (.iload 7, 2) := by decide +kernel
theorem dX12_holds_230 : decode cX12_holds 230 = .ok (.invokevirtual 208, 3) := by decide +kernel
theorem dX12_holds_233 : decode cX12_holds 233 = .ok (.bastore, 1) := by decide +kernel
theorem dX12_holds_234 : decode cX12_holds 234 = .ok (.iinc 4 1, 3) := by decide +kernel
theorem dX12_holds_237 : decode cX12_holds 237 = .ok (.iinc 5 1, 3) := by decide +kernel
theorem dX12_holds_240 : decode cX12_holds 240 = .ok (.goto (-229), 3) := by decide +kernel
theorem dX12_holds_243 : decode cX12_holds 243 = .ok (.iload 4, 2) := by decide +kernel
theorem dX12_holds_245 : decode cX12_holds 245 = .ok (.ifCond .eq 12, 3) := by decide +kernel
theorem dX12_holds_248 : decode cX12_holds 248 = .ok (.aload_n 0, 1) := by decide +kernel
theorem dX12_holds_249 : decode cX12_holds 249 = .ok (.getfield 49, 3) := by decide +kernel
theorem dX12_holds_252 : decode cX12_holds 252 = .ok (.iconst 0, 1) := by decide +kernel
theorem dX12_holds_253 : decode cX12_holds 253 = .ok (.baload, 1) := by decide +kernel
theorem dX12_holds_254 : decode cX12_holds 254 = .ok (.ifCond .eq 7, 3) := by decide +kernel
theorem dX12_holds_257 : decode cX12_holds 257 = .ok (.iconst 1, 1) := by decide +kernel
theorem dX12_holds_258 : decode cX12_holds 258 = .ok (.goto 4, 3) := by decide +kernel
theorem dX12_holds_261 : decode cX12_holds 261 = .ok (.iconst 0, 1) := by decide +kernel
theorem dX12_holds_262 : decode cX12_holds 262 = .ok (.ireturn, 1) := by decide +kernel
def f_X12_holds_237 (k11 : Int32 → Int32 → Mo Int32) (r0 : Option Nat) (x1 : Int32) (x2 : Int32) (x3 : Int32) (x4 : Int32) (x5 : Int32) : Mo Int32 := k11 x4 (x5 + 1)
set_option maxRecDepth 100000 in
set_option maxHeartbeats 4000000 in
theorem s_X12_holds_237 {X : Cg} (cx : Cx X cX12_holds RX12 8) (hfr : 1 ≤ (xR X).frames) (hlo : 23 ≤ (xR X).locals) (hr : (xM X).sig.returnType = (some .boolean)) (r0 : Option Nat) (x1 : Int32) (x2 : Int32) (x3 : Int32) (x4 : Int32) (x5 : Int32) {k11 : Int32 → Int32 → Mo Int32} (hk11 : ∀ (x4 : Int32) (x5 : Int32), Sim X 8 (FiM X vI) 11 [(0, va_rf r0), (1, .int x1), (2, .int x2), (3, .int x3), (4, .int x4), (5, .int x5)] [] (k11 x4 x5)) : Sim X 8 (FiM X vI) 237 [(0, va_rf r0), (1, .int x1), (2, .int x2), (3, .int x3), (4, .int x4), (5, .int x5)] [] (f_X12_holds_237 k11 r0 x1 x2 x3 x4 x5) := by
  unfold f_X12_holds_237
  refine sm_iinc cx 5 [(5, .int (x5 + 1)), (0, va_rf r0), (1, .int x1), (2, .int x2), (3, .int x3), (4, .int x4)] dX12_holds_237 rfl rfl (by decide) rfl (nc1 rfl) rfl ?_
  refine sm_goto (tgt := 11) cx dX12_holds_240 (by decide) ?_
  exact sm_lv [1, 2, 3, 4, 5, 0] rfl (hk11 x4 (x5 + 1))
def f_X12_holds_110 (k11 : Int32 → Int32 → Mo Int32) (r0 : Option Nat) (x1 : Int32) (x2 : Int32) (x3 : Int32) (x4 : Int32) (x5 : Int32) (sr0 : Option Nat) (sx1 : Int32) (sx2 : Int32) : Mo Int32 := mb (sI 3 sr0 sx1 sx2) (fun _ => f_X12_holds_237 k11 r0 x1 x2 x3 x4 x5)
set_option maxRecDepth 100000 in
set_option maxHeartbeats 4000000 in
theorem s_X12_holds_110 {X : Cg} (cx : Cx X cX12_holds RX12 8) (hfr : 1 ≤ (xR X).frames) (hlo : 23 ≤ (xR X).locals) (hr : (xM X).sig.returnType = (some .boolean)) (r0 : Option Nat) (x1 : Int32) (x2 : Int32) (x3 : Int32) (x4 : Int32) (x5 : Int32) (sr0 : Option Nat) (sx1 : Int32) (sx2 : Int32) {k11 : Int32 → Int32 → Mo Int32} (hk11 : ∀ (x4 : Int32) (x5 : Int32), Sim X 8 (FiM X vI) 11 [(0, va_rf r0), (1, .int x1), (2, .int x2), (3, .int x3), (4, .int x4), (5, .int x5)] [] (k11 x4 x5)) : Sim X 8 (FiM X vI) 110 [(0, va_rf r0), (1, .int x1), (2, .int x2), (3, .int x3), (4, .int x4), (5, .int x5)] [.int sx2, .int sx1, va_rf sr0] (f_X12_holds_110 k11 r0 x1 x2 x3 x4 x5 sr0 sx1 sx2) := by
  unfold f_X12_holds_110
  refine sm_zast cx dX12_holds_110 ?_
  refine sm_goto (tgt := 237) cx dX12_holds_111 (by decide) ?_
  exact sm_lv [0, 1, 2, 3, 4, 5] rfl (s_X12_holds_237 cx hfr hlo hr r0 x1 x2 x3 x4 x5 hk11)
def f_X12_holds_79 (k11 : Int32 → Int32 → Mo Int32) (r0 : Option Nat) (x1 : Int32) (x2 : Int32) (x3 : Int32) (x4 : Int32) (x5 : Int32) (sr0 : Option Nat) (sx1 : Int32) : Mo Int32 := f_X12_holds_110 k11 r0 x1 x2 x3 x4 x5 sr0 sx1 (0 : Int32)
set_option maxRecDepth 100000 in
set_option maxHeartbeats 4000000 in
theorem s_X12_holds_79 {X : Cg} (cx : Cx X cX12_holds RX12 8) (hfr : 1 ≤ (xR X).frames) (hlo : 23 ≤ (xR X).locals) (hr : (xM X).sig.returnType = (some .boolean)) (r0 : Option Nat) (x1 : Int32) (x2 : Int32) (x3 : Int32) (x4 : Int32) (x5 : Int32) (sr0 : Option Nat) (sx1 : Int32) {k11 : Int32 → Int32 → Mo Int32} (hk11 : ∀ (x4 : Int32) (x5 : Int32), Sim X 8 (FiM X vI) 11 [(0, va_rf r0), (1, .int x1), (2, .int x2), (3, .int x3), (4, .int x4), (5, .int x5)] [] (k11 x4 x5)) : Sim X 8 (FiM X vI) 79 [(0, va_rf r0), (1, .int x1), (2, .int x2), (3, .int x3), (4, .int x4), (5, .int x5)] [.int sx1, va_rf sr0] (f_X12_holds_79 k11 r0 x1 x2 x3 x4 x5 sr0 sx1) := by
  unfold f_X12_holds_79
  refine sm_iconst (v := 0) cx dX12_holds_79 (by decide) ?_
  refine sm_goto (tgt := 110) cx dX12_holds_80 (by decide) ?_
  exact sm_lv [0, 1, 2, 3, 4, 5] rfl (s_X12_holds_110 cx hfr hlo hr r0 x1 x2 x3 x4 x5 sr0 sx1 (0 : Int32) hk11)
def f_X12_holds_105 (k11 : Int32 → Int32 → Mo Int32) (r0 : Option Nat) (x1 : Int32) (x2 : Int32) (x3 : Int32) (x4 : Int32) (x5 : Int32) (sr0 : Option Nat) (sx1 : Int32) : Mo Int32 := f_X12_holds_110 k11 r0 x1 x2 x3 x4 x5 sr0 sx1 (1 : Int32)
set_option maxRecDepth 100000 in
set_option maxHeartbeats 4000000 in
theorem s_X12_holds_105 {X : Cg} (cx : Cx X cX12_holds RX12 8) (hfr : 1 ≤ (xR X).frames) (hlo : 23 ≤ (xR X).locals) (hr : (xM X).sig.returnType = (some .boolean)) (r0 : Option Nat) (x1 : Int32) (x2 : Int32) (x3 : Int32) (x4 : Int32) (x5 : Int32) (sr0 : Option Nat) (sx1 : Int32) {k11 : Int32 → Int32 → Mo Int32} (hk11 : ∀ (x4 : Int32) (x5 : Int32), Sim X 8 (FiM X vI) 11 [(0, va_rf r0), (1, .int x1), (2, .int x2), (3, .int x3), (4, .int x4), (5, .int x5)] [] (k11 x4 x5)) : Sim X 8 (FiM X vI) 105 [(0, va_rf r0), (1, .int x1), (2, .int x2), (3, .int x3), (4, .int x4), (5, .int x5)] [.int sx1, va_rf sr0] (f_X12_holds_105 k11 r0 x1 x2 x3 x4 x5 sr0 sx1) := by
  unfold f_X12_holds_105
  refine sm_iconst (v := 1) cx dX12_holds_105 (by decide) ?_
  refine sm_goto (tgt := 110) cx dX12_holds_106 (by decide) ?_
  exact sm_lv [0, 1, 2, 3, 4, 5] rfl (s_X12_holds_110 cx hfr hlo hr r0 x1 x2 x3 x4 x5 sr0 sx1 (1 : Int32) hk11)
def f_X12_holds_145 (k11 : Int32 → Int32 → Mo Int32) (r0 : Option Nat) (x1 : Int32) (x2 : Int32) (x3 : Int32) (x4 : Int32) (x5 : Int32) (sr0 : Option Nat) (sx1 : Int32) (sx2 : Int32) : Mo Int32 := mb (sI 3 sr0 sx1 sx2) (fun _ => f_X12_holds_237 k11 r0 x1 x2 x3 x4 x5)
set_option maxRecDepth 100000 in
set_option maxHeartbeats 4000000 in
theorem s_X12_holds_145 {X : Cg} (cx : Cx X cX12_holds RX12 8) (hfr : 1 ≤ (xR X).frames) (hlo : 23 ≤ (xR X).locals) (hr : (xM X).sig.returnType = (some .boolean)) (r0 : Option Nat) (x1 : Int32) (x2 : Int32) (x3 : Int32) (x4 : Int32) (x5 : Int32) (sr0 : Option Nat) (sx1 : Int32) (sx2 : Int32) {k11 : Int32 → Int32 → Mo Int32} (hk11 : ∀ (x4 : Int32) (x5 : Int32), Sim X 8 (FiM X vI) 11 [(0, va_rf r0), (1, .int x1), (2, .int x2), (3, .int x3), (4, .int x4), (5, .int x5)] [] (k11 x4 x5)) : Sim X 8 (FiM X vI) 145 [(0, va_rf r0), (1, .int x1), (2, .int x2), (3, .int x3), (4, .int x4), (5, .int x5)] [.int sx2, .int sx1, va_rf sr0] (f_X12_holds_145 k11 r0 x1 x2 x3 x4 x5 sr0 sx1 sx2) := by
  unfold f_X12_holds_145
  refine sm_zast cx dX12_holds_145 ?_
  refine sm_goto (tgt := 237) cx dX12_holds_146 (by decide) ?_
  exact sm_lv [0, 1, 2, 3, 4, 5] rfl (s_X12_holds_237 cx hfr hlo hr r0 x1 x2 x3 x4 x5 hk11)
def f_X12_holds_233 (k11 : Int32 → Int32 → Mo Int32) (r0 : Option Nat) (x1 : Int32) (x2 : Int32) (x3 : Int32) (x4 : Int32) (x5 : Int32) (sr0 : Option Nat) (sx1 : Int32) (sx2 : Int32) : Mo Int32 := mb (sI 3 sr0 sx1 sx2) (fun _ => f_X12_holds_237 k11 r0 x1 x2 x3 (x4 + 1) x5)
set_option maxRecDepth 100000 in
set_option maxHeartbeats 4000000 in
theorem s_X12_holds_233 {X : Cg} (cx : Cx X cX12_holds RX12 8) (hfr : 1 ≤ (xR X).frames) (hlo : 23 ≤ (xR X).locals) (hr : (xM X).sig.returnType = (some .boolean)) (r0 : Option Nat) (x1 : Int32) (x2 : Int32) (x3 : Int32) (x4 : Int32) (x5 : Int32) (sr0 : Option Nat) (sx1 : Int32) (sx2 : Int32) {k11 : Int32 → Int32 → Mo Int32} (hk11 : ∀ (x4 : Int32) (x5 : Int32), Sim X 8 (FiM X vI) 11 [(0, va_rf r0), (1, .int x1), (2, .int x2), (3, .int x3), (4, .int x4), (5, .int x5)] [] (k11 x4 x5)) : Sim X 8 (FiM X vI) 233 [(0, va_rf r0), (1, .int x1), (2, .int x2), (3, .int x3), (4, .int x4), (5, .int x5)] [.int sx2, .int sx1, va_rf sr0] (f_X12_holds_233 k11 r0 x1 x2 x3 x4 x5 sr0 sx1 sx2) := by
  unfold f_X12_holds_233
  refine sm_zast cx dX12_holds_233 ?_
  refine sm_iinc cx 4 [(4, .int (x4 + 1)), (0, va_rf r0), (1, .int x1), (2, .int x2), (3, .int x3), (5, .int x5)] dX12_holds_234 rfl rfl (by decide) rfl (nc1 rfl) rfl ?_
  exact sm_lv [1, 2, 3, 4, 0, 5] rfl (s_X12_holds_237 cx hfr hlo hr r0 x1 x2 x3 (x4 + 1) x5 hk11)
def f_X12_holds_262 (sx0 : Int32) : Mo Int32 := rz .boolean sx0
set_option maxRecDepth 100000 in
set_option maxHeartbeats 4000000 in
theorem s_X12_holds_262 {X : Cg} (cx : Cx X cX12_holds RX12 8) (hfr : 1 ≤ (xR X).frames) (hlo : 23 ≤ (xR X).locals) (hr : (xM X).sig.returnType = (some .boolean)) (sx0 : Int32) : Sim X 8 (FiM X vI) 262 [] [.int sx0] (f_X12_holds_262 sx0) := by
  unfold f_X12_holds_262
  exact sm_zret cx hr dX12_holds_262
def f_X12_holds_257 : Mo Int32 := f_X12_holds_262 (1 : Int32)
set_option maxRecDepth 100000 in
set_option maxHeartbeats 4000000 in
theorem s_X12_holds_257 {X : Cg} (cx : Cx X cX12_holds RX12 8) (hfr : 1 ≤ (xR X).frames) (hlo : 23 ≤ (xR X).locals) (hr : (xM X).sig.returnType = (some .boolean)) : Sim X 8 (FiM X vI) 257 [] [] (f_X12_holds_257) := by
  unfold f_X12_holds_257
  refine sm_iconst (v := 1) cx dX12_holds_257 (by decide) ?_
  refine sm_goto (tgt := 262) cx dX12_holds_258 (by decide) ?_
  exact sm_lv [] rfl (s_X12_holds_262 cx hfr hlo hr (1 : Int32))
def f_X12_holds_11 (r0 : Option Nat) (x1 : Int32) (x2 : Int32) (x3 : Int32) : Nat → Int32 → Int32 → Mo Int32
  | 0, _, _ => mf
  | n + 1, x4, x5 => mb (gR 15 30 r0) (fun v14 => mb (aI 1 v14 x1) (fun v18 => (if v18 ≤ x5 then (if x4 = 0 then f_X12_holds_257 else mb (gR 15 23 r0) (fun v249 => mb (aI 3 v249 (0 : Int32)) (fun v253 => (if v253 = 0 then f_X12_holds_262 (0 : Int32) else f_X12_holds_257)))) else mb (gR 15 21 r0) (fun v23 => mb (aI 1 v23 x5) (fun v28 => (if (2 : Int32) ≤ v28 then (if v28 = (2 : Int32) then mb (gR 15 23 r0) (fun v121 => mb (gR 15 23 r0) (fun v129 => mb (aI 3 v129 (x4 - (1 : Int32))) (fun v136 => (if v136 = 0 then f_X12_holds_145 (f_X12_holds_11 r0 x1 x2 x3 n) r0 x1 x2 x3 x4 x5 v121 (x4 - (1 : Int32)) (1 : Int32) else f_X12_holds_145 (f_X12_holds_11 r0 x1 x2 x3 n) r0 x1 x2 x3 x4 x5 v121 (x4 - (1 : Int32)) (0 : Int32))))) else mb (gR 15 23 r0) (fun v157 => (if (200 : Int32) ≤ v28 then (if (300 : Int32) ≤ v28 then mb (gR 15 4 r0) (fun v223 => mb (aI 1 v223 x2) (fun v227 => mb (mo 15 r0 (f_X12_isBelow r0 v227 (v28 - v28 / (100 : Int32) * (100 : Int32)))) (fun v230 => f_X12_holds_233 (f_X12_holds_11 r0 x1 x2 x3 n) r0 x1 x2 x3 x4 x5 v157 x4 v230))) else (if ((x3 >>> ((v28 - v28 / (100 : Int32) * (100 : Int32)) &&& 31)) &&& (1 : Int32)) = (1 : Int32) then f_X12_holds_233 (f_X12_holds_11 r0 x1 x2 x3 n) r0 x1 x2 x3 x4 x5 v157 x4 (1 : Int32) else f_X12_holds_233 (f_X12_holds_11 r0 x1 x2 x3 n) r0 x1 x2 x3 x4 x5 v157 x4 (0 : Int32))) else mb (gR 15 33 r0) (fun v171 => mb (aI 1 v171 (v28 - v28 / (100 : Int32) * (100 : Int32))) (fun v176 => mb (gR 15 6 r0) (fun v178 => mb (aI 1 v178 x2) (fun v182 => (if (v176 &&& v182) = 0 then f_X12_holds_233 (f_X12_holds_11 r0 x1 x2 x3 n) r0 x1 x2 x3 x4 x5 v157 x4 (0 : Int32) else f_X12_holds_233 (f_X12_holds_11 r0 x1 x2 x3 n) r0 x1 x2 x3 x4 x5 v157 x4 (1 : Int32))))))))) else mb (gR 15 23 r0) (fun v41 => (if v28 = 0 then mb (gR 15 23 r0) (fun v54 => mb (aI 3 v54 ((x4 + (-1)) - (1 : Int32))) (fun v61 => (if v61 = 0 then f_X12_holds_79 (f_X12_holds_11 r0 x1 x2 x3 n) r0 x1 x2 x3 (x4 + (-1)) x5 v41 ((x4 + (-1)) - (1 : Int32)) else mb (gR 15 23 r0) (fun v66 => mb (aI 3 v66 (x4 + (-1))) (fun v71 => (if v71 = 0 then f_X12_holds_79 (f_X12_holds_11 r0 x1 x2 x3 n) r0 x1 x2 x3 (x4 + (-1)) x5 v41 ((x4 + (-1)) - (1 : Int32)) else f_X12_holds_110 (f_X12_holds_11 r0 x1 x2 x3 n) r0 x1 x2 x3 (x4 + (-1)) x5 v41 ((x4 + (-1)) - (1 : Int32)) (1 : Int32))))))) else mb (gR 15 23 r0) (fun v84 => mb (aI 3 v84 ((x4 + (-1)) - (1 : Int32))) (fun v91 => (if v91 = 0 then mb (gR 15 23 r0) (fun v96 => mb (aI 3 v96 (x4 + (-1))) (fun v101 => (if v101 = 0 then f_X12_holds_110 (f_X12_holds_11 r0 x1 x2 x3 n) r0 x1 x2 x3 (x4 + (-1)) x5 v41 ((x4 + (-1)) - (1 : Int32)) (0 : Int32) else f_X12_holds_105 (f_X12_holds_11 r0 x1 x2 x3 n) r0 x1 x2 x3 (x4 + (-1)) x5 v41 ((x4 + (-1)) - (1 : Int32))))) else f_X12_holds_105 (f_X12_holds_11 r0 x1 x2 x3 n) r0 x1 x2 x3 (x4 + (-1)) x5 v41 ((x4 + (-1)) - (1 : Int32)))))))))))))
set_option maxRecDepth 100000 in
set_option maxHeartbeats 4000000 in
theorem s_X12_holds_11 {X : Cg} (cx : Cx X cX12_holds RX12 8) (hfr : 1 ≤ (xR X).frames) (hlo : 23 ≤ (xR X).locals) (hr : (xM X).sig.returnType = (some .boolean)) (r0 : Option Nat) (x1 : Int32) (x2 : Int32) (x3 : Int32) : ∀ (n : Nat) (x4 : Int32) (x5 : Int32), Sim X 8 (FiM X vI) 11 [(0, va_rf r0), (1, .int x1), (2, .int x2), (3, .int x3), (4, .int x4), (5, .int x5)] [] (f_X12_holds_11 r0 x1 x2 x3 n x4 x5) := by
  intro n
  induction n with
  | zero =>
    intro _ _
    exact sm_mf
  | succ n ih =>
    intro x4 x5
    rw [f_X12_holds_11]
    refine sm_iload cx 5 dX12_holds_11 rfl ?_
    refine sm_aload_n cx 0 dX12_holds_13 rfl rfl ?_
    refine sm_getR cx fl_X12_70 dX12_holds_14 (fun v14 => ?_)
    refine sm_iload_n cx 1 dX12_holds_17 rfl rfl ?_
    refine sm_iald cx dX12_holds_18 (fun v18 => ?_)
    refine sm_icmp_ge (tgt := 243) cx dX12_holds_19 (by decide) ?_ ?_
    · refine sm_iload cx 4 dX12_holds_243 rfl ?_
      refine sm_if_eq (tgt := 257) cx dX12_holds_245 (by decide) ?_ ?_
      · exact sm_lv [] rfl (s_X12_holds_257 cx hfr hlo hr)
      · refine sm_aload_n cx 0 dX12_holds_248 rfl rfl ?_
        refine sm_getR cx fl_X12_49 dX12_holds_249 (fun v249 => ?_)
        refine sm_iconst (v := 0) cx dX12_holds_252 (by decide) ?_
        refine sm_zald cx dX12_holds_253 (fun v253 => ?_)
        refine sm_if_eq (tgt := 261) cx dX12_holds_254 (by decide) ?_ ?_
        · refine sm_iconst (v := 0) cx dX12_holds_261 (by decide) ?_
          exact sm_lv [] rfl (s_X12_holds_262 cx hfr hlo hr (0 : Int32))
        · exact sm_lv [] rfl (s_X12_holds_257 cx hfr hlo hr)
    · refine sm_aload_n cx 0 dX12_holds_22 rfl rfl ?_
      refine sm_getR cx fl_X12_46 dX12_holds_23 (fun v23 => ?_)
      refine sm_iload cx 5 dX12_holds_26 rfl ?_
      refine sm_iald cx dX12_holds_28 (fun v28 => ?_)
      refine sm_istore cx [(6, .int v28), (0, va_rf r0), (1, .int x1), (2, .int x2), (3, .int x3), (4, .int x4), (5, .int x5)] dX12_holds_29 (by decide) rfl (nc1 rfl) rfl ?_
      refine sm_iload cx 0 dX12_holds_31 rfl ?_
      refine sm_iconst (v := 2) cx dX12_holds_33 (by decide) ?_
      refine sm_icmp_ge (tgt := 114) cx dX12_holds_34 (by decide) ?_ ?_
      · refine sm_iload cx 0 dX12_holds_114 rfl ?_
        refine sm_iconst (v := 2) cx dX12_holds_116 (by decide) ?_
        refine sm_icmp_ne (tgt := 149) cx dX12_holds_117 (by decide) ?_ ?_
        · refine sm_iload cx 0 dX12_holds_149 rfl ?_
          refine sm_bipush (v := 100) cx dX12_holds_151 (by decide) ?_
          refine sm_irem cx dX12_holds_153 (by decide) ?_
          refine sm_istore cx [(7, .int (v28 - v28 / (100 : Int32) * (100 : Int32))), (6, .int v28), (0, va_rf r0), (1, .int x1), (2, .int x2), (3, .int x3), (4, .int x4), (5, .int x5)] dX12_holds_154 (by decide) rfl (nc1 rfl) rfl ?_
          refine sm_aload_n cx 2 dX12_holds_156 rfl rfl ?_
          refine sm_getR cx fl_X12_49 dX12_holds_157 (fun v157 => ?_)
          refine sm_iload cx 6 dX12_holds_160 rfl ?_
          refine sm_iload cx 1 dX12_holds_162 rfl ?_
          refine sm_sipush (v := 200) cx dX12_holds_164 (by decide) ?_
          refine sm_icmp_ge (tgt := 195) cx dX12_holds_167 (by decide) ?_ ?_
          · refine sm_iload cx 1 dX12_holds_195 rfl ?_
            refine sm_sipush (v := 300) cx dX12_holds_197 (by decide) ?_
            refine sm_icmp_ge (tgt := 221) cx dX12_holds_200 (by decide) ?_ ?_
            · refine sm_aload_n cx 2 dX12_holds_221 rfl rfl ?_
              refine sm_aload_n cx 2 dX12_holds_222 rfl rfl ?_
              refine sm_getR cx fl_X12_17 dX12_holds_223 (fun v223 => ?_)
              refine sm_iload_n cx 4 dX12_holds_226 rfl rfl ?_
              refine sm_iald cx dX12_holds_227 (fun v227 => ?_)
              refine sm_iload cx 0 dX12_holds_228 rfl ?_
              refine sm_callV (T := TX12) (N := 47) (toV := vI) cx [.int v227, .int (v28 - v28 / (100 : Int32) * (100 : Int32))] rfl cv_X12_208 (fun a h => ct_X12_isBelow (xZ X) a h v227 (v28 - v28 / (100 : Int32) * (100 : Int32))) (Nat.le_trans (by decide) hfr) (Nat.le_trans (by decide) hlo) rfl (cat_le _ (Nat.le_of_ble_eq_true rfl)) dX12_holds_230 (fun v230 => ?_)
              exact sm_lv [2, 3, 4, 5, 6, 7] rfl (s_X12_holds_233 cx hfr hlo hr r0 x1 x2 x3 x4 x5 v157 x4 v230 ih)
            · refine sm_iload_n cx 5 dX12_holds_203 rfl rfl ?_
              refine sm_iload cx 0 dX12_holds_204 rfl ?_
              refine sm_ishr cx dX12_holds_206 ?_
              refine sm_iconst (v := 1) cx dX12_holds_207 (by decide) ?_
              refine sm_iand cx dX12_holds_208 ?_
              refine sm_iconst (v := 1) cx dX12_holds_209 (by decide) ?_
              refine sm_icmp_ne (tgt := 217) cx dX12_holds_210 (by decide) ?_ ?_
              · refine sm_iconst (v := 0) cx dX12_holds_217 (by decide) ?_
                refine sm_goto (tgt := 233) cx dX12_holds_218 (by decide) ?_
                exact sm_lv [2, 3, 4, 5, 6, 7] rfl (s_X12_holds_233 cx hfr hlo hr r0 x1 x2 x3 x4 x5 v157 x4 (0 : Int32) ih)
              · refine sm_iconst (v := 1) cx dX12_holds_213 (by decide) ?_
                refine sm_goto (tgt := 233) cx dX12_holds_214 (by decide) ?_
                exact sm_lv [2, 3, 4, 5, 6, 7] rfl (s_X12_holds_233 cx hfr hlo hr r0 x1 x2 x3 x4 x5 v157 x4 (1 : Int32) ih)
          · refine sm_aload_n cx 2 dX12_holds_170 rfl rfl ?_
            refine sm_getR cx fl_X12_76 dX12_holds_171 (fun v171 => ?_)
            refine sm_iload cx 0 dX12_holds_174 rfl ?_
            refine sm_iald cx dX12_holds_176 (fun v176 => ?_)
            refine sm_aload_n cx 2 dX12_holds_177 rfl rfl ?_
            refine sm_getR cx fl_X12_23 dX12_holds_178 (fun v178 => ?_)
            refine sm_iload_n cx 4 dX12_holds_181 rfl rfl ?_
            refine sm_iald cx dX12_holds_182 (fun v182 => ?_)
            refine sm_iand cx dX12_holds_183 ?_
            refine sm_if_eq (tgt := 191) cx dX12_holds_184 (by decide) ?_ ?_
            · refine sm_iconst (v := 0) cx dX12_holds_191 (by decide) ?_
              refine sm_goto (tgt := 233) cx dX12_holds_192 (by decide) ?_
              exact sm_lv [2, 3, 4, 5, 6, 7] rfl (s_X12_holds_233 cx hfr hlo hr r0 x1 x2 x3 x4 x5 v157 x4 (0 : Int32) ih)
            · refine sm_iconst (v := 1) cx dX12_holds_187 (by decide) ?_
              refine sm_goto (tgt := 233) cx dX12_holds_188 (by decide) ?_
              exact sm_lv [2, 3, 4, 5, 6, 7] rfl (s_X12_holds_233 cx hfr hlo hr r0 x1 x2 x3 x4 x5 v157 x4 (1 : Int32) ih)
        · refine sm_aload_n cx 1 dX12_holds_120 rfl rfl ?_
          refine sm_getR cx fl_X12_49 dX12_holds_121 (fun v121 => ?_)
          refine sm_iload cx 5 dX12_holds_124 rfl ?_
          refine sm_iconst (v := 1) cx dX12_holds_126 (by decide) ?_
          refine sm_isub cx dX12_holds_127 ?_
          refine sm_aload_n cx 1 dX12_holds_128 rfl rfl ?_
          refine sm_getR cx fl_X12_49 dX12_holds_129 (fun v129 => ?_)
          refine sm_iload cx 5 dX12_holds_132 rfl ?_
          refine sm_iconst (v := 1) cx dX12_holds_134 (by decide) ?_
          refine sm_isub cx dX12_holds_135 ?_
          refine sm_zald cx dX12_holds_136 (fun v136 => ?_)
          refine sm_if_ne (tgt := 144) cx dX12_holds_137 (by decide) ?_ ?_
          · refine sm_iconst (v := 0) cx dX12_holds_144 (by decide) ?_
            exact sm_lv [1, 2, 3, 4, 5, 6] rfl (s_X12_holds_145 cx hfr hlo hr r0 x1 x2 x3 x4 x5 v121 (x4 - (1 : Int32)) (0 : Int32) ih)
          · refine sm_iconst (v := 1) cx dX12_holds_140 (by decide) ?_
            refine sm_goto (tgt := 145) cx dX12_holds_141 (by decide) ?_
            exact sm_lv [1, 2, 3, 4, 5, 6] rfl (s_X12_holds_145 cx hfr hlo hr r0 x1 x2 x3 x4 x5 v121 (x4 - (1 : Int32)) (1 : Int32) ih)
      · refine sm_iinc cx 5 [(4, .int (x4 + (-1))), (6, .int v28), (0, va_rf r0), (1, .int x1), (2, .int x2), (3, .int x3), (5, .int x5)] dX12_holds_37 rfl rfl (by decide) rfl (nc1 rfl) rfl ?_
        refine sm_aload_n cx 2 dX12_holds_40 rfl rfl ?_
        refine sm_getR cx fl_X12_49 dX12_holds_41 (fun v41 => ?_)
        refine sm_iload cx 0 dX12_holds_44 rfl ?_
        refine sm_iconst (v := 1) cx dX12_holds_46 (by decide) ?_
        refine sm_isub cx dX12_holds_47 ?_
        refine sm_iload cx 1 dX12_holds_48 rfl ?_
        refine sm_if_ne (tgt := 83) cx dX12_holds_50 (by decide) ?_ ?_
        · refine sm_aload_n cx 2 dX12_holds_83 rfl rfl ?_
          refine sm_getR cx fl_X12_49 dX12_holds_84 (fun v84 => ?_)
          refine sm_iload cx 0 dX12_holds_87 rfl ?_
          refine sm_iconst (v := 1) cx dX12_holds_89 (by decide) ?_
          refine sm_isub cx dX12_holds_90 ?_
          refine sm_zald cx dX12_holds_91 (fun v91 => ?_)
          refine sm_if_ne (tgt := 105) cx dX12_holds_92 (by decide) ?_ ?_
          · exact sm_lv [2, 3, 4, 5, 0, 6] rfl (s_X12_holds_105 cx hfr hlo hr r0 x1 x2 x3 (x4 + (-1)) x5 v41 ((x4 + (-1)) - (1 : Int32)) ih)
          · refine sm_aload_n cx 2 dX12_holds_95 rfl rfl ?_
            refine sm_getR cx fl_X12_49 dX12_holds_96 (fun v96 => ?_)
            refine sm_iload cx 0 dX12_holds_99 rfl ?_
            refine sm_zald cx dX12_holds_101 (fun v101 => ?_)
            refine sm_if_eq (tgt := 109) cx dX12_holds_102 (by decide) ?_ ?_
            · refine sm_iconst (v := 0) cx dX12_holds_109 (by decide) ?_
              exact sm_lv [2, 3, 4, 5, 0, 6] rfl (s_X12_holds_110 cx hfr hlo hr r0 x1 x2 x3 (x4 + (-1)) x5 v41 ((x4 + (-1)) - (1 : Int32)) (0 : Int32) ih)
            · exact sm_lv [2, 3, 4, 5, 0, 6] rfl (s_X12_holds_105 cx hfr hlo hr r0 x1 x2 x3 (x4 + (-1)) x5 v41 ((x4 + (-1)) - (1 : Int32)) ih)
        · refine sm_aload_n cx 2 dX12_holds_53 rfl rfl ?_
          refine sm_getR cx fl_X12_49 dX12_holds_54 (fun v54 => ?_)
          refine sm_iload cx 0 dX12_holds_57 rfl ?_
          refine sm_iconst (v := 1) cx dX12_holds_59 (by decide) ?_
          refine sm_isub cx dX12_holds_60 ?_
          refine sm_zald cx dX12_holds_61 (fun v61 => ?_)
          refine sm_if_eq (tgt := 79) cx dX12_holds_62 (by decide) ?_ ?_
          · exact sm_lv [2, 3, 4, 5, 0, 6] rfl (s_X12_holds_79 cx hfr hlo hr r0 x1 x2 x3 (x4 + (-1)) x5 v41 ((x4 + (-1)) - (1 : Int32)) ih)
          · refine sm_aload_n cx 2 dX12_holds_65 rfl rfl ?_
            refine sm_getR cx fl_X12_49 dX12_holds_66 (fun v66 => ?_)
            refine sm_iload cx 0 dX12_holds_69 rfl ?_
            refine sm_zald cx dX12_holds_71 (fun v71 => ?_)
            refine sm_if_eq (tgt := 79) cx dX12_holds_72 (by decide) ?_ ?_
            · exact sm_lv [2, 3, 4, 5, 0, 6] rfl (s_X12_holds_79 cx hfr hlo hr r0 x1 x2 x3 (x4 + (-1)) x5 v41 ((x4 + (-1)) - (1 : Int32)) ih)
            · refine sm_iconst (v := 1) cx dX12_holds_75 (by decide) ?_
              refine sm_goto (tgt := 110) cx dX12_holds_76 (by decide) ?_
              exact sm_lv [2, 3, 4, 5, 0, 6] rfl (s_X12_holds_110 cx hfr hlo hr r0 x1 x2 x3 (x4 + (-1)) x5 v41 ((x4 + (-1)) - (1 : Int32)) (1 : Int32) ih)
def f_X12_holds (r0 : Option Nat) (x1 : Int32) (x2 : Int32) (x3 : Int32) : Mo Int32 := mb (gR 15 29 r0) (fun v4 => mb (aI 1 v4 x1) (fun v8 => f_X12_holds_11 r0 x1 x2 x3 fuL (0 : Int32) v8))
set_option maxRecDepth 100000 in
set_option maxHeartbeats 4000000 in
theorem s_X12_holds {X : Cg} (cx : Cx X cX12_holds RX12 8) (hfr : 1 ≤ (xR X).frames) (hlo : 23 ≤ (xR X).locals) (hr : (xM X).sig.returnType = (some .boolean)) (r0 : Option Nat) (x1 : Int32) (x2 : Int32) (x3 : Int32) : Sim X 8 (FiM X vI) 0 [(0, va_rf r0), (1, .int x1), (2, .int x2), (3, .int x3)] [] (f_X12_holds r0 x1 x2 x3) := by
  unfold f_X12_holds
  refine sm_iconst (v := 0) cx dX12_holds_0 (by decide) ?_
  refine sm_istore cx [(4, .int (0 : Int32)), (0, va_rf r0), (1, .int x1), (2, .int x2), (3, .int x3)] dX12_holds_1 (by decide) rfl (nc1 rfl) rfl ?_
  refine sm_aload_n cx 1 dX12_holds_3 rfl rfl ?_
  refine sm_getR cx fl_X12_67 dX12_holds_4 (fun v4 => ?_)
  refine sm_iload_n cx 2 dX12_holds_7 rfl rfl ?_
  refine sm_iald cx dX12_holds_8 (fun v8 => ?_)
  refine sm_istore cx [(5, .int v8), (4, .int (0 : Int32)), (0, va_rf r0), (1, .int x1), (2, .int x2), (3, .int x3)] dX12_holds_9 (by decide) rfl (nc1 rfl) rfl ?_
  exact sm_lv [2, 3, 4, 5, 1, 0] rfl (s_X12_holds_11 cx hfr hlo hr r0 x1 x2 x3 fuL (0 : Int32) v8)
set_option maxRecDepth 100000 in
set_option maxHeartbeats 4000000 in
theorem ct_X12_holds (Z : Nat → Nat) {r0 : Option Nat} (a0 : Nat) (h0 : r0 = some a0) (x1 : Int32) (x2 : Int32) (x3 : Int32) : Ct yX12_holds cX12_holds 8 (some .boolean) 1 23 Z [.ref a0, .int x1, .int x2, .int x3] vI (f_X12_holds r0 x1 x2 x3) := by
  subst h0
  refine ct_of (lv0 := [(0, va_rf (some a0)), (1, .int x1), (2, .int x2), (3, .int x3)]) (by decide +kernel) (by simp [lg_sl, ct_i, ct_l, ct_r, rf_cat]) (by show _ = ([(0, Value.ref a0), (1, .int x1), (2, .int x2), (3, .int x3)] : List (Nat × Value)); simp [lv_args, ct_i, ct_l, ct_r, rf_cat]) (fun X cx hZ hfr hlo hr hin => ?_)
  subst hZ
  exact s_X12_holds cx (Nat.le_of_eq hfr.symm) (Nat.le_of_eq hlo.symm) hr (some a0) x1 x2 x3
/-! PolicyTreeModel.groupsAnew()V -/
theorem dX12_groupsAnew_0 : decode cX12_groupsAnew 0 = .ok (.iconst 0, 1) := by decide +kernel
theorem dX12_groupsAnew_1 : decode cX12_groupsAnew 1 = .ok (.istore_n 1, 1) := by decide +kernel
theorem dX12_groupsAnew_2 : decode cX12_groupsAnew 2 = .ok (.iload_n 1, 1) := by decide +kernel
theorem dX12_groupsAnew_3 : decode cX12_groupsAnew 3 = .ok (.aload_n 0, 1) := by decide +kernel
theorem dX12_groupsAnew_4 : decode cX12_groupsAnew 4 = .ok (.getfield 111, 3) := by decide +kernel
theorem dX12_groupsAnew_7 : decode cX12_groupsAnew 7 = .ok (.if_icmp .ge 20, 3) := by decide +kernel
theorem dX12_groupsAnew_10 : decode cX12_groupsAnew 10 = .ok (.aload_n 0, 1) := by decide +kernel
theorem dX12_groupsAnew_11 : decode cX12_groupsAnew 11 = .ok (.getfield 76, 3) := by decide +kernel
theorem dX12_groupsAnew_14 : decode cX12_groupsAnew 14 = .ok (.iload_n 1, 1) := by decide +kernel
theorem dX12_groupsAnew_15 : decode cX12_groupsAnew 15 = .ok (.aload_n 0, 1) := by decide +kernel
theorem dX12_groupsAnew_16 : decode cX12_groupsAnew 16 = .ok (.iload_n 1, 1) := by decide +kernel
theorem dX12_groupsAnew_17 : decode cX12_groupsAnew 17 = .ok (.invokevirtual 114, 3) := by decide +kernel
theorem dX12_groupsAnew_20 : decode cX12_groupsAnew 20 = .ok (.iastore, 1) := by decide +kernel
theorem dX12_groupsAnew_21 : decode cX12_groupsAnew 21 = .ok (.iinc 1 1, 3) := by decide +kernel
theorem dX12_groupsAnew_24 : decode cX12_groupsAnew 24 = .ok (.goto (-22), 3) := by decide +kernel
theorem dX12_groupsAnew_27 : decode cX12_groupsAnew 27 = .ok (.return_, 1) := by decide +kernel
def f_X12_groupsAnew_2 (r0 : Option Nat) : Nat → Int32 → Mo Unit
  | 0, _ => mf
  | n + 1, x1 => mb (gI 15 9 r0) (fun v4 => (if v4 ≤ x1 then mp () else mb (gR 15 33 r0) (fun v11 => mb (mo 15 r0 (f_X12_allIn r0 x1)) (fun v17 => mb (sI 1 v11 x1 v17) (fun _ => (f_X12_groupsAnew_2 r0 n) (x1 + 1))))))
set_option maxRecDepth 100000 in
set_option maxHeartbeats 4000000 in
theorem s_X12_groupsAnew_2 {X : Cg} (cx : Cx X cX12_groupsAnew RX12 2) (hfr : 1 ≤ (xR X).frames) (hlo : 24 ≤ (xR X).locals) (hr : (xM X).sig.returnType = none) (r0 : Option Nat) : ∀ (n : Nat) (x1 : Int32), Sim X 2 (FiM X vV) 2 [(0, va_rf r0), (1, .int x1)] [] (f_X12_groupsAnew_2 r0 n x1) := by
  intro n
  induction n with
  | zero =>
    intro _
    exact sm_mf
  | succ n ih =>
    intro x1
    rw [f_X12_groupsAnew_2]
    refine sm_iload_n cx 1 dX12_groupsAnew_2 rfl rfl ?_
    refine sm_aload_n cx 0 dX12_groupsAnew_3 rfl rfl ?_
    refine sm_getI cx fl_X12_111 dX12_groupsAnew_4 (fun v4 => ?_)
    refine sm_icmp_ge (tgt := 27) cx dX12_groupsAnew_7 (by decide) ?_ ?_
    · exact sm_vret cx hr dX12_groupsAnew_27
    · refine sm_aload_n cx 0 dX12_groupsAnew_10 rfl rfl ?_
      refine sm_getR cx fl_X12_76 dX12_groupsAnew_11 (fun v11 => ?_)
      refine sm_iload_n cx 1 dX12_groupsAnew_14 rfl rfl ?_
      refine sm_aload_n cx 0 dX12_groupsAnew_15 rfl rfl ?_
      refine sm_iload_n cx 1 dX12_groupsAnew_16 rfl rfl ?_
      refine sm_callV (T := TX12) (N := 47) (toV := vI) cx [.int x1] rfl cv_X12_114 (fun a h => ct_X12_allIn (xZ X) a h x1) (Nat.le_trans (by decide) hfr) (Nat.le_trans (by decide) hlo) rfl (cat_le _ (Nat.le_of_ble_eq_true rfl)) dX12_groupsAnew_17 (fun v17 => ?_)
      refine sm_iast cx dX12_groupsAnew_20 ?_
      refine sm_iinc cx 1 [(1, .int (x1 + 1)), (0, va_rf r0)] dX12_groupsAnew_21 rfl rfl (by decide) rfl (nc1 (rf_cat _)) rfl ?_
      refine sm_goto (tgt := 2) cx dX12_groupsAnew_24 (by decide) ?_
      exact sm_lv [1, 0] rfl (ih (x1 + 1))
def f_X12_groupsAnew (r0 : Option Nat) : Mo Unit := f_X12_groupsAnew_2 r0 fuL (0 : Int32)
set_option maxRecDepth 100000 in
set_option maxHeartbeats 4000000 in
theorem s_X12_groupsAnew {X : Cg} (cx : Cx X cX12_groupsAnew RX12 2) (hfr : 1 ≤ (xR X).frames) (hlo : 24 ≤ (xR X).locals) (hr : (xM X).sig.returnType = none) (r0 : Option Nat) : Sim X 2 (FiM X vV) 0 [(0, va_rf r0)] [] (f_X12_groupsAnew r0) := by
  unfold f_X12_groupsAnew
  refine sm_iconst (v := 0) cx dX12_groupsAnew_0 (by decide) ?_
  refine sm_istore_n cx [(1, .int (0 : Int32)), (0, va_rf r0)] dX12_groupsAnew_1 rfl (by decide) rfl (nc1 (rf_cat _)) rfl ?_
  exact sm_lv [1, 0] rfl (s_X12_groupsAnew_2 cx hfr hlo hr r0 fuL (0 : Int32))
set_option maxRecDepth 100000 in
set_option maxHeartbeats 4000000 in
theorem ct_X12_groupsAnew (Z : Nat → Nat) {r0 : Option Nat} (a0 : Nat) (h0 : r0 = some a0) : Ct yX12_groupsAnew cX12_groupsAnew 2 none 1 24 Z [.ref a0] vV (f_X12_groupsAnew r0) := by
  subst h0
  refine ct_of (lv0 := [(0, va_rf (some a0))]) (by decide +kernel) (by simp [lg_sl, ct_i, ct_l, ct_r, rf_cat]) (by show _ = ([(0, Value.ref a0)] : List (Nat × Value)); simp [lv_args, ct_i, ct_l, ct_r, rf_cat]) (fun X cx hZ hfr hlo hr hin => ?_)
  subst hZ
  exact s_X12_groupsAnew cx (Nat.le_of_eq hfr.symm) (Nat.le_of_eq hlo.symm) hr (some a0)
/-! PolicyTreeModel.yesOf(I)I -/
theorem dX12_yesOf_0 : decode cX12_yesOf 0 = .ok (.iconst 0, 1) := by decide +kernel
theorem dX12_yesOf_1 : decode cX12_yesOf 1 = .ok (.istore_n 2, 1) := by decide +kernel
theorem dX12_yesOf_2 : decode cX12_yesOf 2 = .ok (.iconst 0, 1) := by decide +kernel
theorem dX12_yesOf_3 : decode cX12_yesOf 3 = .ok (.istore_n 3, 1) := by decide +kernel
theorem dX12_yesOf_4 : decode cX12_yesOf 4 = .ok (.iload_n 3, 1) := by decide +kernel
theorem dX12_yesOf_5 : decode cX12_yesOf 5 = .ok (.bipush 8, 2) := by decide +kernel
theorem dX12_yesOf_7 : decode cX12_yesOf 7 = .ok (.if_icmp .ge 34, 3) := by decide +kernel
theorem dX12_yesOf_10 : decode cX12_yesOf 10 = .ok (.iload_n 2, 1) := by decide +kernel
theorem dX12_yesOf_11 : decode cX12_yesOf 11 = .ok (.aload_n 0, 1) := by decide +kernel
theorem dX12_yesOf_12 : decode cX12_yesOf 12 = .ok (.getfield 20, 3) := by decide +kernel
theorem dX12_yesOf_15 : decode cX12_yesOf 15 = .ok (.bipush 8, 2) := by decide +kernel
theorem dX12_yesOf_17 : decode cX12_yesOf 17 = .ok (.iload_n 1, 1) := by decide +kernel
theorem dX12_yesOf_18 : decode cX12_yesOf 18 = .ok (.imul, 1) := by decide +kernel
theorem dX12_yesOf_19 : decode cX12_yesOf 19 = .ok (.iload_n 3, 1) := by decide +kernel
theorem dX12_yesOf_20 : decode cX12_yesOf 20 = .ok (.iadd, 1) := by decide +kernel
theorem dX12_yesOf_21 : decode cX12_yesOf 21 = .ok (.iaload, 1) := by decide +kernel
theorem dX12_yesOf_22 : decode cX12_yesOf 22 = .ok (.iconst 1, 1) := by decide +kernel
theorem dX12_yesOf_23 : decode cX12_yesOf 23 = .ok (.if_icmp .ne 9, 3) := by decide +kernel
theorem dX12_yesOf_26 : decode cX12_yesOf 26 = .ok (.iconst 1, 1) := by decide +kernel
theorem dX12_yesOf_27 : decode cX12_yesOf 27 = .ok (.iload_n 3, 1) := by decide +kernel
theorem dX12_yesOf_28 : decode cX12_yesOf 28 = .ok (.ishl, 1) := by decide +kernel
theorem dX12_yesOf_29 : decode cX12_yesOf 29 = .ok (.goto 4, 3) := by decide +kernel
theorem dX12_yesOf_32 : decode cX12_yesOf 32 = .ok (.iconst 0, 1) := by decide +kernel
theorem dX12_yesOf_33 : decode cX12_yesOf 33 = .ok (.ior, 1) := by decide +kernel
theorem dX12_yesOf_34 : decode cX12_yesOf 34 = .ok (.istore_n 2, 1) := by decide +kernel
theorem dX12_yesOf_35 : decode cX12_yesOf 35 = .ok (.iinc 3 1, 3) := by decide +kernel
theorem dX12_yesOf_38 : decode cX12_yesOf 38 = .ok (.goto (-34), 3) := by decide +kernel
theorem dX12_yesOf_41 : decode cX12_yesOf 41 = .ok (.iload_n 2, 1) := by decide +kernel
theorem dX12_yesOf_42 : decode cX12_yesOf 42 = .ok (.ireturn, 1) := by decide +kernel
def f_X12_yesOf_33 (k4 : Int32 → Int32 → Mo Int32) (r0 : Option Nat) (x1 : Int32) (x3 : Int32) (sx0 : Int32) (sx1 : Int32) : Mo Int32 := k4 (sx0 ||| sx1) (x3 + 1)
set_option maxRecDepth 100000 in
set_option maxHeartbeats 4000000 in
theorem s_X12_yesOf_33 {X : Cg} (cx : Cx X cX12_yesOf RX12 4) (hfr : 0 ≤ (xR X).frames) (hlo : 0 ≤ (xR X).locals) (hr : (xM X).sig.returnType = (some .int)) (r0 : Option Nat) (x1 : Int32) (x3 : Int32) (sx0 : Int32) (sx1 : Int32) {k4 : Int32 → Int32 → Mo Int32} (hk4 : ∀ (x2 : Int32) (x3 : Int32), Sim X 4 (FiM X vI) 4 [(0, va_rf r0), (1, .int x1), (2, .int x2), (3, .int x3)] [] (k4 x2 x3)) : Sim X 4 (FiM X vI) 33 [(0, va_rf r0), (1, .int x1), (3, .int x3)] [.int sx1, .int sx0] (f_X12_yesOf_33 k4 r0 x1 x3 sx0 sx1) := by
  unfold f_X12_yesOf_33
  refine sm_ior cx dX12_yesOf_33 ?_
  refine sm_istore_n cx [(2, .int (sx0 ||| sx1)), (0, va_rf r0), (1, .int x1), (3, .int x3)] dX12_yesOf_34 rfl (by decide) rfl (nc1 rfl) rfl ?_
  refine sm_iinc cx 3 [(3, .int (x3 + 1)), (2, .int (sx0 ||| sx1)), (0, va_rf r0), (1, .int x1)] dX12_yesOf_35 rfl rfl (by decide) rfl (nc1 rfl) rfl ?_
  refine sm_goto (tgt := 4) cx dX12_yesOf_38 (by decide) ?_
  exact sm_lv [2, 3, 1, 0] rfl (hk4 (sx0 ||| sx1) (x3 + 1))
def f_X12_yesOf_4 (r0 : Option Nat) (x1 : Int32) : Nat → Int32 → Int32 → Mo Int32
  | 0, _, _ => mf
  | n + 1, x2, x3 => (if (8 : Int32) ≤ x3 then mp x2 else mb (gR 15 5 r0) (fun v12 => mb (aI 1 v12 (((8 : Int32) * x1) + x3)) (fun v21 => (if v21 = (1 : Int32) then f_X12_yesOf_33 (f_X12_yesOf_4 r0 x1 n) r0 x1 x3 x2 ((1 : Int32) <<< (x3 &&& 31)) else f_X12_yesOf_33 (f_X12_yesOf_4 r0 x1 n) r0 x1 x3 x2 (0 : Int32)))))
set_option maxRecDepth 100000 in
set_option maxHeartbeats 4000000 in
theorem s_X12_yesOf_4 {X : Cg} (cx : Cx X cX12_yesOf RX12 4) (hfr : 0 ≤ (xR X).frames) (hlo : 0 ≤ (xR X).locals) (hr : (xM X).sig.returnType = (some .int)) (r0 : Option Nat) (x1 : Int32) : ∀ (n : Nat) (x2 : Int32) (x3 : Int32), Sim X 4 (FiM X vI) 4 [(0, va_rf r0), (1, .int x1), (2, .int x2), (3, .int x3)] [] (f_X12_yesOf_4 r0 x1 n x2 x3) := by
  intro n
  induction n with
  | zero =>
    intro _ _
    exact sm_mf
  | succ n ih =>
    intro x2 x3
    rw [f_X12_yesOf_4]
    refine sm_iload_n cx 3 dX12_yesOf_4 rfl rfl ?_
    refine sm_bipush (v := 8) cx dX12_yesOf_5 (by decide) ?_
    refine sm_icmp_ge (tgt := 41) cx dX12_yesOf_7 (by decide) ?_ ?_
    · refine sm_iload_n cx 2 dX12_yesOf_41 rfl rfl ?_
      exact sm_iret cx hr dX12_yesOf_42
    · refine sm_iload_n cx 2 dX12_yesOf_10 rfl rfl ?_
      refine sm_aload_n cx 0 dX12_yesOf_11 rfl rfl ?_
      refine sm_getR cx fl_X12_20 dX12_yesOf_12 (fun v12 => ?_)
      refine sm_bipush (v := 8) cx dX12_yesOf_15 (by decide) ?_
      refine sm_iload_n cx 1 dX12_yesOf_17 rfl rfl ?_
      refine sm_imul cx dX12_yesOf_18 ?_
      refine sm_iload_n cx 3 dX12_yesOf_19 rfl rfl ?_
      refine sm_iadd cx dX12_yesOf_20 ?_
      refine sm_iald cx dX12_yesOf_21 (fun v21 => ?_)
      refine sm_iconst (v := 1) cx dX12_yesOf_22 (by decide) ?_
      refine sm_icmp_ne (tgt := 32) cx dX12_yesOf_23 (by decide) ?_ ?_
      · refine sm_iconst (v := 0) cx dX12_yesOf_32 (by decide) ?_
        exact sm_lv [0, 1, 3] rfl (s_X12_yesOf_33 cx hfr hlo hr r0 x1 x3 x2 (0 : Int32) ih)
      · refine sm_iconst (v := 1) cx dX12_yesOf_26 (by decide) ?_
        refine sm_iload_n cx 3 dX12_yesOf_27 rfl rfl ?_
        refine sm_ishl cx dX12_yesOf_28 ?_
        refine sm_goto (tgt := 33) cx dX12_yesOf_29 (by decide) ?_
        exact sm_lv [0, 1, 3] rfl (s_X12_yesOf_33 cx hfr hlo hr r0 x1 x3 x2 ((1 : Int32) <<< (x3 &&& 31)) ih)
def f_X12_yesOf (r0 : Option Nat) (x1 : Int32) : Mo Int32 := f_X12_yesOf_4 r0 x1 fuL (0 : Int32) (0 : Int32)
set_option maxRecDepth 100000 in
set_option maxHeartbeats 4000000 in
theorem s_X12_yesOf {X : Cg} (cx : Cx X cX12_yesOf RX12 4) (hfr : 0 ≤ (xR X).frames) (hlo : 0 ≤ (xR X).locals) (hr : (xM X).sig.returnType = (some .int)) (r0 : Option Nat) (x1 : Int32) : Sim X 4 (FiM X vI) 0 [(0, va_rf r0), (1, .int x1)] [] (f_X12_yesOf r0 x1) := by
  unfold f_X12_yesOf
  refine sm_iconst (v := 0) cx dX12_yesOf_0 (by decide) ?_
  refine sm_istore_n cx [(2, .int (0 : Int32)), (0, va_rf r0), (1, .int x1)] dX12_yesOf_1 rfl (by decide) rfl (nc1 rfl) rfl ?_
  refine sm_iconst (v := 0) cx dX12_yesOf_2 (by decide) ?_
  refine sm_istore_n cx [(3, .int (0 : Int32)), (2, .int (0 : Int32)), (0, va_rf r0), (1, .int x1)] dX12_yesOf_3 rfl (by decide) rfl (nc1 rfl) rfl ?_
  exact sm_lv [2, 3, 1, 0] rfl (s_X12_yesOf_4 cx hfr hlo hr r0 x1 fuL (0 : Int32) (0 : Int32))
set_option maxRecDepth 100000 in
set_option maxHeartbeats 4000000 in
theorem ct_X12_yesOf (Z : Nat → Nat) {r0 : Option Nat} (a0 : Nat) (h0 : r0 = some a0) (x1 : Int32) : Ct yX12_yesOf cX12_yesOf 4 (some .int) 0 0 Z [.ref a0, .int x1] vI (f_X12_yesOf r0 x1) := by
  subst h0
  refine ct_of (lv0 := [(0, va_rf (some a0)), (1, .int x1)]) (by decide +kernel) (by simp [lg_sl, ct_i, ct_l, ct_r, rf_cat]) (by show _ = ([(0, Value.ref a0), (1, .int x1)] : List (Nat × Value)); simp [lv_args, ct_i, ct_l, ct_r, rf_cat]) (fun X cx hZ hfr hlo hr hin => ?_)
  subst hZ
  exact s_X12_yesOf cx (Nat.le_of_eq hfr.symm) (Nat.le_of_eq hlo.symm) hr (some a0) x1
/-! PolicyTreeModel.adds(IZIII)V -/
theorem dX12_adds_0 : decode cX12_adds 0 = .ok (.iconst 0, 1) := by decide +kernel
theorem dX12_adds_1 : decode cX12_adds 1 = .ok (.istore 6, 2) := by decide +kernel
theorem dX12_adds_3 : decode cX12_adds 3 = .ok (.iload 6, 2) := by decide +kernel
theorem dX12_adds_5 : decode cX12_adds 5 = .ok (.aload_n 0, 1) := by decide +kernel
theorem dX12_adds_6 : decode cX12_adds 6 = .ok (.getfield 205, 3) := by decide +kernel
theorem dX12_adds_9 : decode cX12_adds 9 = .ok (.if_icmp .ge 93, 3) := by decide +kernel
theorem dX12_adds_12 : decode cX12_adds 12 = .ok (.aload_n 0, 1) := by decide +kernel
theorem dX12_adds_13 : decode cX12_adds 13 = .ok (.getfield 73, 3) := by decide +kernel
theorem dX12_adds_16 : decode cX12_adds 16 = .ok (.iload 6, 2) := by decide +kernel
theorem dX12_adds_18 : decode cX12_adds 18 = .ok (.iaload, 1) := by decide +kernel
theorem dX12_adds_19 : decode cX12_adds 19 = .ok (.istore 7, 2) := by decide +kernel
theorem dX12_adds_21 : decode cX12_adds 21 = .ok (.aload_n 0, 1) := by decide +kernel
theorem dX12_adds_22 : decode cX12_adds 22 = .ok (.getfield 64, 3) := by decide +kernel
theorem dX12_adds_25 : decode cX12_adds 25 = .ok (.iload 7, 2) := by decide +kernel
theorem dX12_adds_27 : decode cX12_adds 27 = .ok (.baload, 1) := by decide +kernel
theorem dX12_adds_28 : decode cX12_adds 28 = .ok (.ifCond .ne 68, 3) := by decide +kernel
theorem dX12_adds_31 : decode cX12_adds 31 = .ok (.iload 7, 2) := by decide +kernel
theorem dX12_adds_33 : decode cX12_adds 33 = .ok (.iload 5, 2) := by decide +kernel
theorem dX12_adds_35 : decode cX12_adds 35 = .ok (.if_icmp .eq 61, 3) := by decide +kernel
theorem dX12_adds_38 : decode cX12_adds 38 = .ok (.aload_n 0, 1) := by decide +kernel
theorem dX12_adds_39 : decode cX12_adds 39 = .ok (.getfield 52, 3) := by decide +kernel
theorem dX12_adds_42 : decode cX12_adds 42 = .ok (.iload 7, 2) := by decide +kernel
theorem dX12_adds_44 : decode cX12_adds 44 = .ok (.iaload, 1) := by decide +kernel
theorem dX12_adds_45 : decode cX12_adds 45 = .ok (.iload_n 1, 1) := by decide +kernel
theorem dX12_adds_46 : decode cX12_adds 46 = .ok (.if_icmp .ne 50, 3) := by decide +kernel
theorem dX12_adds_49 : decode cX12_adds 49 = .ok (.aload_n 0, 1) := by decide +kernel
theorem dX12_adds_50 : decode cX12_adds 50 = .ok (.getfield 61, 3) := by decide +kernel
theorem dX12_adds_53 : decode cX12_adds 53 = .ok (.iload 7, 2) := by decide +kernel
theorem dX12_adds_55 : decode cX12_adds 55 = .ok (.baload, 1) := by decide +kernel
theorem dX12_adds_56 : decode cX12_adds 56 = .ok (.iload_n 2, 1) := by decide +kernel
theorem dX12_adds_57 : decode cX12_adds 57 = .ok (.if_icmp .ne 39, 3) := by decide +kernel
theorem dX12_adds_60 : decode cX12_adds 60 = .ok (.aload_n 0, 1) := by decide +kernel
theorem dX12_adds_61 : decode cX12_adds 61 = .ok (.iload 7, 2) := by decide +kernel
theorem dX12_adds_63 : decode cX12_adds 63 = .ok (.iload_n 3, 1) := by decide +kernel
theorem dX12_adds_64 : decode cX12_adds 64 = .ok (.iload 4, 2) := by decide +kernel
theorem dX12_adds_66 : decode cX12_adds 66 = .ok (.invokevirtual 211, 3) := by decide +kernel
theorem dX12_adds_69 : decode cX12_adds 69 = .ok (.ifCond .ne 6, 3) := by decide +kernel
theorem dX12_adds_72 : decode cX12_adds 72 = .ok (.goto 24, 3) := by decide +kernel
theorem dX12_adds_75 : decode cX12_adds 75 = .ok (.aload_n 0, 1) := by decide +kernel
theorem dX12_adds_76 : decode cX12_adds 76 = .ok (.getfield 82, 3) := by decide +kernel
theorem dX12_adds_79 : decode cX12_adds 79 = .ok (.aload_n 0, 1) := by decide +kernel
theorem dX12_adds_80 : decode cX12_adds 80 = .ok (.getfield 215, 3) := by decide +kernel
theorem dX12_adds_83 : decode cX12_adds 83 = .ok (.iload 7, 2) := by decide +kernel
theorem dX12_adds_85 : decode cX12_adds 85 = .ok (.iastore, 1) := by decide +kernel
theorem dX12_adds_86 : decode cX12_adds 86 = .ok (.aload_n 0, 1) := by decide +kernel
theorem dX12_adds_87 : decode cX12_adds 87 = .ok (.dup, 1) := by decide +kernel
theorem dX12_adds_88 : decode cX12_adds 88 = .ok (.getfield 215, 3) := by decide +kernel
theorem dX12_adds_91 : decode cX12_adds 91 = .ok (.iconst 1, 1) := by decide +kernel
theorem dX12_adds_92 : decode cX12_adds 92 = .ok (.iadd, 1) := by decide +kernel
theorem dX12_adds_93 : decode cX12_adds 93 = .ok (.putfield 215, 3) := by decide +kernel
theorem dX12_adds_96 : decode cX12_adds 96 = .ok (.iinc 6 1, 3) := by decide +kernel
theorem dX12_adds_99 : decode cX12_adds 99 = .ok (.goto (-96), 3) := by decide +kernel
theorem dX12_adds_102 : decode cX12_adds 102 = .ok (.return_, 1) := by decide +kernel
def f_X12_adds_96 (k3 : Int32 → Mo Unit) (r0 : Option Nat) (x1 : Int32) (x2 : Int32) (x3 : Int32) (x4 : Int32) (x5 : Int32) (x6 : Int32) : Mo Unit := k3 (x6 + 1)
set_option maxRecDepth 100000 in
set_option maxHeartbeats 4000000 in
theorem s_X12_adds_96 {X : Cg} (cx : Cx X cX12_adds RX12 8) (hfr : 2 ≤ (xR X).frames) (hlo : 50 ≤ (xR X).locals) (hr : (xM X).sig.returnType = none) (r0 : Option Nat) (x1 : Int32) (x2 : Int32) (x3 : Int32) (x4 : Int32) (x5 : Int32) (x6 : Int32) {k3 : Int32 → Mo Unit} (hk3 : ∀ (x6 : Int32), Sim X 8 (FiM X vV) 3 [(0, va_rf r0), (1, .int x1), (2, .int x2), (3, .int x3), (4, .int x4), (5, .int x5), (6, .int x6)] [] (k3 x6)) : Sim X 8 (FiM X vV) 96 [(0, va_rf r0), (1, .int x1), (2, .int x2), (3, .int x3), (4, .int x4), (5, .int x5), (6, .int x6)] [] (f_X12_adds_96 k3 r0 x1 x2 x3 x4 x5 x6) := by
  unfold f_X12_adds_96
  refine sm_iinc cx 6 [(6, .int (x6 + 1)), (0, va_rf r0), (1, .int x1), (2, .int x2), (3, .int x3), (4, .int x4), (5, .int x5)] dX12_adds_96 rfl rfl (by decide) rfl (nc1 rfl) rfl ?_
  refine sm_goto (tgt := 3) cx dX12_adds_99 (by decide) ?_
  exact sm_lv [1, 2, 3, 4, 5, 6, 0] rfl (hk3 (x6 + 1))
def f_X12_adds_3 (r0 : Option Nat) (x1 : Int32) (x2 : Int32) (x3 : Int32) (x4 : Int32) (x5 : Int32) : Nat → Int32 → Mo Unit
  | 0, _ => mf
  | n + 1, x6 => mb (gI 15 32 r0) (fun v6 => (if v6 ≤ x6 then mp () else mb (gR 15 31 r0) (fun v13 => mb (aI 1 v13 x6) (fun v18 => mb (gR 15 28 r0) (fun v22 => mb (aI 3 v22 v18) (fun v27 => (if v27 = 0 then (if v18 = x5 then f_X12_adds_96 (f_X12_adds_3 r0 x1 x2 x3 x4 x5 n) r0 x1 x2 x3 x4 x5 x6 else mb (gR 15 24 r0) (fun v39 => mb (aI 1 v39 v18) (fun v44 => (if v44 = x1 then mb (gR 15 27 r0) (fun v50 => mb (aI 3 v50 v18) (fun v55 => (if v55 = x2 then mb (mo 15 r0 (f_X12_holds r0 v18 x3 x4)) (fun v66 => (if v66 = 0 then f_X12_adds_96 (f_X12_adds_3 r0 x1 x2 x3 x4 x5 n) r0 x1 x2 x3 x4 x5 x6 else mb (gR 15 35 r0) (fun v76 => mb (gI 15 36 r0) (fun v80 => mb (sI 1 v76 v80 v18) (fun _ => mb (gI 15 36 r0) (fun v88 => mb (pV 15 36 r0 (.int (v88 + (1 : Int32)))) (fun _ => f_X12_adds_96 (f_X12_adds_3 r0 x1 x2 x3 x4 x5 n) r0 x1 x2 x3 x4 x5 x6))))))) else f_X12_adds_96 (f_X12_adds_3 r0 x1 x2 x3 x4 x5 n) r0 x1 x2 x3 x4 x5 x6))) else f_X12_adds_96 (f_X12_adds_3 r0 x1 x2 x3 x4 x5 n) r0 x1 x2 x3 x4 x5 x6)))) else f_X12_adds_96 (f_X12_adds_3 r0 x1 x2 x3 x4 x5 n) r0 x1 x2 x3 x4 x5 x6)))))))
set_option maxRecDepth 100000 in
set_option maxHeartbeats 4000000 in
theorem s_X12_adds_3 {X : Cg} (cx : Cx X cX12_adds RX12 8) (hfr : 2 ≤ (xR X).frames) (hlo : 50 ≤ (xR X).locals) (hr : (xM X).sig.returnType = none) (r0 : Option Nat) (x1 : Int32) (x2 : Int32) (x3 : Int32) (x4 : Int32) (x5 : Int32) : ∀ (n : Nat) (x6 : Int32), Sim X 8 (FiM X vV) 3 [(0, va_rf r0), (1, .int x1), (2, .int x2), (3, .int x3), (4, .int x4), (5, .int x5), (6, .int x6)] [] (f_X12_adds_3 r0 x1 x2 x3 x4 x5 n x6) := by
  intro n
  induction n with
  | zero =>
    intro _
    exact sm_mf
  | succ n ih =>
    intro x6
    rw [f_X12_adds_3]
    refine sm_iload cx 6 dX12_adds_3 rfl ?_
    refine sm_aload_n cx 0 dX12_adds_5 rfl rfl ?_
    refine sm_getI cx fl_X12_205 dX12_adds_6 (fun v6 => ?_)
    refine sm_icmp_ge (tgt := 102) cx dX12_adds_9 (by decide) ?_ ?_
    · exact sm_vret cx hr dX12_adds_102
    · refine sm_aload_n cx 0 dX12_adds_12 rfl rfl ?_
      refine sm_getR cx fl_X12_73 dX12_adds_13 (fun v13 => ?_)
      refine sm_iload cx 6 dX12_adds_16 rfl ?_
      refine sm_iald cx dX12_adds_18 (fun v18 => ?_)
      refine sm_istore cx [(7, .int v18), (0, va_rf r0), (1, .int x1), (2, .int x2), (3, .int x3), (4, .int x4), (5, .int x5), (6, .int x6)] dX12_adds_19 (by decide) rfl (nc1 rfl) rfl ?_
      refine sm_aload_n cx 1 dX12_adds_21 rfl rfl ?_
      refine sm_getR cx fl_X12_64 dX12_adds_22 (fun v22 => ?_)
      refine sm_iload cx 0 dX12_adds_25 rfl ?_
      refine sm_zald cx dX12_adds_27 (fun v27 => ?_)
      refine sm_if_ne (tgt := 96) cx dX12_adds_28 (by decide) ?_ ?_
      · exact sm_lv [1, 2, 3, 4, 5, 6, 7] rfl (s_X12_adds_96 cx hfr hlo hr r0 x1 x2 x3 x4 x5 x6 ih)
      · refine sm_iload cx 0 dX12_adds_31 rfl ?_
        refine sm_iload cx 6 dX12_adds_33 rfl ?_
        refine sm_icmp_eq (tgt := 96) cx dX12_adds_35 (by decide) ?_ ?_
        · exact sm_lv [1, 2, 3, 4, 5, 6, 7] rfl (s_X12_adds_96 cx hfr hlo hr r0 x1 x2 x3 x4 x5 x6 ih)
        · refine sm_aload_n cx 1 dX12_adds_38 rfl rfl ?_
          refine sm_getR cx fl_X12_52 dX12_adds_39 (fun v39 => ?_)
          refine sm_iload cx 0 dX12_adds_42 rfl ?_
          refine sm_iald cx dX12_adds_44 (fun v44 => ?_)
          refine sm_iload_n cx 2 dX12_adds_45 rfl rfl ?_
          refine sm_icmp_ne (tgt := 96) cx dX12_adds_46 (by decide) ?_ ?_
          · exact sm_lv [1, 2, 3, 4, 5, 6, 7] rfl (s_X12_adds_96 cx hfr hlo hr r0 x1 x2 x3 x4 x5 x6 ih)
          · refine sm_aload_n cx 1 dX12_adds_49 rfl rfl ?_
            refine sm_getR cx fl_X12_61 dX12_adds_50 (fun v50 => ?_)
            refine sm_iload cx 0 dX12_adds_53 rfl ?_
            refine sm_zald cx dX12_adds_55 (fun v55 => ?_)
            refine sm_iload_n cx 3 dX12_adds_56 rfl rfl ?_
            refine sm_icmp_ne (tgt := 96) cx dX12_adds_57 (by decide) ?_ ?_
            · exact sm_lv [1, 2, 3, 4, 5, 6, 7] rfl (s_X12_adds_96 cx hfr hlo hr r0 x1 x2 x3 x4 x5 x6 ih)
            · refine sm_aload_n cx 1 dX12_adds_60 rfl rfl ?_
              refine sm_iload cx 0 dX12_adds_61 rfl ?_
              refine sm_iload_n cx 4 dX12_adds_63 rfl rfl ?_
              refine sm_iload cx 5 dX12_adds_64 rfl ?_
              refine sm_callV (T := TX12) (N := 47) (toV := vI) cx [.int v18, .int x3, .int x4] rfl cv_X12_211 (fun a h => ct_X12_holds (xZ X) a h v18 x3 x4) (Nat.le_trans (by decide) hfr) (Nat.le_trans (by decide) hlo) rfl (cat_le _ (Nat.le_of_ble_eq_true rfl)) dX12_adds_66 (fun v66 => ?_)
              refine sm_if_ne (tgt := 75) cx dX12_adds_69 (by decide) ?_ ?_
              · refine sm_aload_n cx 1 dX12_adds_75 rfl rfl ?_
                refine sm_getR cx fl_X12_82 dX12_adds_76 (fun v76 => ?_)
                refine sm_aload_n cx 1 dX12_adds_79 rfl rfl ?_
                refine sm_getI cx fl_X12_215 dX12_adds_80 (fun v80 => ?_)
                refine sm_iload cx 0 dX12_adds_83 rfl ?_
                refine sm_iast cx dX12_adds_85 ?_
                refine sm_aload_n cx 1 dX12_adds_86 rfl rfl ?_
                refine sm_dup cx dX12_adds_87 (rf_cat _) ?_
                refine sm_getI cx fl_X12_215 dX12_adds_88 (fun v88 => ?_)
                refine sm_iconst (v := 1) cx dX12_adds_91 (by decide) ?_
                refine sm_iadd cx dX12_adds_92 ?_
                refine sm_putV cx fl_X12_215 rfl rfl dX12_adds_93 ?_
                exact sm_lv [1, 2, 3, 4, 5, 6, 7] rfl (s_X12_adds_96 cx hfr hlo hr r0 x1 x2 x3 x4 x5 x6 ih)
              · refine sm_goto (tgt := 96) cx dX12_adds_72 (by decide) ?_
                exact sm_lv [1, 2, 3, 4, 5, 6, 7] rfl (s_X12_adds_96 cx hfr hlo hr r0 x1 x2 x3 x4 x5 x6 ih)
def f_X12_adds (r0 : Option Nat) (x1 : Int32) (x2 : Int32) (x3 : Int32) (x4 : Int32) (x5 : Int32) : Mo Unit := f_X12_adds_3 r0 x1 x2 x3 x4 x5 fuL (0 : Int32)
set_option maxRecDepth 100000 in
set_option maxHeartbeats 4000000 in
theorem s_X12_adds {X : Cg} (cx : Cx X cX12_adds RX12 8) (hfr : 2 ≤ (xR X).frames) (hlo : 50 ≤ (xR X).locals) (hr : (xM X).sig.returnType = none) (r0 : Option Nat) (x1 : Int32) (x2 : Int32) (x3 : Int32) (x4 : Int32) (x5 : Int32) : Sim X 8 (FiM X vV) 0 [(0, va_rf r0), (1, .int x1), (2, .int x2), (3, .int x3), (4, .int x4), (5, .int x5)] [] (f_X12_adds r0 x1 x2 x3 x4 x5) := by
  unfold f_X12_adds
  refine sm_iconst (v := 0) cx dX12_adds_0 (by decide) ?_
  refine sm_istore cx [(6, .int (0 : Int32)), (0, va_rf r0), (1, .int x1), (2, .int x2), (3, .int x3), (4, .int x4), (5, .int x5)] dX12_adds_1 (by decide) rfl (nc1 rfl) rfl ?_
  exact sm_lv [1, 2, 3, 4, 5, 6, 0] rfl (s_X12_adds_3 cx hfr hlo hr r0 x1 x2 x3 x4 x5 fuL (0 : Int32))
set_option maxRecDepth 100000 in
set_option maxHeartbeats 4000000 in
theorem ct_X12_adds (Z : Nat → Nat) {r0 : Option Nat} (a0 : Nat) (h0 : r0 = some a0) (x1 : Int32) (x2 : Int32) (x3 : Int32) (x4 : Int32) (x5 : Int32) : Ct yX12_adds cX12_adds 8 none 2 50 Z [.ref a0, .int x1, .int x2, .int x3, .int x4, .int x5] vV (f_X12_adds r0 x1 x2 x3 x4 x5) := by
  subst h0
  refine ct_of (lv0 := [(0, va_rf (some a0)), (1, .int x1), (2, .int x2), (3, .int x3), (4, .int x4), (5, .int x5)]) (by decide +kernel) (by simp [lg_sl, ct_i, ct_l, ct_r, rf_cat]) (by show _ = ([(0, Value.ref a0), (1, .int x1), (2, .int x2), (3, .int x3), (4, .int x4), (5, .int x5)] : List (Nat × Value)); simp [lv_args, ct_i, ct_l, ct_r, rf_cat]) (fun X cx hZ hfr hlo hr hin => ?_)
  subst hZ
  exact s_X12_adds cx (Nat.le_of_eq hfr.symm) (Nat.le_of_eq hlo.symm) hr (some a0) x1 x2 x3 x4 x5
/-! PolicyTreeModel.makes(III)V -/
theorem dX12_makes_0 : decode cX12_makes 0 = .ok (.aload_n 0, 1) := by decide +kernel
theorem dX12_makes_1 : decode cX12_makes 1 = .ok (.iconst 0, 1) := by decide +kernel
theorem dX12_makes_2 : decode cX12_makes 2 = .ok (.putfield 215, 3) := by decide +kernel
theorem dX12_makes_5 : decode cX12_makes 5 = .ok (.iconst 0, 1) := by decide +kernel
theorem dX12_makes_6 : decode cX12_makes 6 = .ok (.istore 4, 2) := by decide +kernel
theorem dX12_makes_8 : decode cX12_makes 8 = .ok (.aload_n 0, 1) := by decide +kernel
theorem dX12_makes_9 : decode cX12_makes 9 = .ok (.getfield 17, 3) := by decide +kernel
theorem dX12_makes_12 : decode cX12_makes 12 = .ok (.iload_n 1, 1) := by decide +kernel
theorem dX12_makes_13 : decode cX12_makes 13 = .ok (.iaload, 1) := by decide +kernel
theorem dX12_makes_14 : decode cX12_makes 14 = .ok (.istore 5, 2) := by decide +kernel
theorem dX12_makes_16 : decode cX12_makes 16 = .ok (.iload 5, 2) := by decide +kernel
theorem dX12_makes_18 : decode cX12_makes 18 = .ok (.ifCond .lt 27, 3) := by decide +kernel
theorem dX12_makes_21 : decode cX12_makes 21 = .ok (.aload_n 0, 1) := by decide +kernel
theorem dX12_makes_22 : decode cX12_makes 22 = .ok (.getfield 79, 3) := by decide +kernel
theorem dX12_makes_25 : decode cX12_makes 25 = .ok (.iload 4, 2) := by decide +kernel
theorem dX12_makes_27 : decode cX12_makes 27 = .ok (.iload 5, 2) := by decide +kernel
theorem dX12_makes_29 : decode cX12_makes 29 = .ok (.iastore, 1) := by decide +kernel
theorem dX12_makes_30 : decode cX12_makes 30 = .ok (.iinc 4 1, 3) := by decide +kernel
theorem dX12_makes_33 : decode cX12_makes 33 = .ok (.aload_n 0, 1) := by decide +kernel
theorem dX12_makes_34 : decode cX12_makes 34 = .ok (.getfield 9, 3) := by decide +kernel
theorem dX12_makes_37 : decode cX12_makes 37 = .ok (.iload 5, 2) := by decide +kernel
theorem dX12_makes_39 : decode cX12_makes 39 = .ok (.iaload, 1) := by decide +kernel
theorem dX12_makes_40 : decode cX12_makes 40 = .ok (.istore 5, 2) := by decide +kernel
theorem dX12_makes_42 : decode cX12_makes 42 = .ok (.goto (-26), 3) := by decide +kernel
theorem dX12_makes_45 : decode cX12_makes 45 = .ok (.iconst 0, 1) := by decide +kernel
theorem dX12_makes_46 : decode cX12_makes 46 = .ok (.istore 5, 2) := by decide +kernel
theorem dX12_makes_48 : decode cX12_makes 48 = .ok (.iload 5, 2) := by decide +kernel
theorem dX12_makes_50 : decode cX12_makes 50 = .ok (.iload 4, 2) := by decide +kernel
theorem dX12_makes_52 : decode cX12_makes 52 = .ok (.iconst 1, 1) := by decide +kernel
theorem dX12_makes_53 : decode cX12_makes 53 = .ok (.isub, 1) := by decide +kernel
theorem dX12_makes_54 : decode cX12_makes 54 = .ok (.if_icmp .ge 24, 3) := by decide +kernel
theorem dX12_makes_57 : decode cX12_makes 57 = .ok (.aload_n 0, 1) := by decide +kernel
theorem dX12_makes_58 : decode cX12_makes 58 = .ok (.getfield 13, 3) := by decide +kernel
theorem dX12_makes_61 : decode cX12_makes 61 = .ok (.aload_n 0, 1) := by decide +kernel
theorem dX12_makes_62 : decode cX12_makes 62 = .ok (.getfield 79, 3) := by decide +kernel
theorem dX12_makes_65 : decode cX12_makes 65 = .ok (.iload 5, 2) := by decide +kernel
theorem dX12_makes_67 : decode cX12_makes 67 = .ok (.iaload, 1) := by decide +kernel
theorem dX12_makes_68 : decode cX12_makes 68 = .ok (.baload, 1) := by decide +kernel
theorem dX12_makes_69 : decode cX12_makes 69 = .ok (.ifCond .ne 9, 3) := by decide +kernel
theorem dX12_makes_72 : decode cX12_makes 72 = .ok (.iinc 5 1, 3) := by decide +kernel
theorem dX12_makes_75 : decode cX12_makes 75 = .ok (.goto (-27), 3) := by decide +kernel
theorem dX12_makes_78 : decode cX12_makes 78 = .ok (.iload 5, 2) := by decide +kernel
theorem dX12_makes_80 : decode cX12_makes 80 = .ok (.istore 6, 2) := by decide +kernel
theorem dX12_makes_82 : decode cX12_makes 82 = .ok (.iload 6, 2) := by decide +kernel
theorem dX12_makes_84 : decode cX12_makes 84 = .ok (.ifCond .lt 24, 3) := by decide +kernel
theorem dX12_makes_87 : decode cX12_makes 87 = .ok (.aload_n 0, 1) := by decide +kernel
theorem dX12_makes_88 : decode cX12_makes 88 = .ok (.aload_n 0, 1) := by decide +kernel
theorem dX12_makes_89 : decode cX12_makes 89 = .ok (.getfield 79, 3) := by decide +kernel
theorem dX12_makes_92 : decode cX12_makes 92 = .ok (.iload 6, 2) := by decide +kernel
theorem dX12_makes_94 : decode cX12_makes 94 = .ok (.iaload, 1) := by decide +kernel
theorem dX12_makes_95 : decode cX12_makes 95 = .ok (.iconst 0, 1) := by decide +kernel
theorem dX12_makes_96 : decode cX12_makes 96 = .ok (.iload_n 1, 1) := by decide +kernel
theorem dX12_makes_97 : decode cX12_makes 97 = .ok (.iload_n 2, 1) := by decide +kernel
theorem dX12_makes_98 : decode cX12_makes 98 = .ok (.iload_n 3, 1) := by decide +kernel
theorem dX12_makes_99 : decode cX12_makes 99 = .ok (.invokevirtual 218, 3) := by decide +kernel
theorem dX12_makes_102 : decode cX12_makes 102 = .ok (.iinc 6 (-1), 3) := by decide +kernel
theorem dX12_makes_105 : decode cX12_makes 105 = .ok (.goto (-23), 3) := by decide +kernel
theorem dX12_makes_108 : decode cX12_makes 108 = .ok (.iconst 0, 1) := by decide +kernel
theorem dX12_makes_109 : decode cX12_makes 109 = .ok (.istore 6, 2) := by decide +kernel
theorem dX12_makes_111 : decode cX12_makes 111 = .ok (.iload 6, 2) := by decide +kernel
theorem dX12_makes_113 : decode cX12_makes 113 = .ok (.iload 4, 2) := by decide +kernel
theorem dX12_makes_115 : decode cX12_makes 115 = .ok (.if_icmp .ge 24, 3) := by decide +kernel
theorem dX12_makes_118 : decode cX12_makes 118 = .ok (.aload_n 0, 1) := by decide +kernel
theorem dX12_makes_119 : decode cX12_makes 119 = .ok (.aload_n 0, 1) := by decide +kernel
theorem dX12_makes_120 : decode cX12_makes 120 = .ok (.getfield 79, 3) := by decide +kernel
theorem dX12_makes_123 : decode cX12_makes 123 = .ok (.iload 6, 2) := by decide +kernel
theorem dX12_makes_125 : decode cX12_makes 125 = .ok (.iaload, 1) := by decide +kernel
theorem dX12_makes_126 : decode cX12_makes 126 = .ok (.iconst 1, 1) := by decide +kernel
theorem dX12_makes_127 : decode cX12_makes 127 = .ok (.iload_n 1, 1) := by decide +kernel
theorem dX12_makes_128 : decode cX12_makes 128 = .ok (.iload_n 2, 1) := by decide +kernel
theorem dX12_makes_129 : decode cX12_makes 129 = .ok (.iload_n 3, 1) := by decide +kernel
theorem dX12_makes_130 : decode cX12_makes 130 = .ok (.invokevirtual 218, 3) := by decide +kernel
theorem dX12_makes_133 : decode cX12_makes 133 = .ok (.iinc 6 1, 3) := by decide +kernel
theorem dX12_makes_136 : decode cX12_makes 136 = .ok (.goto (-25), 3) := by decide +kernel
theorem dX12_makes_139 : decode cX12_makes 139 = .ok (.return_, 1) := by decide +kernel
def f_X12_makes_111 (r0 : Option Nat) (x1 : Int32) (x2 : Int32) (x3 : Int32) (x4 : Int32) : Nat → Int32 → Mo Unit
  | 0, _ => mf
  | n + 1, x6 => (if x4 ≤ x6 then mp () else mb (gR 15 34 r0) (fun v120 => mb (aI 1 v120 x6) (fun v125 => mb (mo 15 r0 (f_X12_adds r0 v125 (1 : Int32) x1 x2 x3)) (fun _ => (f_X12_makes_111 r0 x1 x2 x3 x4 n) (x6 + 1)))))
set_option maxRecDepth 100000 in
set_option maxHeartbeats 4000000 in
theorem s_X12_makes_111 {X : Cg} (cx : Cx X cX12_makes RX12 7) (hfr : 3 ≤ (xR X).frames) (hlo : 77 ≤ (xR X).locals) (hr : (xM X).sig.returnType = none) (r0 : Option Nat) (x1 : Int32) (x2 : Int32) (x3 : Int32) (x4 : Int32) : ∀ (n : Nat) (x6 : Int32), Sim X 7 (FiM X vV) 111 [(0, va_rf r0), (1, .int x1), (2, .int x2), (3, .int x3), (4, .int x4), (6, .int x6)] [] (f_X12_makes_111 r0 x1 x2 x3 x4 n x6) := by
  intro n
  induction n with
  | zero =>
    intro _
    exact sm_mf
  | succ n ih =>
    intro x6
    rw [f_X12_makes_111]
    refine sm_iload cx 5 dX12_makes_111 rfl ?_
    refine sm_iload cx 4 dX12_makes_113 rfl ?_
    refine sm_icmp_ge (tgt := 139) cx dX12_makes_115 (by decide) ?_ ?_
    · exact sm_vret cx hr dX12_makes_139
    · refine sm_aload_n cx 0 dX12_makes_118 rfl rfl ?_
      refine sm_aload_n cx 0 dX12_makes_119 rfl rfl ?_
      refine sm_getR cx fl_X12_79 dX12_makes_120 (fun v120 => ?_)
      refine sm_iload cx 5 dX12_makes_123 rfl ?_
      refine sm_iald cx dX12_makes_125 (fun v125 => ?_)
      refine sm_iconst (v := 1) cx dX12_makes_126 (by decide) ?_
      refine sm_iload_n cx 1 dX12_makes_127 rfl rfl ?_
      refine sm_iload_n cx 2 dX12_makes_128 rfl rfl ?_
      refine sm_iload_n cx 3 dX12_makes_129 rfl rfl ?_
      refine sm_callV (T := TX12) (N := 47) (toV := vV) cx [.int v125, .int (1 : Int32), .int x1, .int x2, .int x3] rfl cv_X12_218 (fun a h => ct_X12_adds (xZ X) a h v125 (1 : Int32) x1 x2 x3) (Nat.le_trans (by decide) hfr) (Nat.le_trans (by decide) hlo) rfl (cat_le _ (Nat.le_of_ble_eq_true rfl)) dX12_makes_130 (fun _ => ?_)
      refine sm_iinc cx 5 [(6, .int (x6 + 1)), (0, va_rf r0), (1, .int x1), (2, .int x2), (3, .int x3), (4, .int x4)] dX12_makes_133 rfl rfl (by decide) rfl nc0 rfl ?_
      refine sm_goto (tgt := 111) cx dX12_makes_136 (by decide) ?_
      exact sm_lv [1, 2, 3, 4, 5, 0] rfl (ih (x6 + 1))
def f_X12_makes_82 (r0 : Option Nat) (x1 : Int32) (x2 : Int32) (x3 : Int32) (x4 : Int32) : Nat → Int32 → Mo Unit
  | 0, _ => mf
  | n + 1, x6 => (if x6 < 0 then f_X12_makes_111 r0 x1 x2 x3 x4 fuL (0 : Int32) else mb (gR 15 34 r0) (fun v89 => mb (aI 1 v89 x6) (fun v94 => mb (mo 15 r0 (f_X12_adds r0 v94 (0 : Int32) x1 x2 x3)) (fun _ => (f_X12_makes_82 r0 x1 x2 x3 x4 n) (x6 + (-1))))))
set_option maxRecDepth 100000 in
set_option maxHeartbeats 4000000 in
theorem s_X12_makes_82 {X : Cg} (cx : Cx X cX12_makes RX12 7) (hfr : 3 ≤ (xR X).frames) (hlo : 77 ≤ (xR X).locals) (hr : (xM X).sig.returnType = none) (r0 : Option Nat) (x1 : Int32) (x2 : Int32) (x3 : Int32) (x4 : Int32) : ∀ (n : Nat) (x6 : Int32), Sim X 7 (FiM X vV) 82 [(0, va_rf r0), (1, .int x1), (2, .int x2), (3, .int x3), (4, .int x4), (6, .int x6)] [] (f_X12_makes_82 r0 x1 x2 x3 x4 n x6) := by
  intro n
  induction n with
  | zero =>
    intro _
    exact sm_mf
  | succ n ih =>
    intro x6
    rw [f_X12_makes_82]
    refine sm_iload cx 5 dX12_makes_82 rfl ?_
    refine sm_if_lt (tgt := 108) cx dX12_makes_84 (by decide) ?_ ?_
    · refine sm_iconst (v := 0) cx dX12_makes_108 (by decide) ?_
      refine sm_istore cx [(6, .int (0 : Int32)), (0, va_rf r0), (1, .int x1), (2, .int x2), (3, .int x3), (4, .int x4)] dX12_makes_109 (by decide) rfl nc0 rfl ?_
      exact sm_lv [1, 2, 3, 4, 5, 0] rfl (s_X12_makes_111 cx hfr hlo hr r0 x1 x2 x3 x4 fuL (0 : Int32))
    · refine sm_aload_n cx 0 dX12_makes_87 rfl rfl ?_
      refine sm_aload_n cx 0 dX12_makes_88 rfl rfl ?_
      refine sm_getR cx fl_X12_79 dX12_makes_89 (fun v89 => ?_)
      refine sm_iload cx 5 dX12_makes_92 rfl ?_
      refine sm_iald cx dX12_makes_94 (fun v94 => ?_)
      refine sm_iconst (v := 0) cx dX12_makes_95 (by decide) ?_
      refine sm_iload_n cx 1 dX12_makes_96 rfl rfl ?_
      refine sm_iload_n cx 2 dX12_makes_97 rfl rfl ?_
      refine sm_iload_n cx 3 dX12_makes_98 rfl rfl ?_
      refine sm_callV (T := TX12) (N := 47) (toV := vV) cx [.int v94, .int (0 : Int32), .int x1, .int x2, .int x3] rfl cv_X12_218 (fun a h => ct_X12_adds (xZ X) a h v94 (0 : Int32) x1 x2 x3) (Nat.le_trans (by decide) hfr) (Nat.le_trans (by decide) hlo) rfl (cat_le _ (Nat.le_of_ble_eq_true rfl)) dX12_makes_99 (fun _ => ?_)
      refine sm_iinc cx 5 [(6, .int (x6 + (-1))), (0, va_rf r0), (1, .int x1), (2, .int x2), (3, .int x3), (4, .int x4)] dX12_makes_102 rfl rfl (by decide) rfl nc0 rfl ?_
      refine sm_goto (tgt := 82) cx dX12_makes_105 (by decide) ?_
      exact sm_lv [1, 2, 3, 4, 5, 0] rfl (ih (x6 + (-1)))
def f_X12_makes_78 (r0 : Option Nat) (x1 : Int32) (x2 : Int32) (x3 : Int32) (x4 : Int32) (x5 : Int32) : Mo Unit := f_X12_makes_82 r0 x1 x2 x3 x4 fuL x5
set_option maxRecDepth 100000 in
set_option maxHeartbeats 4000000 in
theorem s_X12_makes_78 {X : Cg} (cx : Cx X cX12_makes RX12 7) (hfr : 3 ≤ (xR X).frames) (hlo : 77 ≤ (xR X).locals) (hr : (xM X).sig.returnType = none) (r0 : Option Nat) (x1 : Int32) (x2 : Int32) (x3 : Int32) (x4 : Int32) (x5 : Int32) : Sim X 7 (FiM X vV) 78 [(0, va_rf r0), (1, .int x1), (2, .int x2), (3, .int x3), (4, .int x4), (5, .int x5)] [] (f_X12_makes_78 r0 x1 x2 x3 x4 x5) := by
  unfold f_X12_makes_78
  refine sm_iload cx 5 dX12_makes_78 rfl ?_
  refine sm_istore cx [(6, .int x5), (0, va_rf r0), (1, .int x1), (2, .int x2), (3, .int x3), (4, .int x4), (5, .int x5)] dX12_makes_80 (by decide) rfl (nc1 rfl) rfl ?_
  exact sm_lv [1, 2, 3, 4, 5, 0] rfl (s_X12_makes_82 cx hfr hlo hr r0 x1 x2 x3 x4 fuL x5)
def f_X12_makes_48 (r0 : Option Nat) (x1 : Int32) (x2 : Int32) (x3 : Int32) (x4 : Int32) : Nat → Int32 → Mo Unit
  | 0, _ => mf
  | n + 1, x5 => (if (x4 - (1 : Int32)) ≤ x5 then f_X12_makes_78 r0 x1 x2 x3 x4 x5 else mb (gR 15 2 r0) (fun v58 => mb (gR 15 34 r0) (fun v62 => mb (aI 1 v62 x5) (fun v67 => mb (aI 3 v58 v67) (fun v68 => (if v68 = 0 then (f_X12_makes_48 r0 x1 x2 x3 x4 n) (x5 + 1) else f_X12_makes_78 r0 x1 x2 x3 x4 x5))))))
set_option maxRecDepth 100000 in
set_option maxHeartbeats 4000000 in
theorem s_X12_makes_48 {X : Cg} (cx : Cx X cX12_makes RX12 7) (hfr : 3 ≤ (xR X).frames) (hlo : 77 ≤ (xR X).locals) (hr : (xM X).sig.returnType = none) (r0 : Option Nat) (x1 : Int32) (x2 : Int32) (x3 : Int32) (x4 : Int32) : ∀ (n : Nat) (x5 : Int32), Sim X 7 (FiM X vV) 48 [(0, va_rf r0), (1, .int x1), (2, .int x2), (3, .int x3), (4, .int x4), (5, .int x5)] [] (f_X12_makes_48 r0 x1 x2 x3 x4 n x5) := by
  intro n
  induction n with
  | zero =>
    intro _
    exact sm_mf
  | succ n ih =>
    intro x5
    rw [f_X12_makes_48]
    refine sm_iload cx 5 dX12_makes_48 rfl ?_
    refine sm_iload cx 4 dX12_makes_50 rfl ?_
    refine sm_iconst (v := 1) cx dX12_makes_52 (by decide) ?_
    refine sm_isub cx dX12_makes_53 ?_
    refine sm_icmp_ge (tgt := 78) cx dX12_makes_54 (by decide) ?_ ?_
    · exact sm_lv [0, 1, 2, 3, 4, 5] rfl (s_X12_makes_78 cx hfr hlo hr r0 x1 x2 x3 x4 x5)
    · refine sm_aload_n cx 0 dX12_makes_57 rfl rfl ?_
      refine sm_getR cx fl_X12_13 dX12_makes_58 (fun v58 => ?_)
      refine sm_aload_n cx 0 dX12_makes_61 rfl rfl ?_
      refine sm_getR cx fl_X12_79 dX12_makes_62 (fun v62 => ?_)
      refine sm_iload cx 5 dX12_makes_65 rfl ?_
      refine sm_iald cx dX12_makes_67 (fun v67 => ?_)
      refine sm_zald cx dX12_makes_68 (fun v68 => ?_)
      refine sm_if_ne (tgt := 78) cx dX12_makes_69 (by decide) ?_ ?_
      · exact sm_lv [0, 1, 2, 3, 4, 5] rfl (s_X12_makes_78 cx hfr hlo hr r0 x1 x2 x3 x4 x5)
      · refine sm_iinc cx 5 [(5, .int (x5 + 1)), (0, va_rf r0), (1, .int x1), (2, .int x2), (3, .int x3), (4, .int x4)] dX12_makes_72 rfl rfl (by decide) rfl (nc1 rfl) rfl ?_
        refine sm_goto (tgt := 48) cx dX12_makes_75 (by decide) ?_
        exact sm_lv [1, 2, 3, 4, 5, 0] rfl (ih (x5 + 1))
def f_X12_makes_16 (r0 : Option Nat) (x1 : Int32) (x2 : Int32) (x3 : Int32) : Nat → Int32 → Int32 → Mo Unit
  | 0, _, _ => mf
  | n + 1, x4, x5 => (if x5 < 0 then f_X12_makes_48 r0 x1 x2 x3 x4 fuL (0 : Int32) else mb (gR 15 34 r0) (fun v22 => mb (sI 1 v22 x4 x5) (fun _ => mb (gR 15 1 r0) (fun v34 => mb (aI 1 v34 x5) (fun v39 => (f_X12_makes_16 r0 x1 x2 x3 n) (x4 + 1) v39)))))
set_option maxRecDepth 100000 in
set_option maxHeartbeats 4000000 in
theorem s_X12_makes_16 {X : Cg} (cx : Cx X cX12_makes RX12 7) (hfr : 3 ≤ (xR X).frames) (hlo : 77 ≤ (xR X).locals) (hr : (xM X).sig.returnType = none) (r0 : Option Nat) (x1 : Int32) (x2 : Int32) (x3 : Int32) : ∀ (n : Nat) (x4 : Int32) (x5 : Int32), Sim X 7 (FiM X vV) 16 [(0, va_rf r0), (1, .int x1), (2, .int x2), (3, .int x3), (4, .int x4), (5, .int x5)] [] (f_X12_makes_16 r0 x1 x2 x3 n x4 x5) := by
  intro n
  induction n with
  | zero =>
    intro _ _
    exact sm_mf
  | succ n ih =>
    intro x4 x5
    rw [f_X12_makes_16]
    refine sm_iload cx 5 dX12_makes_16 rfl ?_
    refine sm_if_lt (tgt := 45) cx dX12_makes_18 (by decide) ?_ ?_
    · refine sm_iconst (v := 0) cx dX12_makes_45 (by decide) ?_
      refine sm_istore cx [(5, .int (0 : Int32)), (0, va_rf r0), (1, .int x1), (2, .int x2), (3, .int x3), (4, .int x4)] dX12_makes_46 (by decide) rfl (nc1 rfl) rfl ?_
      exact sm_lv [1, 2, 3, 4, 5, 0] rfl (s_X12_makes_48 cx hfr hlo hr r0 x1 x2 x3 x4 fuL (0 : Int32))
    · refine sm_aload_n cx 0 dX12_makes_21 rfl rfl ?_
      refine sm_getR cx fl_X12_79 dX12_makes_22 (fun v22 => ?_)
      refine sm_iload cx 4 dX12_makes_25 rfl ?_
      refine sm_iload cx 5 dX12_makes_27 rfl ?_
      refine sm_iast cx dX12_makes_29 ?_
      refine sm_iinc cx 4 [(4, .int (x4 + 1)), (0, va_rf r0), (1, .int x1), (2, .int x2), (3, .int x3), (5, .int x5)] dX12_makes_30 rfl rfl (by decide) rfl (nc1 rfl) rfl ?_
      refine sm_aload_n cx 1 dX12_makes_33 rfl rfl ?_
      refine sm_getR cx fl_X12_9 dX12_makes_34 (fun v34 => ?_)
      refine sm_iload cx 5 dX12_makes_37 rfl ?_
      refine sm_iald cx dX12_makes_39 (fun v39 => ?_)
      refine sm_istore cx [(5, .int v39), (4, .int (x4 + 1)), (0, va_rf r0), (1, .int x1), (2, .int x2), (3, .int x3)] dX12_makes_40 (by decide) rfl (nc1 rfl) rfl ?_
      refine sm_goto (tgt := 16) cx dX12_makes_42 (by decide) ?_
      exact sm_lv [2, 3, 4, 5, 1, 0] rfl (ih (x4 + 1) v39)
def f_X12_makes (r0 : Option Nat) (x1 : Int32) (x2 : Int32) (x3 : Int32) : Mo Unit := mb (pV 15 36 r0 (.int (0 : Int32))) (fun _ => mb (gR 15 4 r0) (fun v9 => mb (aI 1 v9 x1) (fun v13 => f_X12_makes_16 r0 x1 x2 x3 fuL (0 : Int32) v13)))
set_option maxRecDepth 100000 in
set_option maxHeartbeats 4000000 in
theorem s_X12_makes {X : Cg} (cx : Cx X cX12_makes RX12 7) (hfr : 3 ≤ (xR X).frames) (hlo : 77 ≤ (xR X).locals) (hr : (xM X).sig.returnType = none) (r0 : Option Nat) (x1 : Int32) (x2 : Int32) (x3 : Int32) : Sim X 7 (FiM X vV) 0 [(0, va_rf r0), (1, .int x1), (2, .int x2), (3, .int x3)] [] (f_X12_makes r0 x1 x2 x3) := by
  unfold f_X12_makes
  refine sm_aload_n cx 0 dX12_makes_0 rfl rfl ?_
  refine sm_iconst (v := 0) cx dX12_makes_1 (by decide) ?_
  refine sm_putV cx fl_X12_215 rfl rfl dX12_makes_2 ?_
  refine sm_iconst (v := 0) cx dX12_makes_5 (by decide) ?_
  refine sm_istore cx [(4, .int (0 : Int32)), (0, va_rf r0), (1, .int x1), (2, .int x2), (3, .int x3)] dX12_makes_6 (by decide) rfl (nc1 rfl) rfl ?_
  refine sm_aload_n cx 1 dX12_makes_8 rfl rfl ?_
  refine sm_getR cx fl_X12_17 dX12_makes_9 (fun v9 => ?_)
  refine sm_iload_n cx 2 dX12_makes_12 rfl rfl ?_
  refine sm_iald cx dX12_makes_13 (fun v13 => ?_)
  refine sm_istore cx [(5, .int v13), (4, .int (0 : Int32)), (0, va_rf r0), (1, .int x1), (2, .int x2), (3, .int x3)] dX12_makes_14 (by decide) rfl (nc1 rfl) rfl ?_
  exact sm_lv [2, 3, 4, 5, 1, 0] rfl (s_X12_makes_16 cx hfr hlo hr r0 x1 x2 x3 fuL (0 : Int32) v13)
set_option maxRecDepth 100000 in
set_option maxHeartbeats 4000000 in
theorem ct_X12_makes (Z : Nat → Nat) {r0 : Option Nat} (a0 : Nat) (h0 : r0 = some a0) (x1 : Int32) (x2 : Int32) (x3 : Int32) : Ct yX12_makes cX12_makes 7 none 3 77 Z [.ref a0, .int x1, .int x2, .int x3] vV (f_X12_makes r0 x1 x2 x3) := by
  subst h0
  refine ct_of (lv0 := [(0, va_rf (some a0)), (1, .int x1), (2, .int x2), (3, .int x3)]) (by decide +kernel) (by simp [lg_sl, ct_i, ct_l, ct_r, rf_cat]) (by show _ = ([(0, Value.ref a0), (1, .int x1), (2, .int x2), (3, .int x3)] : List (Nat × Value)); simp [lv_args, ct_i, ct_l, ct_r, rf_cat]) (fun X cx hZ hfr hlo hr hin => ?_)
  subst hZ
  exact s_X12_makes cx (Nat.le_of_eq hfr.symm) (Nat.le_of_eq hlo.symm) hr (some a0) x1 x2 x3
/-! PolicyTreeModel.valueOf(II)I -/
theorem dX12_valueOf_0 : decode cX12_valueOf 0 = .ok (.aload_n 0, 1) := by decide +kernel
theorem dX12_valueOf_1 : decode cX12_valueOf 1 = .ok (.getfield 32, 3) := by decide +kernel
theorem dX12_valueOf_4 : decode cX12_valueOf 4 = .ok (.bipush 12, 2) := by decide +kernel
theorem dX12_valueOf_6 : decode cX12_valueOf 6 = .ok (.aload_n 0, 1) := by decide +kernel
theorem dX12_valueOf_7 : decode cX12_valueOf 7 = .ok (.getfield 55, 3) := by decide +kernel
theorem dX12_valueOf_10 : decode cX12_valueOf 10 = .ok (.iload_n 1, 1) := by decide +kernel
theorem dX12_valueOf_11 : decode cX12_valueOf 11 = .ok (.iaload, 1) := by decide +kernel
theorem dX12_valueOf_12 : decode cX12_valueOf 12 = .ok (.imul, 1) := by decide +kernel
theorem dX12_valueOf_13 : decode cX12_valueOf 13 = .ok (.iload_n 2, 1) := by decide +kernel
theorem dX12_valueOf_14 : decode cX12_valueOf 14 = .ok (.iadd, 1) := by decide +kernel
theorem dX12_valueOf_15 : decode cX12_valueOf 15 = .ok (.iaload, 1) := by decide +kernel
theorem dX12_valueOf_16 : decode cX12_valueOf 16 = .ok (.ireturn, 1) := by decide +kernel
def f_X12_valueOf (r0 : Option Nat) (x1 : Int32) (x2 : Int32) : Mo Int32 := mb (gR 15 11 r0) (fun v1 => mb (gR 15 25 r0) (fun v7 => mb (aI 1 v7 x1) (fun v11 => mb (aI 1 v1 (((12 : Int32) * v11) + x2)) (fun v15 => mp v15))))
set_option maxRecDepth 100000 in
set_option maxHeartbeats 4000000 in
theorem s_X12_valueOf {X : Cg} (cx : Cx X cX12_valueOf RX12 3) (hfr : 0 ≤ (xR X).frames) (hlo : 0 ≤ (xR X).locals) (hr : (xM X).sig.returnType = (some .int)) (r0 : Option Nat) (x1 : Int32) (x2 : Int32) : Sim X 3 (FiM X vI) 0 [(0, va_rf r0), (1, .int x1), (2, .int x2)] [] (f_X12_valueOf r0 x1 x2) := by
  unfold f_X12_valueOf
  refine sm_aload_n cx 0 dX12_valueOf_0 rfl rfl ?_
  refine sm_getR cx fl_X12_32 dX12_valueOf_1 (fun v1 => ?_)
  refine sm_bipush (v := 12) cx dX12_valueOf_4 (by decide) ?_
  refine sm_aload_n cx 0 dX12_valueOf_6 rfl rfl ?_
  refine sm_getR cx fl_X12_55 dX12_valueOf_7 (fun v7 => ?_)
  refine sm_iload_n cx 1 dX12_valueOf_10 rfl rfl ?_
  refine sm_iald cx dX12_valueOf_11 (fun v11 => ?_)
  refine sm_imul cx dX12_valueOf_12 ?_
  refine sm_iload_n cx 2 dX12_valueOf_13 rfl rfl ?_
  refine sm_iadd cx dX12_valueOf_14 ?_
  refine sm_iald cx dX12_valueOf_15 (fun v15 => ?_)
  exact sm_iret cx hr dX12_valueOf_16
set_option maxRecDepth 100000 in
set_option maxHeartbeats 4000000 in
theorem ct_X12_valueOf (Z : Nat → Nat) {r0 : Option Nat} (a0 : Nat) (h0 : r0 = some a0) (x1 : Int32) (x2 : Int32) : Ct yX12_valueOf cX12_valueOf 3 (some .int) 0 0 Z [.ref a0, .int x1, .int x2] vI (f_X12_valueOf r0 x1 x2) := by
  subst h0
  refine ct_of (lv0 := [(0, va_rf (some a0)), (1, .int x1), (2, .int x2)]) (by decide +kernel) (by simp [lg_sl, ct_i, ct_l, ct_r, rf_cat]) (by show _ = ([(0, Value.ref a0), (1, .int x1), (2, .int x2)] : List (Nat × Value)); simp [lv_args, ct_i, ct_l, ct_r, rf_cat]) (fun X cx hZ hfr hlo hr hin => ?_)
  subst hZ
  exact s_X12_valueOf cx (Nat.le_of_eq hfr.symm) (Nat.le_of_eq hlo.symm) hr (some a0) x1 x2
/-! PolicyTreeModel.outcomes(I)V -/
theorem dX12_outcomes_0 : decode cX12_outcomes 0 = .ok (.aload_n 0, 1) := by decide +kernel
theorem dX12_outcomes_1 : decode cX12_outcomes 1 = .ok (.iconst 0, 1) := by decide +kernel
theorem dX12_outcomes_2 : decode cX12_outcomes 2 = .ok (.putfield 222, 3) := by decide +kernel
theorem dX12_outcomes_5 : decode cX12_outcomes 5 = .ok (.aload_n 0, 1) := by decide +kernel
theorem dX12_outcomes_6 : decode cX12_outcomes 6 = .ok (.iconst (-1), 1) := by decide +kernel
theorem dX12_outcomes_7 : decode cX12_outcomes 7 = .ok (.putfield 225, 3) := by decide +kernel
theorem dX12_outcomes_10 : decode cX12_outcomes 10 = .ok (.iconst 0, 1) := by decide +kernel
theorem dX12_outcomes_11 : decode cX12_outcomes 11 = .ok (.istore_n 2, 1) := by decide +kernel
theorem dX12_outcomes_12 : decode cX12_outcomes 12 = .ok (.iload_n 2, 1) := by decide +kernel
theorem dX12_outcomes_13 : decode cX12_outcomes 13 = .ok (.aload_n 0, 1) := by decide +kernel
theorem dX12_outcomes_14 : decode cX12_outcomes 14 = .ok (.getfield 215, 3) := by decide +kernel
theorem dX12_outcomes_17 : decode cX12_outcomes 17 = .ok (.if_icmp .ge 179, 3) := by decide +kernel
theorem dX12_outcomes_20 : decode cX12_outcomes 20 = .ok (.aload_n 0, 1) := by decide +kernel
theorem dX12_outcomes_21 : decode cX12_outcomes 21 = .ok (.getfield 82, 3) := by decide +kernel
theorem dX12_outcomes_24 : decode cX12_outcomes 24 = .ok (.iload_n 2, 1) := by decide +kernel
theorem dX12_outcomes_25 : decode cX12_outcomes 25 = .ok (.iaload, 1) := by decide +kernel
theorem dX12_outcomes_26 : decode cX12_outcomes 26 = .ok (.istore_n 3, 1) := by decide +kernel
theorem dX12_outcomes_27 : decode cX12_outcomes 27 = .ok (.aload_n 0, 1) := by decide +kernel
theorem dX12_outcomes_28 : decode cX12_outcomes 28 = .ok (.aload_n 0, 1) := by decide +kernel
theorem dX12_outcomes_29 : decode cX12_outcomes 29 = .ok (.getfield 55, 3) := by decide +kernel
theorem dX12_outcomes_32 : decode cX12_outcomes 32 = .ok (.iload_n 3, 1) := by decide +kernel
theorem dX12_outcomes_33 : decode cX12_outcomes 33 = .ok (.iaload, 1) := by decide +kernel
theorem dX12_outcomes_34 : decode cX12_outcomes 34 = .ok (.iload_n 1, 1) := by decide +kernel
theorem dX12_outcomes_35 : decode cX12_outcomes 35 = .ok (.invokevirtual 125, 3) := by decide +kernel
theorem dX12_outcomes_38 : decode cX12_outcomes 38 = .ok (.ifCond .ne 6, 3) := by decide +kernel
theorem dX12_outcomes_41 : decode cX12_outcomes 41 = .ok (.goto 149, 3) := by decide +kernel
theorem dX12_outcomes_44 : decode cX12_outcomes 44 = .ok (.aload_n 0, 1) := by decide +kernel
theorem dX12_outcomes_45 : decode cX12_outcomes 45 = .ok (.iload_n 3, 1) := by decide +kernel
theorem dX12_outcomes_46 : decode cX12_outcomes 46 = .ok (.iload_n 1, 1) := by decide +kernel
theorem dX12_outcomes_47 : decode cX12_outcomes 47 = .ok (.invokevirtual 228, 3) := by decide +kernel
theorem dX12_outcomes_50 : decode cX12_outcomes 50 = .ok (.istore 4, 2) := by decide +kernel
theorem dX12_outcomes_52 : decode cX12_outcomes 52 = .ok (.aload_n 0, 1) := by decide +kernel
theorem dX12_outcomes_53 : decode cX12_outcomes 53 = .ok (.getfield 35, 3) := by decide +kernel
theorem dX12_outcomes_56 : decode cX12_outcomes 56 = .ok (.iload_n 1, 1) := by decide +kernel
theorem dX12_outcomes_57 : decode cX12_outcomes 57 = .ok (.iaload, 1) := by decide +kernel
theorem dX12_outcomes_58 : decode cX12_outcomes 58 = .ok (.ifCond .eq 31, 3) := by decide +kernel
theorem dX12_outcomes_61 : decode cX12_outcomes 61 = .ok (.aload_n 0, 1) := by decide +kernel
theorem dX12_outcomes_62 : decode cX12_outcomes 62 = .ok (.getfield 35, 3) := by decide +kernel
theorem dX12_outcomes_65 : decode cX12_outcomes 65 = .ok (.iload_n 1, 1) := by decide +kernel
theorem dX12_outcomes_66 : decode cX12_outcomes 66 = .ok (.iaload, 1) := by decide +kernel
theorem dX12_outcomes_67 : decode cX12_outcomes 67 = .ok (.iconst 1, 1) := by decide +kernel
theorem dX12_outcomes_68 : decode cX12_outcomes 68 = .ok (.if_icmp .ne 42, 3) := by decide +kernel
theorem dX12_outcomes_71 : decode cX12_outcomes 71 = .ok (.aload_n 0, 1) := by decide +kernel
theorem dX12_outcomes_72 : decode cX12_outcomes 72 = .ok (.getfield 222, 3) := by decide +kernel
theorem dX12_outcomes_75 : decode cX12_outcomes 75 = .ok (.ifCond .eq 14, 3) := by decide +kernel
theorem dX12_outcomes_78 : decode cX12_outcomes 78 = .ok (.iload 4, 2) := by decide +kernel
theorem dX12_outcomes_80 : decode cX12_outcomes 80 = .ok (.aload_n 0, 1) := by decide +kernel
theorem dX12_outcomes_81 : decode cX12_outcomes 81 = .ok (.getfield 85, 3) := by decide +kernel
theorem dX12_outcomes_84 : decode cX12_outcomes 84 = .ok (.iconst 0, 1) := by decide +kernel
theorem dX12_outcomes_85 : decode cX12_outcomes 85 = .ok (.iaload, 1) := by decide +kernel
theorem dX12_outcomes_86 : decode cX12_outcomes 86 = .ok (.if_icmp .ge 24, 3) := by decide +kernel
theorem dX12_outcomes_89 : decode cX12_outcomes 89 = .ok (.aload_n 0, 1) := by decide +kernel
theorem dX12_outcomes_90 : decode cX12_outcomes 90 = .ok (.getfield 85, 3) := by decide +kernel
theorem dX12_outcomes_93 : decode cX12_outcomes 93 = .ok (.iconst 0, 1) := by decide +kernel
theorem dX12_outcomes_94 : decode cX12_outcomes 94 = .ok (.iload 4, 2) := by decide +kernel
theorem dX12_outcomes_96 : decode cX12_outcomes 96 = .ok (.iastore, 1) := by decide +kernel
theorem dX12_outcomes_97 : decode cX12_outcomes 97 = .ok (.aload_n 0, 1) := by decide +kernel
theorem dX12_outcomes_98 : decode cX12_outcomes 98 = .ok (.iconst 1, 1) := by decide +kernel
theorem dX12_outcomes_99 : decode cX12_outcomes 99 = .ok (.putfield 222, 3) := by decide +kernel
theorem dX12_outcomes_102 : decode cX12_outcomes 102 = .ok (.aload_n 0, 1) := by decide +kernel
theorem dX12_outcomes_103 : decode cX12_outcomes 103 = .ok (.iload_n 3, 1) := by decide +kernel
theorem dX12_outcomes_104 : decode cX12_outcomes 104 = .ok (.putfield 225, 3) := by decide +kernel
theorem dX12_outcomes_107 : decode cX12_outcomes 107 = .ok (.goto 83, 3) := by decide +kernel
theorem dX12_outcomes_110 : decode cX12_outcomes 110 = .ok (.aload_n 0, 1) := by decide +kernel
theorem dX12_outcomes_111 : decode cX12_outcomes 111 = .ok (.getfield 35, 3) := by decide +kernel
theorem dX12_outcomes_114 : decode cX12_outcomes 114 = .ok (.iload_n 1, 1) := by decide +kernel
theorem dX12_outcomes_115 : decode cX12_outcomes 115 = .ok (.iaload, 1) := by decide +kernel
theorem dX12_outcomes_116 : decode cX12_outcomes 116 = .ok (.iconst 2, 1) := by decide +kernel
theorem dX12_outcomes_117 : decode cX12_outcomes 117 = .ok (.if_icmp .ne 73, 3) := by decide +kernel
theorem dX12_outcomes_120 : decode cX12_outcomes 120 = .ok (.iconst 0, 1) := by decide +kernel
theorem dX12_outcomes_121 : decode cX12_outcomes 121 = .ok (.istore 5, 2) := by decide +kernel
theorem dX12_outcomes_123 : decode cX12_outcomes 123 = .ok (.iload 5, 2) := by decide +kernel
theorem dX12_outcomes_125 : decode cX12_outcomes 125 = .ok (.aload_n 0, 1) := by decide +kernel
theorem dX12_outcomes_126 : decode cX12_outcomes 126 = .ok (.getfield 222, 3) := by decide +kernel
theorem dX12_outcomes_129 : decode cX12_outcomes 129 = .ok (.if_icmp .ge 21, 3) := by decide +kernel
theorem dX12_outcomes_132 : decode cX12_outcomes 132 = .ok (.aload_n 0, 1) := by decide +kernel
theorem dX12_outcomes_133 : decode cX12_outcomes 133 = .ok (.getfield 85, 3) := by decide +kernel
theorem dX12_outcomes_136 : decode cX12_outcomes 136 = .ok (.iload 5, 2) := by decide +kernel
theorem dX12_outcomes_138 : decode cX12_outcomes 138 = .ok (.iaload, 1) := by decide +kernel
theorem dX12_outcomes_139 : decode cX12_outcomes 139 = .ok (.iload 4, 2) := by decide +kernel
theorem dX12_outcomes_141 : decode cX12_outcomes 141 = .ok (.if_icmp .eq 9, 3) := by decide +kernel
theorem dX12_outcomes_144 : decode cX12_outcomes 144 = .ok (.iinc 5 1, 3) := by decide +kernel
theorem dX12_outcomes_147 : decode cX12_outcomes 147 = .ok (.goto (-24), 3) := by decide +kernel
theorem dX12_outcomes_150 : decode cX12_outcomes 150 = .ok (.aload_n 0, 1) := by decide +kernel
theorem dX12_outcomes_151 : decode cX12_outcomes 151 = .ok (.getfield 85, 3) := by decide +kernel
theorem dX12_outcomes_154 : decode cX12_outcomes 154 = .ok (.iload 5, 2) := by decide +kernel
theorem dX12_outcomes_156 : decode cX12_outcomes 156 = .ok (.iload 4, 2) := by decide +kernel
theorem dX12_outcomes_158 : decode cX12_outcomes 158 = .ok (.iastore, 1) := by decide +kernel
theorem dX12_outcomes_159 : decode cX12_outcomes 159 = .ok (.aload_n 0, 1) := by decide +kernel
theorem dX12_outcomes_160 : decode cX12_outcomes 160 = .ok (.iload 5, 2) := by decide +kernel
theorem dX12_outcomes_162 : decode cX12_outcomes 162 = .ok (.aload_n 0, 1) := by decide +kernel
theorem dX12_outcomes_163 : decode cX12_outcomes 163 = .ok (.getfield 222, 3) := by decide +kernel
theorem dX12_outcomes_166 : decode cX12_outcomes 166 = .ok (.if_icmp .ne 12, 3) := by decide +kernel
theorem dX12_outcomes_169 : decode cX12_outcomes 169 = .ok (.aload_n 0, 1) := by decide +kernel
theorem dX12_outcomes_170 : decode cX12_outcomes 170 = .ok (.getfield 222, 3) := by decide +kernel
theorem dX12_outcomes_173 : decode cX12_outcomes 173 = .ok (.iconst 1, 1) := by decide +kernel
theorem dX12_outcomes_174 : decode cX12_outcomes 174 = .ok (.iadd, 1) := by decide +kernel
theorem dX12_outcomes_175 : decode cX12_outcomes 175 = .ok (.goto 7, 3) := by decide +kernel
theorem dX12_outcomes_178 : decode cX12_outcomes 178 = .ok (.aload_n 0, 1) := by decide +kernel
theorem dX12_outcomes_179 : decode cX12_outcomes 179 = .ok (.getfield 222, 3) := by decide +kernel
theorem dX12_outcomes_182 : decode cX12_outcomes 182 = .ok (.putfield 222, 3) := by decide +kernel
theorem dX12_outcomes_185 : decode cX12_outcomes 185 = .ok (.aload_n 0, 1) := by decide +kernel
theorem dX12_outcomes_186 : decode cX12_outcomes 186 = .ok (.iload_n 3, 1) := by decide +kernel
theorem dX12_outcomes_187 : decode cX12_outcomes 187 = .ok (.putfield 225, 3) := by decide +kernel
theorem dX12_outcomes_190 : decode cX12_outcomes 190 = .ok (.iinc 2 1, 3) := by decide +kernel
theorem dX12_outcomes_193 : decode cX12_outcomes 193 = .ok (.goto (-181), 3) := by decide +kernel
theorem dX12_outcomes_196 : decode cX12_outcomes 196 = .ok (.return_, 1) := by decide +kernel
def f_X12_outcomes_190 (k12 : Int32 → Mo Unit) (r0 : Option Nat) (x1 : Int32) (x2 : Int32) : Mo Unit := k12 (x2 + 1)
set_option maxRecDepth 100000 in
set_option maxHeartbeats 4000000 in
theorem s_X12_outcomes_190 {X : Cg} (cx : Cx X cX12_outcomes RX12 6) (hfr : 1 ≤ (xR X).frames) (hlo : 22 ≤ (xR X).locals) (hr : (xM X).sig.returnType = none) (r0 : Option Nat) (x1 : Int32) (x2 : Int32) {k12 : Int32 → Mo Unit} (hk12 : ∀ (x2 : Int32), Sim X 6 (FiM X vV) 12 [(0, va_rf r0), (1, .int x1), (2, .int x2)] [] (k12 x2)) : Sim X 6 (FiM X vV) 190 [(0, va_rf r0), (1, .int x1), (2, .int x2)] [] (f_X12_outcomes_190 k12 r0 x1 x2) := by
  unfold f_X12_outcomes_190
  refine sm_iinc cx 2 [(2, .int (x2 + 1)), (0, va_rf r0), (1, .int x1)] dX12_outcomes_190 rfl rfl (by decide) rfl (nc1 rfl) rfl ?_
  refine sm_goto (tgt := 12) cx dX12_outcomes_193 (by decide) ?_
  exact sm_lv [1, 2, 0] rfl (hk12 (x2 + 1))
def f_X12_outcomes_89 (k12 : Int32 → Mo Unit) (r0 : Option Nat) (x1 : Int32) (x2 : Int32) (x3 : Int32) (x4 : Int32) : Mo Unit := mb (gR 15 37 r0) (fun v90 => mb (sI 1 v90 (0 : Int32) x4) (fun _ => mb (pV 15 38 r0 (.int (1 : Int32))) (fun _ => mb (pV 15 39 r0 (.int x3)) (fun _ => f_X12_outcomes_190 k12 r0 x1 x2))))
set_option maxRecDepth 100000 in
set_option maxHeartbeats 4000000 in
theorem s_X12_outcomes_89 {X : Cg} (cx : Cx X cX12_outcomes RX12 6) (hfr : 1 ≤ (xR X).frames) (hlo : 22 ≤ (xR X).locals) (hr : (xM X).sig.returnType = none) (r0 : Option Nat) (x1 : Int32) (x2 : Int32) (x3 : Int32) (x4 : Int32) {k12 : Int32 → Mo Unit} (hk12 : ∀ (x2 : Int32), Sim X 6 (FiM X vV) 12 [(0, va_rf r0), (1, .int x1), (2, .int x2)] [] (k12 x2)) : Sim X 6 (FiM X vV) 89 [(0, va_rf r0), (1, .int x1), (2, .int x2), (3, .int x3), (4, .int x4)] [] (f_X12_outcomes_89 k12 r0 x1 x2 x3 x4) := by
  unfold f_X12_outcomes_89
  refine sm_aload_n cx 0 dX12_outcomes_89 rfl rfl ?_
  refine sm_getR cx fl_X12_85 dX12_outcomes_90 (fun v90 => ?_)
  refine sm_iconst (v := 0) cx dX12_outcomes_93 (by decide) ?_
  refine sm_iload cx 4 dX12_outcomes_94 rfl ?_
  refine sm_iast cx dX12_outcomes_96 ?_
  refine sm_aload_n cx 0 dX12_outcomes_97 rfl rfl ?_
  refine sm_iconst (v := 1) cx dX12_outcomes_98 (by decide) ?_
  refine sm_putV cx fl_X12_222 rfl rfl dX12_outcomes_99 ?_
  refine sm_aload_n cx 0 dX12_outcomes_102 rfl rfl ?_
  refine sm_iload_n cx 3 dX12_outcomes_103 rfl rfl ?_
  refine sm_putV cx fl_X12_225 rfl rfl dX12_outcomes_104 ?_
  refine sm_goto (tgt := 190) cx dX12_outcomes_107 (by decide) ?_
  exact sm_lv [0, 1, 2] rfl (s_X12_outcomes_190 cx hfr hlo hr r0 x1 x2 hk12)
def f_X12_outcomes_182 (k12 : Int32 → Mo Unit) (r0 : Option Nat) (x1 : Int32) (x2 : Int32) (x3 : Int32) (sr0 : Option Nat) (sx1 : Int32) : Mo Unit := mb (pV 15 38 sr0 (.int sx1)) (fun _ => mb (pV 15 39 r0 (.int x3)) (fun _ => f_X12_outcomes_190 k12 r0 x1 x2))
set_option maxRecDepth 100000 in
set_option maxHeartbeats 4000000 in
theorem s_X12_outcomes_182 {X : Cg} (cx : Cx X cX12_outcomes RX12 6) (hfr : 1 ≤ (xR X).frames) (hlo : 22 ≤ (xR X).locals) (hr : (xM X).sig.returnType = none) (r0 : Option Nat) (x1 : Int32) (x2 : Int32) (x3 : Int32) (sr0 : Option Nat) (sx1 : Int32) {k12 : Int32 → Mo Unit} (hk12 : ∀ (x2 : Int32), Sim X 6 (FiM X vV) 12 [(0, va_rf r0), (1, .int x1), (2, .int x2)] [] (k12 x2)) : Sim X 6 (FiM X vV) 182 [(0, va_rf r0), (1, .int x1), (2, .int x2), (3, .int x3)] [.int sx1, va_rf sr0] (f_X12_outcomes_182 k12 r0 x1 x2 x3 sr0 sx1) := by
  unfold f_X12_outcomes_182
  refine sm_putV cx fl_X12_222 rfl rfl dX12_outcomes_182 ?_
  refine sm_aload_n cx 0 dX12_outcomes_185 rfl rfl ?_
  refine sm_iload_n cx 3 dX12_outcomes_186 rfl rfl ?_
  refine sm_putV cx fl_X12_225 rfl rfl dX12_outcomes_187 ?_
  exact sm_lv [0, 1, 2] rfl (s_X12_outcomes_190 cx hfr hlo hr r0 x1 x2 hk12)
def f_X12_outcomes_150 (k12 : Int32 → Mo Unit) (r0 : Option Nat) (x1 : Int32) (x2 : Int32) (x3 : Int32) (x4 : Int32) (x5 : Int32) : Mo Unit := mb (gR 15 37 r0) (fun v151 => mb (sI 1 v151 x5 x4) (fun _ => mb (gI 15 38 r0) (fun v163 => (if x5 = v163 then mb (gI 15 38 r0) (fun v170 => f_X12_outcomes_182 k12 r0 x1 x2 x3 r0 (v170 + (1 : Int32))) else mb (gI 15 38 r0) (fun v179 => f_X12_outcomes_182 k12 r0 x1 x2 x3 r0 v179)))))
set_option maxRecDepth 100000 in
set_option maxHeartbeats 4000000 in
theorem s_X12_outcomes_150 {X : Cg} (cx : Cx X cX12_outcomes RX12 6) (hfr : 1 ≤ (xR X).frames) (hlo : 22 ≤ (xR X).locals) (hr : (xM X).sig.returnType = none) (r0 : Option Nat) (x1 : Int32) (x2 : Int32) (x3 : Int32) (x4 : Int32) (x5 : Int32) {k12 : Int32 → Mo Unit} (hk12 : ∀ (x2 : Int32), Sim X 6 (FiM X vV) 12 [(0, va_rf r0), (1, .int x1), (2, .int x2)] [] (k12 x2)) : Sim X 6 (FiM X vV) 150 [(0, va_rf r0), (1, .int x1), (2, .int x2), (3, .int x3), (4, .int x4), (5, .int x5)] [] (f_X12_outcomes_150 k12 r0 x1 x2 x3 x4 x5) := by
  unfold f_X12_outcomes_150
  refine sm_aload_n cx 0 dX12_outcomes_150 rfl rfl ?_
  refine sm_getR cx fl_X12_85 dX12_outcomes_151 (fun v151 => ?_)
  refine sm_iload cx 5 dX12_outcomes_154 rfl ?_
  refine sm_iload cx 4 dX12_outcomes_156 rfl ?_
  refine sm_iast cx dX12_outcomes_158 ?_
  refine sm_aload_n cx 0 dX12_outcomes_159 rfl rfl ?_
  refine sm_iload cx 5 dX12_outcomes_160 rfl ?_
  refine sm_aload_n cx 0 dX12_outcomes_162 rfl rfl ?_
  refine sm_getI cx fl_X12_222 dX12_outcomes_163 (fun v163 => ?_)
  refine sm_icmp_ne (tgt := 178) cx dX12_outcomes_166 (by decide) ?_ ?_
  · refine sm_aload_n cx 0 dX12_outcomes_178 rfl rfl ?_
    refine sm_getI cx fl_X12_222 dX12_outcomes_179 (fun v179 => ?_)
    exact sm_lv [0, 1, 2, 3] rfl (s_X12_outcomes_182 cx hfr hlo hr r0 x1 x2 x3 r0 v179 hk12)
  · refine sm_aload_n cx 0 dX12_outcomes_169 rfl rfl ?_
    refine sm_getI cx fl_X12_222 dX12_outcomes_170 (fun v170 => ?_)
    refine sm_iconst (v := 1) cx dX12_outcomes_173 (by decide) ?_
    refine sm_iadd cx dX12_outcomes_174 ?_
    refine sm_goto (tgt := 182) cx dX12_outcomes_175 (by decide) ?_
    exact sm_lv [0, 1, 2, 3] rfl (s_X12_outcomes_182 cx hfr hlo hr r0 x1 x2 x3 r0 (v170 + (1 : Int32)) hk12)
def f_X12_outcomes_123 (k12 : Int32 → Mo Unit) (r0 : Option Nat) (x1 : Int32) (x2 : Int32) (x3 : Int32) (x4 : Int32) : Nat → Int32 → Mo Unit
  | 0, _ => mf
  | n + 1, x5 => mb (gI 15 38 r0) (fun v126 => (if v126 ≤ x5 then f_X12_outcomes_150 k12 r0 x1 x2 x3 x4 x5 else mb (gR 15 37 r0) (fun v133 => mb (aI 1 v133 x5) (fun v138 => (if v138 = x4 then f_X12_outcomes_150 k12 r0 x1 x2 x3 x4 x5 else (f_X12_outcomes_123 k12 r0 x1 x2 x3 x4 n) (x5 + 1))))))
set_option maxRecDepth 100000 in
set_option maxHeartbeats 4000000 in
theorem s_X12_outcomes_123 {X : Cg} (cx : Cx X cX12_outcomes RX12 6) (hfr : 1 ≤ (xR X).frames) (hlo : 22 ≤ (xR X).locals) (hr : (xM X).sig.returnType = none) (r0 : Option Nat) (x1 : Int32) (x2 : Int32) (x3 : Int32) (x4 : Int32) {k12 : Int32 → Mo Unit} (hk12 : ∀ (x2 : Int32), Sim X 6 (FiM X vV) 12 [(0, va_rf r0), (1, .int x1), (2, .int x2)] [] (k12 x2)) : ∀ (n : Nat) (x5 : Int32), Sim X 6 (FiM X vV) 123 [(0, va_rf r0), (1, .int x1), (2, .int x2), (3, .int x3), (4, .int x4), (5, .int x5)] [] (f_X12_outcomes_123 k12 r0 x1 x2 x3 x4 n x5) := by
  intro n
  induction n with
  | zero =>
    intro _
    exact sm_mf
  | succ n ih =>
    intro x5
    rw [f_X12_outcomes_123]
    refine sm_iload cx 5 dX12_outcomes_123 rfl ?_
    refine sm_aload_n cx 0 dX12_outcomes_125 rfl rfl ?_
    refine sm_getI cx fl_X12_222 dX12_outcomes_126 (fun v126 => ?_)
    refine sm_icmp_ge (tgt := 150) cx dX12_outcomes_129 (by decide) ?_ ?_
    · exact sm_lv [0, 1, 2, 3, 4, 5] rfl (s_X12_outcomes_150 cx hfr hlo hr r0 x1 x2 x3 x4 x5 hk12)
    · refine sm_aload_n cx 0 dX12_outcomes_132 rfl rfl ?_
      refine sm_getR cx fl_X12_85 dX12_outcomes_133 (fun v133 => ?_)
      refine sm_iload cx 5 dX12_outcomes_136 rfl ?_
      refine sm_iald cx dX12_outcomes_138 (fun v138 => ?_)
      refine sm_iload cx 4 dX12_outcomes_139 rfl ?_
      refine sm_icmp_eq (tgt := 150) cx dX12_outcomes_141 (by decide) ?_ ?_
      · exact sm_lv [0, 1, 2, 3, 4, 5] rfl (s_X12_outcomes_150 cx hfr hlo hr r0 x1 x2 x3 x4 x5 hk12)
      · refine sm_iinc cx 5 [(5, .int (x5 + 1)), (0, va_rf r0), (1, .int x1), (2, .int x2), (3, .int x3), (4, .int x4)] dX12_outcomes_144 rfl rfl (by decide) rfl (nc1 rfl) rfl ?_
        refine sm_goto (tgt := 123) cx dX12_outcomes_147 (by decide) ?_
        exact sm_lv [1, 2, 3, 4, 5, 0] rfl (ih (x5 + 1))
def f_X12_outcomes_110 (k12 : Int32 → Mo Unit) (r0 : Option Nat) (x1 : Int32) (x2 : Int32) (x3 : Int32) (x4 : Int32) : Mo Unit := mb (gR 15 13 r0) (fun v111 => mb (aI 1 v111 x1) (fun v115 => (if v115 = (2 : Int32) then f_X12_outcomes_123 k12 r0 x1 x2 x3 x4 fuL (0 : Int32) else f_X12_outcomes_190 k12 r0 x1 x2)))
set_option maxRecDepth 100000 in
set_option maxHeartbeats 4000000 in
theorem s_X12_outcomes_110 {X : Cg} (cx : Cx X cX12_outcomes RX12 6) (hfr : 1 ≤ (xR X).frames) (hlo : 22 ≤ (xR X).locals) (hr : (xM X).sig.returnType = none) (r0 : Option Nat) (x1 : Int32) (x2 : Int32) (x3 : Int32) (x4 : Int32) {k12 : Int32 → Mo Unit} (hk12 : ∀ (x2 : Int32), Sim X 6 (FiM X vV) 12 [(0, va_rf r0), (1, .int x1), (2, .int x2)] [] (k12 x2)) : Sim X 6 (FiM X vV) 110 [(0, va_rf r0), (1, .int x1), (2, .int x2), (3, .int x3), (4, .int x4)] [] (f_X12_outcomes_110 k12 r0 x1 x2 x3 x4) := by
  unfold f_X12_outcomes_110
  refine sm_aload_n cx 0 dX12_outcomes_110 rfl rfl ?_
  refine sm_getR cx fl_X12_35 dX12_outcomes_111 (fun v111 => ?_)
  refine sm_iload_n cx 1 dX12_outcomes_114 rfl rfl ?_
  refine sm_iald cx dX12_outcomes_115 (fun v115 => ?_)
  refine sm_iconst (v := 2) cx dX12_outcomes_116 (by decide) ?_
  refine sm_icmp_ne (tgt := 190) cx dX12_outcomes_117 (by decide) ?_ ?_
  · exact sm_lv [0, 1, 2] rfl (s_X12_outcomes_190 cx hfr hlo hr r0 x1 x2 hk12)
  · refine sm_iconst (v := 0) cx dX12_outcomes_120 (by decide) ?_
    refine sm_istore cx [(5, .int (0 : Int32)), (0, va_rf r0), (1, .int x1), (2, .int x2), (3, .int x3), (4, .int x4)] dX12_outcomes_121 (by decide) rfl (nc1 rfl) rfl ?_
    exact sm_lv [1, 2, 3, 4, 5, 0] rfl (s_X12_outcomes_123 cx hfr hlo hr r0 x1 x2 x3 x4 hk12 fuL (0 : Int32))
def f_X12_outcomes_12 (r0 : Option Nat) (x1 : Int32) : Nat → Int32 → Mo Unit
  | 0, _ => mf
  | n + 1, x2 => mb (gI 15 36 r0) (fun v14 => (if v14 ≤ x2 then mp () else mb (gR 15 35 r0) (fun v21 => mb (aI 1 v21 x2) (fun v25 => mb (gR 15 25 r0) (fun v29 => mb (aI 1 v29 v25) (fun v33 => mb (mo 15 r0 (f_X12_tells r0 v33 x1)) (fun v35 => (if v35 = 0 then f_X12_outcomes_190 (f_X12_outcomes_12 r0 x1 n) r0 x1 x2 else mb (mo 15 r0 (f_X12_valueOf r0 v25 x1)) (fun v47 => mb (gR 15 13 r0) (fun v53 => mb (aI 1 v53 x1) (fun v57 => (if v57 = 0 then f_X12_outcomes_89 (f_X12_outcomes_12 r0 x1 n) r0 x1 x2 v25 v47 else mb (gR 15 13 r0) (fun v62 => mb (aI 1 v62 x1) (fun v66 => (if v66 = (1 : Int32) then mb (gI 15 38 r0) (fun v72 => (if v72 = 0 then f_X12_outcomes_89 (f_X12_outcomes_12 r0 x1 n) r0 x1 x2 v25 v47 else mb (gR 15 37 r0) (fun v81 => mb (aI 1 v81 (0 : Int32)) (fun v85 => (if v85 ≤ v47 then f_X12_outcomes_110 (f_X12_outcomes_12 r0 x1 n) r0 x1 x2 v25 v47 else f_X12_outcomes_89 (f_X12_outcomes_12 r0 x1 n) r0 x1 x2 v25 v47))))) else f_X12_outcomes_110 (f_X12_outcomes_12 r0 x1 n) r0 x1 x2 v25 v47)))))))))))))))
set_option maxRecDepth 100000 in
set_option maxHeartbeats 4000000 in
theorem s_X12_outcomes_12 {X : Cg} (cx : Cx X cX12_outcomes RX12 6) (hfr : 1 ≤ (xR X).frames) (hlo : 22 ≤ (xR X).locals) (hr : (xM X).sig.returnType = none) (r0 : Option Nat) (x1 : Int32) : ∀ (n : Nat) (x2 : Int32), Sim X 6 (FiM X vV) 12 [(0, va_rf r0), (1, .int x1), (2, .int x2)] [] (f_X12_outcomes_12 r0 x1 n x2) := by
  intro n
  induction n with
  | zero =>
    intro _
    exact sm_mf
  | succ n ih =>
    intro x2
    rw [f_X12_outcomes_12]
    refine sm_iload_n cx 2 dX12_outcomes_12 rfl rfl ?_
    refine sm_aload_n cx 0 dX12_outcomes_13 rfl rfl ?_
    refine sm_getI cx fl_X12_215 dX12_outcomes_14 (fun v14 => ?_)
    refine sm_icmp_ge (tgt := 196) cx dX12_outcomes_17 (by decide) ?_ ?_
    · exact sm_vret cx hr dX12_outcomes_196
    · refine sm_aload_n cx 0 dX12_outcomes_20 rfl rfl ?_
      refine sm_getR cx fl_X12_82 dX12_outcomes_21 (fun v21 => ?_)
      refine sm_iload_n cx 2 dX12_outcomes_24 rfl rfl ?_
      refine sm_iald cx dX12_outcomes_25 (fun v25 => ?_)
      refine sm_istore_n cx [(3, .int v25), (0, va_rf r0), (1, .int x1), (2, .int x2)] dX12_outcomes_26 rfl (by decide) rfl (nc1 rfl) rfl ?_
      refine sm_aload_n cx 1 dX12_outcomes_27 rfl rfl ?_
      refine sm_aload_n cx 1 dX12_outcomes_28 rfl rfl ?_
      refine sm_getR cx fl_X12_55 dX12_outcomes_29 (fun v29 => ?_)
      refine sm_iload_n cx 0 dX12_outcomes_32 rfl rfl ?_
      refine sm_iald cx dX12_outcomes_33 (fun v33 => ?_)
      refine sm_iload_n cx 2 dX12_outcomes_34 rfl rfl ?_
      refine sm_callV (T := TX12) (N := 47) (toV := vI) cx [.int v33, .int x1] rfl cv_X12_125 (fun a h => ct_X12_tells (xZ X) a h v33 x1) (Nat.le_trans (by decide) hfr) (Nat.le_trans (by decide) hlo) rfl (cat_le _ (Nat.le_of_ble_eq_true rfl)) dX12_outcomes_35 (fun v35 => ?_)
      refine sm_if_ne (tgt := 44) cx dX12_outcomes_38 (by decide) ?_ ?_
      · refine sm_aload_n cx 1 dX12_outcomes_44 rfl rfl ?_
        refine sm_iload_n cx 0 dX12_outcomes_45 rfl rfl ?_
        refine sm_iload_n cx 2 dX12_outcomes_46 rfl rfl ?_
        refine sm_callV (T := TX12) (N := 47) (toV := vI) cx [.int v25, .int x1] rfl cv_X12_228 (fun a h => ct_X12_valueOf (xZ X) a h v25 x1) (Nat.le_trans (by decide) hfr) (Nat.le_trans (by decide) hlo) rfl (cat_le _ (Nat.le_of_ble_eq_true rfl)) dX12_outcomes_47 (fun v47 => ?_)
        refine sm_istore cx [(4, .int v47), (3, .int v25), (0, va_rf r0), (1, .int x1), (2, .int x2)] dX12_outcomes_50 (by decide) rfl (nc1 rfl) rfl ?_
        refine sm_aload_n cx 2 dX12_outcomes_52 rfl rfl ?_
        refine sm_getR cx fl_X12_35 dX12_outcomes_53 (fun v53 => ?_)
        refine sm_iload_n cx 3 dX12_outcomes_56 rfl rfl ?_
        refine sm_iald cx dX12_outcomes_57 (fun v57 => ?_)
        refine sm_if_eq (tgt := 89) cx dX12_outcomes_58 (by decide) ?_ ?_
        · exact sm_lv [2, 3, 4, 1, 0] rfl (s_X12_outcomes_89 cx hfr hlo hr r0 x1 x2 v25 v47 ih)
        · refine sm_aload_n cx 2 dX12_outcomes_61 rfl rfl ?_
          refine sm_getR cx fl_X12_35 dX12_outcomes_62 (fun v62 => ?_)
          refine sm_iload_n cx 3 dX12_outcomes_65 rfl rfl ?_
          refine sm_iald cx dX12_outcomes_66 (fun v66 => ?_)
          refine sm_iconst (v := 1) cx dX12_outcomes_67 (by decide) ?_
          refine sm_icmp_ne (tgt := 110) cx dX12_outcomes_68 (by decide) ?_ ?_
          · exact sm_lv [2, 3, 4, 1, 0] rfl (s_X12_outcomes_110 cx hfr hlo hr r0 x1 x2 v25 v47 ih)
          · refine sm_aload_n cx 2 dX12_outcomes_71 rfl rfl ?_
            refine sm_getI cx fl_X12_222 dX12_outcomes_72 (fun v72 => ?_)
            refine sm_if_eq (tgt := 89) cx dX12_outcomes_75 (by decide) ?_ ?_
            · exact sm_lv [2, 3, 4, 1, 0] rfl (s_X12_outcomes_89 cx hfr hlo hr r0 x1 x2 v25 v47 ih)
            · refine sm_iload cx 0 dX12_outcomes_78 rfl ?_
              refine sm_aload_n cx 2 dX12_outcomes_80 rfl rfl ?_
              refine sm_getR cx fl_X12_85 dX12_outcomes_81 (fun v81 => ?_)
              refine sm_iconst (v := 0) cx dX12_outcomes_84 (by decide) ?_
              refine sm_iald cx dX12_outcomes_85 (fun v85 => ?_)
              refine sm_icmp_ge (tgt := 110) cx dX12_outcomes_86 (by decide) ?_ ?_
              · exact sm_lv [2, 3, 4, 1, 0] rfl (s_X12_outcomes_110 cx hfr hlo hr r0 x1 x2 v25 v47 ih)
              · exact sm_lv [2, 3, 4, 1, 0] rfl (s_X12_outcomes_89 cx hfr hlo hr r0 x1 x2 v25 v47 ih)
      · refine sm_goto (tgt := 190) cx dX12_outcomes_41 (by decide) ?_
        exact sm_lv [1, 2, 3] rfl (s_X12_outcomes_190 cx hfr hlo hr r0 x1 x2 ih)
def f_X12_outcomes (r0 : Option Nat) (x1 : Int32) : Mo Unit := mb (pV 15 38 r0 (.int (0 : Int32))) (fun _ => mb (pV 15 39 r0 (.int (-1 : Int32))) (fun _ => f_X12_outcomes_12 r0 x1 fuL (0 : Int32)))
set_option maxRecDepth 100000 in
set_option maxHeartbeats 4000000 in
theorem s_X12_outcomes {X : Cg} (cx : Cx X cX12_outcomes RX12 6) (hfr : 1 ≤ (xR X).frames) (hlo : 22 ≤ (xR X).locals) (hr : (xM X).sig.returnType = none) (r0 : Option Nat) (x1 : Int32) : Sim X 6 (FiM X vV) 0 [(0, va_rf r0), (1, .int x1)] [] (f_X12_outcomes r0 x1) := by
  unfold f_X12_outcomes
  refine sm_aload_n cx 0 dX12_outcomes_0 rfl rfl ?_
  refine sm_iconst (v := 0) cx dX12_outcomes_1 (by decide) ?_
  refine sm_putV cx fl_X12_222 rfl rfl dX12_outcomes_2 ?_
  refine sm_aload_n cx 0 dX12_outcomes_5 rfl rfl ?_
  refine sm_iconst (v := -1) cx dX12_outcomes_6 (by decide) ?_
  refine sm_putV cx fl_X12_225 rfl rfl dX12_outcomes_7 ?_
  refine sm_iconst (v := 0) cx dX12_outcomes_10 (by decide) ?_
  refine sm_istore_n cx [(2, .int (0 : Int32)), (0, va_rf r0), (1, .int x1)] dX12_outcomes_11 rfl (by decide) rfl (nc1 rfl) rfl ?_
  exact sm_lv [1, 2, 0] rfl (s_X12_outcomes_12 cx hfr hlo hr r0 x1 fuL (0 : Int32))
set_option maxRecDepth 100000 in
set_option maxHeartbeats 4000000 in
theorem ct_X12_outcomes (Z : Nat → Nat) {r0 : Option Nat} (a0 : Nat) (h0 : r0 = some a0) (x1 : Int32) : Ct yX12_outcomes cX12_outcomes 6 none 1 22 Z [.ref a0, .int x1] vV (f_X12_outcomes r0 x1) := by
  subst h0
  refine ct_of (lv0 := [(0, va_rf (some a0)), (1, .int x1)]) (by decide +kernel) (by simp [lg_sl, ct_i, ct_l, ct_r, rf_cat]) (by show _ = ([(0, Value.ref a0), (1, .int x1)] : List (Nat × Value)); simp [lv_args, ct_i, ct_l, ct_r, rf_cat]) (fun X cx hZ hfr hlo hr hin => ?_)
  subst hZ
  exact s_X12_outcomes cx (Nat.le_of_eq hfr.symm) (Nat.le_of_eq hlo.symm) hr (some a0) x1
/-! PolicyTreeModel.isAsked(II)Z -/
theorem dX12_isAsked_0 : decode cX12_isAsked 0 = .ok (.aload_n 0, 1) := by decide +kernel
theorem dX12_isAsked_1 : decode cX12_isAsked 1 = .ok (.iconst 0, 1) := by decide +kernel
theorem dX12_isAsked_2 : decode cX12_isAsked 2 = .ok (.putfield 97, 3) := by decide +kernel
theorem dX12_isAsked_5 : decode cX12_isAsked 5 = .ok (.aload_n 0, 1) := by decide +kernel
theorem dX12_isAsked_6 : decode cX12_isAsked 6 = .ok (.iload_n 1, 1) := by decide +kernel
theorem dX12_isAsked_7 : decode cX12_isAsked 7 = .ok (.aload_n 0, 1) := by decide +kernel
theorem dX12_isAsked_8 : decode cX12_isAsked 8 = .ok (.getfield 108, 3) := by decide +kernel
theorem dX12_isAsked_11 : decode cX12_isAsked 11 = .ok (.invokevirtual 100, 3) := by decide +kernel
theorem dX12_isAsked_14 : decode cX12_isAsked 14 = .ok (.ifCond .ne 23, 3) := by decide +kernel
theorem dX12_isAsked_17 : decode cX12_isAsked 17 = .ok (.aload_n 0, 1) := by decide +kernel
theorem dX12_isAsked_18 : decode cX12_isAsked 18 = .ok (.iload_n 2, 1) := by decide +kernel
theorem dX12_isAsked_19 : decode cX12_isAsked 19 = .ok (.invokestatic 121, 3) := by decide +kernel
theorem dX12_isAsked_22 : decode cX12_isAsked 22 = .ok (.ifCond .ne 7, 3) := by decide +kernel
theorem dX12_isAsked_25 : decode cX12_isAsked 25 = .ok (.iconst 1, 1) := by decide +kernel
theorem dX12_isAsked_26 : decode cX12_isAsked 26 = .ok (.goto 4, 3) := by decide +kernel
theorem dX12_isAsked_29 : decode cX12_isAsked 29 = .ok (.iconst 0, 1) := by decide +kernel
theorem dX12_isAsked_30 : decode cX12_isAsked 30 = .ok (.iconst 2, 1) := by decide +kernel
theorem dX12_isAsked_31 : decode cX12_isAsked 31 = .ok (.invokevirtual 104, 3) := by decide +kernel
theorem dX12_isAsked_34 : decode cX12_isAsked 34 = .ok (.ifCond .eq 5, 3) := by decide +kernel
theorem dX12_isAsked_37 : decode cX12_isAsked 37 = .ok (.iconst 0, 1) := by decide +kernel
theorem dX12_isAsked_38 : decode cX12_isAsked 38 = .ok (.ireturn, 1) := by decide +kernel
theorem dX12_isAsked_39 : decode cX12_isAsked 39 = .ok (.aload_n 0, 1) := by decide +kernel
theorem dX12_isAsked_40 : decode cX12_isAsked 40 = .ok (.invokevirtual 232, 3) := by decide +kernel
theorem dX12_isAsked_43 : decode cX12_isAsked 43 = .ok (.aload_n 0, 1) := by decide +kernel
theorem dX12_isAsked_44 : decode cX12_isAsked 44 = .ok (.iload_n 1, 1) := by decide +kernel
theorem dX12_isAsked_45 : decode cX12_isAsked 45 = .ok (.aload_n 0, 1) := by decide +kernel
theorem dX12_isAsked_46 : decode cX12_isAsked 46 = .ok (.iload_n 1, 1) := by decide +kernel
theorem dX12_isAsked_47 : decode cX12_isAsked 47 = .ok (.invokevirtual 235, 3) := by decide +kernel
theorem dX12_isAsked_50 : decode cX12_isAsked 50 = .ok (.iconst (-1), 1) := by decide +kernel
theorem dX12_isAsked_51 : decode cX12_isAsked 51 = .ok (.invokevirtual 238, 3) := by decide +kernel
theorem dX12_isAsked_54 : decode cX12_isAsked 54 = .ok (.aload_n 0, 1) := by decide +kernel
theorem dX12_isAsked_55 : decode cX12_isAsked 55 = .ok (.iload_n 2, 1) := by decide +kernel
theorem dX12_isAsked_56 : decode cX12_isAsked 56 = .ok (.invokevirtual 242, 3) := by decide +kernel
theorem dX12_isAsked_59 : decode cX12_isAsked 59 = .ok (.iconst 1, 1) := by decide +kernel
theorem dX12_isAsked_60 : decode cX12_isAsked 60 = .ok (.ireturn, 1) := by decide +kernel
def f_X12_isAsked_37 : Mo Int32 := rz .boolean (0 : Int32)
set_option maxRecDepth 100000 in
set_option maxHeartbeats 4000000 in
theorem s_X12_isAsked_37 {X : Cg} (cx : Cx X cX12_isAsked RX12 3) (hfr : 4 ≤ (xR X).frames) (hlo : 103 ≤ (xR X).locals) (hr : (xM X).sig.returnType = (some .boolean)) : Sim X 3 (FiM X vI) 37 [] [] (f_X12_isAsked_37) := by
  unfold f_X12_isAsked_37
  refine sm_iconst (v := 0) cx dX12_isAsked_37 (by decide) ?_
  exact sm_zret cx hr dX12_isAsked_38
def f_X12_isAsked_30 (r0 : Option Nat) (x1 : Int32) (x2 : Int32) (sr0 : Option Nat) (sx1 : Int32) : Mo Int32 := mb (mo 15 sr0 (f_X12_bad sr0 sx1 (2 : Int32))) (fun v31 => (if v31 = 0 then mb (mo 15 r0 (f_X12_groupsAnew r0)) (fun _ => mb (mo 15 r0 (f_X12_yesOf r0 x1)) (fun v47 => mb (mo 15 r0 (f_X12_makes r0 x1 v47 (-1 : Int32))) (fun _ => mb (mo 15 r0 (f_X12_outcomes r0 x2)) (fun _ => rz .boolean (1 : Int32))))) else f_X12_isAsked_37))
set_option maxRecDepth 100000 in
set_option maxHeartbeats 4000000 in
theorem s_X12_isAsked_30 {X : Cg} (cx : Cx X cX12_isAsked RX12 3) (hfr : 4 ≤ (xR X).frames) (hlo : 103 ≤ (xR X).locals) (hr : (xM X).sig.returnType = (some .boolean)) (r0 : Option Nat) (x1 : Int32) (x2 : Int32) (sr0 : Option Nat) (sx1 : Int32) : Sim X 3 (FiM X vI) 30 [(0, va_rf r0), (1, .int x1), (2, .int x2)] [.int sx1, va_rf sr0] (f_X12_isAsked_30 r0 x1 x2 sr0 sx1) := by
  unfold f_X12_isAsked_30
  refine sm_iconst (v := 2) cx dX12_isAsked_30 (by decide) ?_
  refine sm_callV (T := TX12) (N := 47) (toV := vI) cx [.int sx1, .int (2 : Int32)] rfl cv_X12_104 (fun a h => ct_X12_bad (xZ X) a h sx1 (2 : Int32)) (Nat.le_trans (by decide) hfr) (Nat.le_trans (by decide) hlo) rfl (cat_le _ (Nat.le_of_ble_eq_true rfl)) dX12_isAsked_31 (fun v31 => ?_)
  refine sm_if_eq (tgt := 39) cx dX12_isAsked_34 (by decide) ?_ ?_
  · refine sm_aload_n cx 0 dX12_isAsked_39 rfl rfl ?_
    refine sm_callV (T := TX12) (N := 47) (toV := vV) cx [] rfl cv_X12_232 (fun a h => ct_X12_groupsAnew (xZ X) a h) (Nat.le_trans (by decide) hfr) (Nat.le_trans (by decide) hlo) rfl (cat_le _ (Nat.le_of_ble_eq_true rfl)) dX12_isAsked_40 (fun _ => ?_)
    refine sm_aload_n cx 0 dX12_isAsked_43 rfl rfl ?_
    refine sm_iload_n cx 1 dX12_isAsked_44 rfl rfl ?_
    refine sm_aload_n cx 0 dX12_isAsked_45 rfl rfl ?_
    refine sm_iload_n cx 1 dX12_isAsked_46 rfl rfl ?_
    refine sm_callV (T := TX12) (N := 47) (toV := vI) cx [.int x1] rfl cv_X12_235 (fun a h => ct_X12_yesOf (xZ X) a h x1) (Nat.le_trans (by decide) hfr) (Nat.le_trans (by decide) hlo) rfl (cat_le _ (Nat.le_of_ble_eq_true rfl)) dX12_isAsked_47 (fun v47 => ?_)
    refine sm_iconst (v := -1) cx dX12_isAsked_50 (by decide) ?_
    refine sm_callV (T := TX12) (N := 47) (toV := vV) cx [.int x1, .int v47, .int (-1 : Int32)] rfl cv_X12_238 (fun a h => ct_X12_makes (xZ X) a h x1 v47 (-1 : Int32)) (Nat.le_trans (by decide) hfr) (Nat.le_trans (by decide) hlo) rfl (cat_le _ (Nat.le_of_ble_eq_true rfl)) dX12_isAsked_51 (fun _ => ?_)
    refine sm_aload_n cx 0 dX12_isAsked_54 rfl rfl ?_
    refine sm_iload_n cx 2 dX12_isAsked_55 rfl rfl ?_
    refine sm_callV (T := TX12) (N := 47) (toV := vV) cx [.int x2] rfl cv_X12_242 (fun a h => ct_X12_outcomes (xZ X) a h x2) (Nat.le_trans (by decide) hfr) (Nat.le_trans (by decide) hlo) rfl (cat_le _ (Nat.le_of_ble_eq_true rfl)) dX12_isAsked_56 (fun _ => ?_)
    refine sm_iconst (v := 1) cx dX12_isAsked_59 (by decide) ?_
    exact sm_zret cx hr dX12_isAsked_60
  · exact sm_lv [] rfl (s_X12_isAsked_37 cx hfr hlo hr)
def f_X12_isAsked (r0 : Option Nat) (x1 : Int32) (x2 : Int32) : Mo Int32 := mb (pV 15 0 r0 (.int (0 : Int32))) (fun _ => mb (gI 15 7 r0) (fun v8 => mb (mo 15 r0 (f_X12_none r0 x1 v8)) (fun v11 => (if v11 = 0 then mb (f_X12_isSetting x2) (fun v19 => (if v19 = 0 then f_X12_isAsked_30 r0 x1 x2 r0 (1 : Int32) else f_X12_isAsked_30 r0 x1 x2 r0 (0 : Int32))) else f_X12_isAsked_37))))
set_option maxRecDepth 100000 in
set_option maxHeartbeats 4000000 in
theorem s_X12_isAsked {X : Cg} (cx : Cx X cX12_isAsked RX12 3) (hfr : 4 ≤ (xR X).frames) (hlo : 103 ≤ (xR X).locals) (hr : (xM X).sig.returnType = (some .boolean)) (r0 : Option Nat) (x1 : Int32) (x2 : Int32) : Sim X 3 (FiM X vI) 0 [(0, va_rf r0), (1, .int x1), (2, .int x2)] [] (f_X12_isAsked r0 x1 x2) := by
  unfold f_X12_isAsked
  refine sm_aload_n cx 0 dX12_isAsked_0 rfl rfl ?_
  refine sm_iconst (v := 0) cx dX12_isAsked_1 (by decide) ?_
  refine sm_putV cx fl_X12_97 rfl rfl dX12_isAsked_2 ?_
  refine sm_aload_n cx 0 dX12_isAsked_5 rfl rfl ?_
  refine sm_iload_n cx 1 dX12_isAsked_6 rfl rfl ?_
  refine sm_aload_n cx 0 dX12_isAsked_7 rfl rfl ?_
  refine sm_getI cx fl_X12_108 dX12_isAsked_8 (fun v8 => ?_)
  refine sm_callV (T := TX12) (N := 47) (toV := vI) cx [.int x1, .int v8] rfl cv_X12_100 (fun a h => ct_X12_none (xZ X) a h x1 v8) (Nat.le_trans (by decide) hfr) (Nat.le_trans (by decide) hlo) rfl (cat_le _ (Nat.le_of_ble_eq_true rfl)) dX12_isAsked_11 (fun v11 => ?_)
  refine sm_if_ne (tgt := 37) cx dX12_isAsked_14 (by decide) ?_ ?_
  · exact sm_lv [] rfl (s_X12_isAsked_37 cx hfr hlo hr)
  · refine sm_aload_n cx 0 dX12_isAsked_17 rfl rfl ?_
    refine sm_iload_n cx 2 dX12_isAsked_18 rfl rfl ?_
    refine sm_callS (toV := vI) cx [.int x2] cs_X12_121 (ct_X12_isSetting (xZ X) x2) (Nat.le_trans (by decide) hfr) (Nat.le_trans (by decide) hlo) rfl (cat_le _ (Nat.le_of_ble_eq_true rfl)) dX12_isAsked_19 (fun v19 => ?_)
    refine sm_if_ne (tgt := 29) cx dX12_isAsked_22 (by decide) ?_ ?_
    · refine sm_iconst (v := 0) cx dX12_isAsked_29 (by decide) ?_
      exact sm_lv [0, 1, 2] rfl (s_X12_isAsked_30 cx hfr hlo hr r0 x1 x2 r0 (0 : Int32))
    · refine sm_iconst (v := 1) cx dX12_isAsked_25 (by decide) ?_
      refine sm_goto (tgt := 30) cx dX12_isAsked_26 (by decide) ?_
      exact sm_lv [0, 1, 2] rfl (s_X12_isAsked_30 cx hfr hlo hr r0 x1 x2 r0 (1 : Int32))
set_option maxRecDepth 100000 in
set_option maxHeartbeats 4000000 in
theorem ct_X12_isAsked (Z : Nat → Nat) {r0 : Option Nat} (a0 : Nat) (h0 : r0 = some a0) (x1 : Int32) (x2 : Int32) : Ct yX12_isAsked cX12_isAsked 3 (some .boolean) 4 103 Z [.ref a0, .int x1, .int x2] vI (f_X12_isAsked r0 x1 x2) := by
  subst h0
  refine ct_of (lv0 := [(0, va_rf (some a0)), (1, .int x1), (2, .int x2)]) (by decide +kernel) (by simp [lg_sl, ct_i, ct_l, ct_r, rf_cat]) (by show _ = ([(0, Value.ref a0), (1, .int x1), (2, .int x2)] : List (Nat × Value)); simp [lv_args, ct_i, ct_l, ct_r, rf_cat]) (fun X cx hZ hfr hlo hr hin => ?_)
  subst hZ
  exact s_X12_isAsked cx (Nat.le_of_eq hfr.symm) (Nat.le_of_eq hlo.symm) hr (some a0) x1 x2
/-! PolicyTreeModel.outcome(II)I -/
theorem dX12_outcome_0 : decode cX12_outcome 0 = .ok (.aload_n 0, 1) := by decide +kernel
theorem dX12_outcome_1 : decode cX12_outcome 1 = .ok (.iload_n 1, 1) := by decide +kernel
theorem dX12_outcome_2 : decode cX12_outcome 2 = .ok (.iload_n 2, 1) := by decide +kernel
theorem dX12_outcome_3 : decode cX12_outcome 3 = .ok (.invokevirtual 245, 3) := by decide +kernel
theorem dX12_outcome_6 : decode cX12_outcome 6 = .ok (.ifCond .eq 10, 3) := by decide +kernel
theorem dX12_outcome_9 : decode cX12_outcome 9 = .ok (.aload_n 0, 1) := by decide +kernel
theorem dX12_outcome_10 : decode cX12_outcome 10 = .ok (.getfield 222, 3) := by decide +kernel
theorem dX12_outcome_13 : decode cX12_outcome 13 = .ok (.goto 4, 3) := by decide +kernel
theorem dX12_outcome_16 : decode cX12_outcome 16 = .ok (.iconst 0, 1) := by decide +kernel
theorem dX12_outcome_17 : decode cX12_outcome 17 = .ok (.ireturn, 1) := by decide +kernel
def f_X12_outcome_17 (sx0 : Int32) : Mo Int32 := mp sx0
set_option maxRecDepth 100000 in
set_option maxHeartbeats 4000000 in
theorem s_X12_outcome_17 {X : Cg} (cx : Cx X cX12_outcome RX12 3) (hfr : 5 ≤ (xR X).frames) (hlo : 125 ≤ (xR X).locals) (hr : (xM X).sig.returnType = (some .int)) (sx0 : Int32) : Sim X 3 (FiM X vI) 17 [] [.int sx0] (f_X12_outcome_17 sx0) := by
  unfold f_X12_outcome_17
  exact sm_iret cx hr dX12_outcome_17
def f_X12_outcome (r0 : Option Nat) (x1 : Int32) (x2 : Int32) : Mo Int32 := mb (mo 15 r0 (f_X12_isAsked r0 x1 x2)) (fun v3 => (if v3 = 0 then f_X12_outcome_17 (0 : Int32) else mb (gI 15 38 r0) (fun v10 => f_X12_outcome_17 v10)))
set_option maxRecDepth 100000 in
set_option maxHeartbeats 4000000 in
theorem s_X12_outcome {X : Cg} (cx : Cx X cX12_outcome RX12 3) (hfr : 5 ≤ (xR X).frames) (hlo : 125 ≤ (xR X).locals) (hr : (xM X).sig.returnType = (some .int)) (r0 : Option Nat) (x1 : Int32) (x2 : Int32) : Sim X 3 (FiM X vI) 0 [(0, va_rf r0), (1, .int x1), (2, .int x2)] [] (f_X12_outcome r0 x1 x2) := by
  unfold f_X12_outcome
  refine sm_aload_n cx 0 dX12_outcome_0 rfl rfl ?_
  refine sm_iload_n cx 1 dX12_outcome_1 rfl rfl ?_
  refine sm_iload_n cx 2 dX12_outcome_2 rfl rfl ?_
  refine sm_callV (T := TX12) (N := 47) (toV := vI) cx [.int x1, .int x2] rfl cv_X12_245 (fun a h => ct_X12_isAsked (xZ X) a h x1 x2) (Nat.le_trans (by decide) hfr) (Nat.le_trans (by decide) hlo) rfl (cat_le _ (Nat.le_of_ble_eq_true rfl)) dX12_outcome_3 (fun v3 => ?_)
  refine sm_if_eq (tgt := 16) cx dX12_outcome_6 (by decide) ?_ ?_
  · refine sm_iconst (v := 0) cx dX12_outcome_16 (by decide) ?_
    exact sm_lv [] rfl (s_X12_outcome_17 cx hfr hlo hr (0 : Int32))
  · refine sm_aload_n cx 0 dX12_outcome_9 rfl rfl ?_
    refine sm_getI cx fl_X12_222 dX12_outcome_10 (fun v10 => ?_)
    refine sm_goto (tgt := 17) cx dX12_outcome_13 (by decide) ?_
    exact sm_lv [] rfl (s_X12_outcome_17 cx hfr hlo hr v10)
set_option maxRecDepth 100000 in
set_option maxHeartbeats 4000000 in
theorem ct_X12_outcome (Z : Nat → Nat) {r0 : Option Nat} (a0 : Nat) (h0 : r0 = some a0) (x1 : Int32) (x2 : Int32) : Ct yX12_outcome cX12_outcome 3 (some .int) 5 125 Z [.ref a0, .int x1, .int x2] vI (f_X12_outcome r0 x1 x2) := by
  subst h0
  refine ct_of (lv0 := [(0, va_rf (some a0)), (1, .int x1), (2, .int x2)]) (by decide +kernel) (by simp [lg_sl, ct_i, ct_l, ct_r, rf_cat]) (by show _ = ([(0, Value.ref a0), (1, .int x1), (2, .int x2)] : List (Nat × Value)); simp [lv_args, ct_i, ct_l, ct_r, rf_cat]) (fun X cx hZ hfr hlo hr hin => ?_)
  subst hZ
  exact s_X12_outcome cx (Nat.le_of_eq hfr.symm) (Nat.le_of_eq hlo.symm) hr (some a0) x1 x2
/-! PolicyTreeModel.value(III)I -/
theorem dX12_value_0 : decode cX12_value 0 = .ok (.aload_n 0, 1) := by decide +kernel
theorem dX12_value_1 : decode cX12_value 1 = .ok (.iload_n 1, 1) := by decide +kernel
theorem dX12_value_2 : decode cX12_value 2 = .ok (.iload_n 2, 1) := by decide +kernel
theorem dX12_value_3 : decode cX12_value 3 = .ok (.invokevirtual 245, 3) := by decide +kernel
theorem dX12_value_6 : decode cX12_value 6 = .ok (.ifCond .eq 24, 3) := by decide +kernel
theorem dX12_value_9 : decode cX12_value 9 = .ok (.iload_n 3, 1) := by decide +kernel
theorem dX12_value_10 : decode cX12_value 10 = .ok (.ifCond .lt 20, 3) := by decide +kernel
theorem dX12_value_13 : decode cX12_value 13 = .ok (.iload_n 3, 1) := by decide +kernel
theorem dX12_value_14 : decode cX12_value 14 = .ok (.aload_n 0, 1) := by decide +kernel
theorem dX12_value_15 : decode cX12_value 15 = .ok (.getfield 222, 3) := by decide +kernel
theorem dX12_value_18 : decode cX12_value 18 = .ok (.if_icmp .ge 12, 3) := by decide +kernel
theorem dX12_value_21 : decode cX12_value 21 = .ok (.aload_n 0, 1) := by decide +kernel
theorem dX12_value_22 : decode cX12_value 22 = .ok (.getfield 85, 3) := by decide +kernel
theorem dX12_value_25 : decode cX12_value 25 = .ok (.iload_n 3, 1) := by decide +kernel
theorem dX12_value_26 : decode cX12_value 26 = .ok (.iaload, 1) := by decide +kernel
theorem dX12_value_27 : decode cX12_value 27 = .ok (.goto 4, 3) := by decide +kernel
theorem dX12_value_30 : decode cX12_value 30 = .ok (.iconst 0, 1) := by decide +kernel
theorem dX12_value_31 : decode cX12_value 31 = .ok (.ireturn, 1) := by decide +kernel
def f_X12_value_31 (sx0 : Int32) : Mo Int32 := mp sx0
set_option maxRecDepth 100000 in
set_option maxHeartbeats 4000000 in
theorem s_X12_value_31 {X : Cg} (cx : Cx X cX12_value RX12 4) (hfr : 5 ≤ (xR X).frames) (hlo : 125 ≤ (xR X).locals) (hr : (xM X).sig.returnType = (some .int)) (sx0 : Int32) : Sim X 4 (FiM X vI) 31 [] [.int sx0] (f_X12_value_31 sx0) := by
  unfold f_X12_value_31
  exact sm_iret cx hr dX12_value_31
def f_X12_value_30 : Mo Int32 := f_X12_value_31 (0 : Int32)
set_option maxRecDepth 100000 in
set_option maxHeartbeats 4000000 in
theorem s_X12_value_30 {X : Cg} (cx : Cx X cX12_value RX12 4) (hfr : 5 ≤ (xR X).frames) (hlo : 125 ≤ (xR X).locals) (hr : (xM X).sig.returnType = (some .int)) : Sim X 4 (FiM X vI) 30 [] [] (f_X12_value_30) := by
  unfold f_X12_value_30
  refine sm_iconst (v := 0) cx dX12_value_30 (by decide) ?_
  exact sm_lv [] rfl (s_X12_value_31 cx hfr hlo hr (0 : Int32))
def f_X12_value (r0 : Option Nat) (x1 : Int32) (x2 : Int32) (x3 : Int32) : Mo Int32 := mb (mo 15 r0 (f_X12_isAsked r0 x1 x2)) (fun v3 => (if v3 = 0 then f_X12_value_30 else (if x3 < 0 then f_X12_value_30 else mb (gI 15 38 r0) (fun v15 => (if v15 ≤ x3 then f_X12_value_30 else mb (gR 15 37 r0) (fun v22 => mb (aI 1 v22 x3) (fun v26 => f_X12_value_31 v26)))))))
set_option maxRecDepth 100000 in
set_option maxHeartbeats 4000000 in
theorem s_X12_value {X : Cg} (cx : Cx X cX12_value RX12 4) (hfr : 5 ≤ (xR X).frames) (hlo : 125 ≤ (xR X).locals) (hr : (xM X).sig.returnType = (some .int)) (r0 : Option Nat) (x1 : Int32) (x2 : Int32) (x3 : Int32) : Sim X 4 (FiM X vI) 0 [(0, va_rf r0), (1, .int x1), (2, .int x2), (3, .int x3)] [] (f_X12_value r0 x1 x2 x3) := by
  unfold f_X12_value
  refine sm_aload_n cx 0 dX12_value_0 rfl rfl ?_
  refine sm_iload_n cx 1 dX12_value_1 rfl rfl ?_
  refine sm_iload_n cx 2 dX12_value_2 rfl rfl ?_
  refine sm_callV (T := TX12) (N := 47) (toV := vI) cx [.int x1, .int x2] rfl cv_X12_245 (fun a h => ct_X12_isAsked (xZ X) a h x1 x2) (Nat.le_trans (by decide) hfr) (Nat.le_trans (by decide) hlo) rfl (cat_le _ (Nat.le_of_ble_eq_true rfl)) dX12_value_3 (fun v3 => ?_)
  refine sm_if_eq (tgt := 30) cx dX12_value_6 (by decide) ?_ ?_
  · exact sm_lv [] rfl (s_X12_value_30 cx hfr hlo hr)
  · refine sm_iload_n cx 3 dX12_value_9 rfl rfl ?_
    refine sm_if_lt (tgt := 30) cx dX12_value_10 (by decide) ?_ ?_
    · exact sm_lv [] rfl (s_X12_value_30 cx hfr hlo hr)
    · refine sm_iload_n cx 3 dX12_value_13 rfl rfl ?_
      refine sm_aload_n cx 0 dX12_value_14 rfl rfl ?_
      refine sm_getI cx fl_X12_222 dX12_value_15 (fun v15 => ?_)
      refine sm_icmp_ge (tgt := 30) cx dX12_value_18 (by decide) ?_ ?_
      · exact sm_lv [] rfl (s_X12_value_30 cx hfr hlo hr)
      · refine sm_aload_n cx 0 dX12_value_21 rfl rfl ?_
        refine sm_getR cx fl_X12_85 dX12_value_22 (fun v22 => ?_)
        refine sm_iload_n cx 3 dX12_value_25 rfl rfl ?_
        refine sm_iald cx dX12_value_26 (fun v26 => ?_)
        refine sm_goto (tgt := 31) cx dX12_value_27 (by decide) ?_
        exact sm_lv [] rfl (s_X12_value_31 cx hfr hlo hr v26)
set_option maxRecDepth 100000 in
set_option maxHeartbeats 4000000 in
theorem ct_X12_value (Z : Nat → Nat) {r0 : Option Nat} (a0 : Nat) (h0 : r0 = some a0) (x1 : Int32) (x2 : Int32) (x3 : Int32) : Ct yX12_value cX12_value 4 (some .int) 5 125 Z [.ref a0, .int x1, .int x2, .int x3] vI (f_X12_value r0 x1 x2 x3) := by
  subst h0
  refine ct_of (lv0 := [(0, va_rf (some a0)), (1, .int x1), (2, .int x2), (3, .int x3)]) (by decide +kernel) (by simp [lg_sl, ct_i, ct_l, ct_r, rf_cat]) (by show _ = ([(0, Value.ref a0), (1, .int x1), (2, .int x2), (3, .int x3)] : List (Nat × Value)); simp [lv_args, ct_i, ct_l, ct_r, rf_cat]) (fun X cx hZ hfr hlo hr hin => ?_)
  subst hZ
  exact s_X12_value cx (Nat.le_of_eq hfr.symm) (Nat.le_of_eq hlo.symm) hr (some a0) x1 x2 x3
/-! PolicyTreeModel.reason(II)I -/
theorem dX12_reason_0 : decode cX12_reason 0 = .ok (.aload_n 0, 1) := by decide +kernel
theorem dX12_reason_1 : decode cX12_reason 1 = .ok (.iload_n 1, 1) := by decide +kernel
theorem dX12_reason_2 : decode cX12_reason 2 = .ok (.iload_n 2, 1) := by decide +kernel
theorem dX12_reason_3 : decode cX12_reason 3 = .ok (.invokevirtual 245, 3) := by decide +kernel
theorem dX12_reason_6 : decode cX12_reason 6 = .ok (.ifCond .eq 10, 3) := by decide +kernel
theorem dX12_reason_9 : decode cX12_reason 9 = .ok (.aload_n 0, 1) := by decide +kernel
theorem dX12_reason_10 : decode cX12_reason 10 = .ok (.getfield 225, 3) := by decide +kernel
theorem dX12_reason_13 : decode cX12_reason 13 = .ok (.goto 4, 3) := by decide +kernel
theorem dX12_reason_16 : decode cX12_reason 16 = .ok (.iconst 0, 1) := by decide +kernel
theorem dX12_reason_17 : decode cX12_reason 17 = .ok (.ireturn, 1) := by decide +kernel
def f_X12_reason_17 (sx0 : Int32) : Mo Int32 := mp sx0
set_option maxRecDepth 100000 in
set_option maxHeartbeats 4000000 in
theorem s_X12_reason_17 {X : Cg} (cx : Cx X cX12_reason RX12 3) (hfr : 5 ≤ (xR X).frames) (hlo : 125 ≤ (xR X).locals) (hr : (xM X).sig.returnType = (some .int)) (sx0 : Int32) : Sim X 3 (FiM X vI) 17 [] [.int sx0] (f_X12_reason_17 sx0) := by
  unfold f_X12_reason_17
  exact sm_iret cx hr dX12_reason_17
def f_X12_reason (r0 : Option Nat) (x1 : Int32) (x2 : Int32) : Mo Int32 := mb (mo 15 r0 (f_X12_isAsked r0 x1 x2)) (fun v3 => (if v3 = 0 then f_X12_reason_17 (0 : Int32) else mb (gI 15 39 r0) (fun v10 => f_X12_reason_17 v10)))
set_option maxRecDepth 100000 in
set_option maxHeartbeats 4000000 in
theorem s_X12_reason {X : Cg} (cx : Cx X cX12_reason RX12 3) (hfr : 5 ≤ (xR X).frames) (hlo : 125 ≤ (xR X).locals) (hr : (xM X).sig.returnType = (some .int)) (r0 : Option Nat) (x1 : Int32) (x2 : Int32) : Sim X 3 (FiM X vI) 0 [(0, va_rf r0), (1, .int x1), (2, .int x2)] [] (f_X12_reason r0 x1 x2) := by
  unfold f_X12_reason
  refine sm_aload_n cx 0 dX12_reason_0 rfl rfl ?_
  refine sm_iload_n cx 1 dX12_reason_1 rfl rfl ?_
  refine sm_iload_n cx 2 dX12_reason_2 rfl rfl ?_
  refine sm_callV (T := TX12) (N := 47) (toV := vI) cx [.int x1, .int x2] rfl cv_X12_245 (fun a h => ct_X12_isAsked (xZ X) a h x1 x2) (Nat.le_trans (by decide) hfr) (Nat.le_trans (by decide) hlo) rfl (cat_le _ (Nat.le_of_ble_eq_true rfl)) dX12_reason_3 (fun v3 => ?_)
  refine sm_if_eq (tgt := 16) cx dX12_reason_6 (by decide) ?_ ?_
  · refine sm_iconst (v := 0) cx dX12_reason_16 (by decide) ?_
    exact sm_lv [] rfl (s_X12_reason_17 cx hfr hlo hr (0 : Int32))
  · refine sm_aload_n cx 0 dX12_reason_9 rfl rfl ?_
    refine sm_getI cx fl_X12_225 dX12_reason_10 (fun v10 => ?_)
    refine sm_goto (tgt := 17) cx dX12_reason_13 (by decide) ?_
    exact sm_lv [] rfl (s_X12_reason_17 cx hfr hlo hr v10)
set_option maxRecDepth 100000 in
set_option maxHeartbeats 4000000 in
theorem ct_X12_reason (Z : Nat → Nat) {r0 : Option Nat} (a0 : Nat) (h0 : r0 = some a0) (x1 : Int32) (x2 : Int32) : Ct yX12_reason cX12_reason 3 (some .int) 5 125 Z [.ref a0, .int x1, .int x2] vI (f_X12_reason r0 x1 x2) := by
  subst h0
  refine ct_of (lv0 := [(0, va_rf (some a0)), (1, .int x1), (2, .int x2)]) (by decide +kernel) (by simp [lg_sl, ct_i, ct_l, ct_r, rf_cat]) (by show _ = ([(0, Value.ref a0), (1, .int x1), (2, .int x2)] : List (Nat × Value)); simp [lv_args, ct_i, ct_l, ct_r, rf_cat]) (fun X cx hZ hfr hlo hr hin => ?_)
  subst hZ
  exact s_X12_reason cx (Nat.le_of_eq hfr.symm) (Nat.le_of_eq hlo.symm) hr (some a0) x1 x2
/-! PolicyTreeModel.beaten(III)I -/
theorem dX12_beaten_0 : decode cX12_beaten 0 = .ok (.aload_n 0, 1) := by decide +kernel
theorem dX12_beaten_1 : decode cX12_beaten 1 = .ok (.iload_n 1, 1) := by decide +kernel
theorem dX12_beaten_2 : decode cX12_beaten 2 = .ok (.iload_n 2, 1) := by decide +kernel
theorem dX12_beaten_3 : decode cX12_beaten 3 = .ok (.invokevirtual 245, 3) := by decide +kernel
theorem dX12_beaten_6 : decode cX12_beaten 6 = .ok (.ifCond .ne 5, 3) := by decide +kernel
theorem dX12_beaten_9 : decode cX12_beaten 9 = .ok (.iconst 0, 1) := by decide +kernel
theorem dX12_beaten_10 : decode cX12_beaten 10 = .ok (.ireturn, 1) := by decide +kernel
theorem dX12_beaten_11 : decode cX12_beaten 11 = .ok (.iload_n 3, 1) := by decide +kernel
theorem dX12_beaten_12 : decode cX12_beaten 12 = .ok (.istore 4, 2) := by decide +kernel
theorem dX12_beaten_14 : decode cX12_beaten 14 = .ok (.iconst 0, 1) := by decide +kernel
theorem dX12_beaten_15 : decode cX12_beaten 15 = .ok (.istore 5, 2) := by decide +kernel
theorem dX12_beaten_17 : decode cX12_beaten 17 = .ok (.iload 5, 2) := by decide +kernel
theorem dX12_beaten_19 : decode cX12_beaten 19 = .ok (.aload_n 0, 1) := by decide +kernel
theorem dX12_beaten_20 : decode cX12_beaten 20 = .ok (.getfield 215, 3) := by decide +kernel
theorem dX12_beaten_23 : decode cX12_beaten 23 = .ok (.if_icmp .ge 66, 3) := by decide +kernel
theorem dX12_beaten_26 : decode cX12_beaten 26 = .ok (.iload_n 3, 1) := by decide +kernel
theorem dX12_beaten_27 : decode cX12_beaten 27 = .ok (.ifCond .lt 62, 3) := by decide +kernel
theorem dX12_beaten_30 : decode cX12_beaten 30 = .ok (.aload_n 0, 1) := by decide +kernel
theorem dX12_beaten_31 : decode cX12_beaten 31 = .ok (.getfield 82, 3) := by decide +kernel
theorem dX12_beaten_34 : decode cX12_beaten 34 = .ok (.iload 5, 2) := by decide +kernel
theorem dX12_beaten_36 : decode cX12_beaten 36 = .ok (.iaload, 1) := by decide +kernel
theorem dX12_beaten_37 : decode cX12_beaten 37 = .ok (.aload_n 0, 1) := by decide +kernel
theorem dX12_beaten_38 : decode cX12_beaten 38 = .ok (.getfield 225, 3) := by decide +kernel
theorem dX12_beaten_41 : decode cX12_beaten 41 = .ok (.if_icmp .eq 42, 3) := by decide +kernel
theorem dX12_beaten_44 : decode cX12_beaten 44 = .ok (.aload_n 0, 1) := by decide +kernel
theorem dX12_beaten_45 : decode cX12_beaten 45 = .ok (.aload_n 0, 1) := by decide +kernel
theorem dX12_beaten_46 : decode cX12_beaten 46 = .ok (.getfield 55, 3) := by decide +kernel
theorem dX12_beaten_49 : decode cX12_beaten 49 = .ok (.aload_n 0, 1) := by decide +kernel
theorem dX12_beaten_50 : decode cX12_beaten 50 = .ok (.getfield 82, 3) := by decide +kernel
theorem dX12_beaten_53 : decode cX12_beaten 53 = .ok (.iload 5, 2) := by decide +kernel
theorem dX12_beaten_55 : decode cX12_beaten 55 = .ok (.iaload, 1) := by decide +kernel
theorem dX12_beaten_56 : decode cX12_beaten 56 = .ok (.iaload, 1) := by decide +kernel
theorem dX12_beaten_57 : decode cX12_beaten 57 = .ok (.iload_n 2, 1) := by decide +kernel
theorem dX12_beaten_58 : decode cX12_beaten 58 = .ok (.invokevirtual 125, 3) := by decide +kernel
theorem dX12_beaten_61 : decode cX12_beaten 61 = .ok (.ifCond .ne 6, 3) := by decide +kernel
theorem dX12_beaten_64 : decode cX12_beaten 64 = .ok (.goto 19, 3) := by decide +kernel
theorem dX12_beaten_67 : decode cX12_beaten 67 = .ok (.iload 4, 2) := by decide +kernel
theorem dX12_beaten_69 : decode cX12_beaten 69 = .ok (.ifCond .ne 11, 3) := by decide +kernel
theorem dX12_beaten_72 : decode cX12_beaten 72 = .ok (.aload_n 0, 1) := by decide +kernel
theorem dX12_beaten_73 : decode cX12_beaten 73 = .ok (.getfield 82, 3) := by decide +kernel
theorem dX12_beaten_76 : decode cX12_beaten 76 = .ok (.iload 5, 2) := by decide +kernel
theorem dX12_beaten_78 : decode cX12_beaten 78 = .ok (.iaload, 1) := by decide +kernel
theorem dX12_beaten_79 : decode cX12_beaten 79 = .ok (.ireturn, 1) := by decide +kernel
theorem dX12_beaten_80 : decode cX12_beaten 80 = .ok (.iinc 4 (-1), 3) := by decide +kernel
theorem dX12_beaten_83 : decode cX12_beaten 83 = .ok (.iinc 5 1, 3) := by decide +kernel
theorem dX12_beaten_86 : decode cX12_beaten 86 = .ok (.goto (-69), 3) := by decide +kernel
theorem dX12_beaten_89 : decode cX12_beaten 89 = .ok (.iconst (-1), 1) := by decide +kernel
theorem dX12_beaten_90 : decode cX12_beaten 90 = .ok (.ireturn, 1) := by decide +kernel
def f_X12_beaten_83 (k17 : Int32 → Int32 → Mo Int32) (r0 : Option Nat) (x2 : Int32) (x3 : Int32) (x4 : Int32) (x5 : Int32) : Mo Int32 := k17 x4 (x5 + 1)
set_option maxRecDepth 100000 in
set_option maxHeartbeats 4000000 in
theorem s_X12_beaten_83 {X : Cg} (cx : Cx X cX12_beaten RX12 6) (hfr : 5 ≤ (xR X).frames) (hlo : 125 ≤ (xR X).locals) (hr : (xM X).sig.returnType = (some .int)) (r0 : Option Nat) (x2 : Int32) (x3 : Int32) (x4 : Int32) (x5 : Int32) {k17 : Int32 → Int32 → Mo Int32} (hk17 : ∀ (x4 : Int32) (x5 : Int32), Sim X 6 (FiM X vI) 17 [(0, va_rf r0), (2, .int x2), (3, .int x3), (4, .int x4), (5, .int x5)] [] (k17 x4 x5)) : Sim X 6 (FiM X vI) 83 [(0, va_rf r0), (2, .int x2), (3, .int x3), (4, .int x4), (5, .int x5)] [] (f_X12_beaten_83 k17 r0 x2 x3 x4 x5) := by
  unfold f_X12_beaten_83
  refine sm_iinc cx 4 [(5, .int (x5 + 1)), (0, va_rf r0), (2, .int x2), (3, .int x3), (4, .int x4)] dX12_beaten_83 rfl rfl (by decide) rfl (nc1 rfl) rfl ?_
  refine sm_goto (tgt := 17) cx dX12_beaten_86 (by decide) ?_
  exact sm_lv [1, 2, 3, 4, 0] rfl (hk17 x4 (x5 + 1))
def f_X12_beaten_89 : Mo Int32 := mp (-1 : Int32)
set_option maxRecDepth 100000 in
set_option maxHeartbeats 4000000 in
theorem s_X12_beaten_89 {X : Cg} (cx : Cx X cX12_beaten RX12 6) (hfr : 5 ≤ (xR X).frames) (hlo : 125 ≤ (xR X).locals) (hr : (xM X).sig.returnType = (some .int)) : Sim X 6 (FiM X vI) 89 [] [] (f_X12_beaten_89) := by
  unfold f_X12_beaten_89
  refine sm_iconst (v := -1) cx dX12_beaten_89 (by decide) ?_
  exact sm_iret cx hr dX12_beaten_90
def f_X12_beaten_17 (r0 : Option Nat) (x2 : Int32) (x3 : Int32) : Nat → Int32 → Int32 → Mo Int32
  | 0, _, _ => mf
  | n + 1, x4, x5 => mb (gI 15 36 r0) (fun v20 => (if v20 ≤ x5 then f_X12_beaten_89 else (if x3 < 0 then f_X12_beaten_89 else mb (gR 15 35 r0) (fun v31 => mb (aI 1 v31 x5) (fun v36 => mb (gI 15 39 r0) (fun v38 => (if v36 = v38 then f_X12_beaten_83 (f_X12_beaten_17 r0 x2 x3 n) r0 x2 x3 x4 x5 else mb (gR 15 25 r0) (fun v46 => mb (gR 15 35 r0) (fun v50 => mb (aI 1 v50 x5) (fun v55 => mb (aI 1 v46 v55) (fun v56 => mb (mo 15 r0 (f_X12_tells r0 v56 x2)) (fun v58 => (if v58 = 0 then f_X12_beaten_83 (f_X12_beaten_17 r0 x2 x3 n) r0 x2 x3 x4 x5 else (if x4 = 0 then mb (gR 15 35 r0) (fun v73 => mb (aI 1 v73 x5) (fun v78 => mp v78)) else f_X12_beaten_83 (f_X12_beaten_17 r0 x2 x3 n) r0 x2 x3 (x4 + (-1)) x5))))))))))))))
set_option maxRecDepth 100000 in
set_option maxHeartbeats 4000000 in
theorem s_X12_beaten_17 {X : Cg} (cx : Cx X cX12_beaten RX12 6) (hfr : 5 ≤ (xR X).frames) (hlo : 125 ≤ (xR X).locals) (hr : (xM X).sig.returnType = (some .int)) (r0 : Option Nat) (x2 : Int32) (x3 : Int32) : ∀ (n : Nat) (x4 : Int32) (x5 : Int32), Sim X 6 (FiM X vI) 17 [(0, va_rf r0), (2, .int x2), (3, .int x3), (4, .int x4), (5, .int x5)] [] (f_X12_beaten_17 r0 x2 x3 n x4 x5) := by
  intro n
  induction n with
  | zero =>
    intro _ _
    exact sm_mf
  | succ n ih =>
    intro x4 x5
    rw [f_X12_beaten_17]
    refine sm_iload cx 4 dX12_beaten_17 rfl ?_
    refine sm_aload_n cx 0 dX12_beaten_19 rfl rfl ?_
    refine sm_getI cx fl_X12_215 dX12_beaten_20 (fun v20 => ?_)
    refine sm_icmp_ge (tgt := 89) cx dX12_beaten_23 (by decide) ?_ ?_
    · exact sm_lv [] rfl (s_X12_beaten_89 cx hfr hlo hr)
    · refine sm_iload_n cx 2 dX12_beaten_26 rfl rfl ?_
      refine sm_if_lt (tgt := 89) cx dX12_beaten_27 (by decide) ?_ ?_
      · exact sm_lv [] rfl (s_X12_beaten_89 cx hfr hlo hr)
      · refine sm_aload_n cx 0 dX12_beaten_30 rfl rfl ?_
        refine sm_getR cx fl_X12_82 dX12_beaten_31 (fun v31 => ?_)
        refine sm_iload cx 4 dX12_beaten_34 rfl ?_
        refine sm_iald cx dX12_beaten_36 (fun v36 => ?_)
        refine sm_aload_n cx 0 dX12_beaten_37 rfl rfl ?_
        refine sm_getI cx fl_X12_225 dX12_beaten_38 (fun v38 => ?_)
        refine sm_icmp_eq (tgt := 83) cx dX12_beaten_41 (by decide) ?_ ?_
        · exact sm_lv [0, 1, 2, 3, 4] rfl (s_X12_beaten_83 cx hfr hlo hr r0 x2 x3 x4 x5 ih)
        · refine sm_aload_n cx 0 dX12_beaten_44 rfl rfl ?_
          refine sm_aload_n cx 0 dX12_beaten_45 rfl rfl ?_
          refine sm_getR cx fl_X12_55 dX12_beaten_46 (fun v46 => ?_)
          refine sm_aload_n cx 0 dX12_beaten_49 rfl rfl ?_
          refine sm_getR cx fl_X12_82 dX12_beaten_50 (fun v50 => ?_)
          refine sm_iload cx 4 dX12_beaten_53 rfl ?_
          refine sm_iald cx dX12_beaten_55 (fun v55 => ?_)
          refine sm_iald cx dX12_beaten_56 (fun v56 => ?_)
          refine sm_iload_n cx 1 dX12_beaten_57 rfl rfl ?_
          refine sm_callV (T := TX12) (N := 47) (toV := vI) cx [.int v56, .int x2] rfl cv_X12_125 (fun a h => ct_X12_tells (xZ X) a h v56 x2) (Nat.le_trans (by decide) hfr) (Nat.le_trans (by decide) hlo) rfl (cat_le _ (Nat.le_of_ble_eq_true rfl)) dX12_beaten_58 (fun v58 => ?_)
          refine sm_if_ne (tgt := 67) cx dX12_beaten_61 (by decide) ?_ ?_
          · refine sm_iload cx 3 dX12_beaten_67 rfl ?_
            refine sm_if_ne (tgt := 80) cx dX12_beaten_69 (by decide) ?_ ?_
            · refine sm_iinc cx 3 [(4, .int (x4 + (-1))), (0, va_rf r0), (2, .int x2), (3, .int x3), (5, .int x5)] dX12_beaten_80 rfl rfl (by decide) rfl (nc1 rfl) rfl ?_
              exact sm_lv [1, 2, 3, 0, 4] rfl (s_X12_beaten_83 cx hfr hlo hr r0 x2 x3 (x4 + (-1)) x5 ih)
            · refine sm_aload_n cx 0 dX12_beaten_72 rfl rfl ?_
              refine sm_getR cx fl_X12_82 dX12_beaten_73 (fun v73 => ?_)
              refine sm_iload cx 4 dX12_beaten_76 rfl ?_
              refine sm_iald cx dX12_beaten_78 (fun v78 => ?_)
              exact sm_iret cx hr dX12_beaten_79
          · refine sm_goto (tgt := 83) cx dX12_beaten_64 (by decide) ?_
            exact sm_lv [0, 1, 2, 3, 4] rfl (s_X12_beaten_83 cx hfr hlo hr r0 x2 x3 x4 x5 ih)
def f_X12_beaten (r0 : Option Nat) (x1 : Int32) (x2 : Int32) (x3 : Int32) : Mo Int32 := mb (mo 15 r0 (f_X12_isAsked r0 x1 x2)) (fun v3 => (if v3 = 0 then mp (0 : Int32) else f_X12_beaten_17 r0 x2 x3 fuL x3 (0 : Int32)))
set_option maxRecDepth 100000 in
set_option maxHeartbeats 4000000 in
theorem s_X12_beaten {X : Cg} (cx : Cx X cX12_beaten RX12 6) (hfr : 5 ≤ (xR X).frames) (hlo : 125 ≤ (xR X).locals) (hr : (xM X).sig.returnType = (some .int)) (r0 : Option Nat) (x1 : Int32) (x2 : Int32) (x3 : Int32) : Sim X 6 (FiM X vI) 0 [(0, va_rf r0), (1, .int x1), (2, .int x2), (3, .int x3)] [] (f_X12_beaten r0 x1 x2 x3) := by
  unfold f_X12_beaten
  refine sm_aload_n cx 0 dX12_beaten_0 rfl rfl ?_
  refine sm_iload_n cx 1 dX12_beaten_1 rfl rfl ?_
  refine sm_iload_n cx 2 dX12_beaten_2 rfl rfl ?_
  refine sm_callV (T := TX12) (N := 47) (toV := vI) cx [.int x1, .int x2] rfl cv_X12_245 (fun a h => ct_X12_isAsked (xZ X) a h x1 x2) (Nat.le_trans (by decide) hfr) (Nat.le_trans (by decide) hlo) rfl (cat_le _ (Nat.le_of_ble_eq_true rfl)) dX12_beaten_3 (fun v3 => ?_)
  refine sm_if_ne (tgt := 11) cx dX12_beaten_6 (by decide) ?_ ?_
  · refine sm_iload_n cx 3 dX12_beaten_11 rfl rfl ?_
    refine sm_istore cx [(4, .int x3), (0, va_rf r0), (1, .int x1), (2, .int x2), (3, .int x3)] dX12_beaten_12 (by decide) rfl (nc1 rfl) rfl ?_
    refine sm_iconst (v := 0) cx dX12_beaten_14 (by decide) ?_
    refine sm_istore cx [(5, .int (0 : Int32)), (4, .int x3), (0, va_rf r0), (1, .int x1), (2, .int x2), (3, .int x3)] dX12_beaten_15 (by decide) rfl (nc1 rfl) rfl ?_
    exact sm_lv [2, 4, 5, 1, 0] rfl (s_X12_beaten_17 cx hfr hlo hr r0 x2 x3 fuL x3 (0 : Int32))
  · refine sm_iconst (v := 0) cx dX12_beaten_9 (by decide) ?_
    exact sm_iret cx hr dX12_beaten_10
set_option maxRecDepth 100000 in
set_option maxHeartbeats 4000000 in
theorem ct_X12_beaten (Z : Nat → Nat) {r0 : Option Nat} (a0 : Nat) (h0 : r0 = some a0) (x1 : Int32) (x2 : Int32) (x3 : Int32) : Ct yX12_beaten cX12_beaten 6 (some .int) 5 125 Z [.ref a0, .int x1, .int x2, .int x3] vI (f_X12_beaten r0 x1 x2 x3) := by
  subst h0
  refine ct_of (lv0 := [(0, va_rf (some a0)), (1, .int x1), (2, .int x2), (3, .int x3)]) (by decide +kernel) (by simp [lg_sl, ct_i, ct_l, ct_r, rf_cat]) (by show _ = ([(0, Value.ref a0), (1, .int x1), (2, .int x2), (3, .int x3)] : List (Nat × Value)); simp [lv_args, ct_i, ct_l, ct_r, rf_cat]) (fun X cx hZ hfr hlo hr hin => ?_)
  subst hZ
  exact s_X12_beaten cx (Nat.le_of_eq hfr.symm) (Nat.le_of_eq hlo.symm) hr (some a0) x1 x2 x3
/-! PolicyTreeModel.keepsThem()V -/
theorem dX12_keepsThem_0 : decode cX12_keepsThem 0 = .ok (.aload_n 0, 1) := by decide +kernel
theorem dX12_keepsThem_1 : decode cX12_keepsThem 1 = .ok (.aload_n 0, 1) := by decide +kernel
theorem dX12_keepsThem_2 : decode cX12_keepsThem 2 = .ok (.getfield 222, 3) := by decide +kernel
theorem dX12_keepsThem_5 : decode cX12_keepsThem 5 = .ok (.putfield 248, 3) := by decide +kernel
theorem dX12_keepsThem_8 : decode cX12_keepsThem 8 = .ok (.iconst 0, 1) := by decide +kernel
theorem dX12_keepsThem_9 : decode cX12_keepsThem 9 = .ok (.istore_n 1, 1) := by decide +kernel
theorem dX12_keepsThem_10 : decode cX12_keepsThem 10 = .ok (.iload_n 1, 1) := by decide +kernel
theorem dX12_keepsThem_11 : decode cX12_keepsThem 11 = .ok (.aload_n 0, 1) := by decide +kernel
theorem dX12_keepsThem_12 : decode cX12_keepsThem 12 = .ok (.getfield 222, 3) := by decide +kernel
theorem dX12_keepsThem_15 : decode cX12_keepsThem 15 = .ok (.if_icmp .ge 21, 3) := by decide +kernel
theorem dX12_keepsThem_18 : decode cX12_keepsThem 18 = .ok (.aload_n 0, 1) := by decide +kernel
theorem dX12_keepsThem_19 : decode cX12_keepsThem 19 = .ok (.getfield 88, 3) := by decide +kernel
theorem dX12_keepsThem_22 : decode cX12_keepsThem 22 = .ok (.iload_n 1, 1) := by decide +kernel
theorem dX12_keepsThem_23 : decode cX12_keepsThem 23 = .ok (.aload_n 0, 1) := by decide +kernel
theorem dX12_keepsThem_24 : decode cX12_keepsThem 24 = .ok (.getfield 85, 3) := by decide +kernel
theorem dX12_keepsThem_27 : decode cX12_keepsThem 27 = .ok (.iload_n 1, 1) := by decide +kernel
theorem dX12_keepsThem_28 : decode cX12_keepsThem 28 = .ok (.iaload, 1) := by decide +kernel
theorem dX12_keepsThem_29 : decode cX12_keepsThem 29 = .ok (.iastore, 1) := by decide +kernel
theorem dX12_keepsThem_30 : decode cX12_keepsThem 30 = .ok (.iinc 1 1, 3) := by decide +kernel
theorem dX12_keepsThem_33 : decode cX12_keepsThem 33 = .ok (.goto (-23), 3) := by decide +kernel
theorem dX12_keepsThem_36 : decode cX12_keepsThem 36 = .ok (.return_, 1) := by decide +kernel
def f_X12_keepsThem_10 (r0 : Option Nat) : Nat → Int32 → Mo Unit
  | 0, _ => mf
  | n + 1, x1 => mb (gI 15 38 r0) (fun v12 => (if v12 ≤ x1 then mp () else mb (gR 15 40 r0) (fun v19 => mb (gR 15 37 r0) (fun v24 => mb (aI 1 v24 x1) (fun v28 => mb (sI 1 v19 x1 v28) (fun _ => (f_X12_keepsThem_10 r0 n) (x1 + 1)))))))
set_option maxRecDepth 100000 in
set_option maxHeartbeats 4000000 in
theorem s_X12_keepsThem_10 {X : Cg} (cx : Cx X cX12_keepsThem RX12 2) (hfr : 0 ≤ (xR X).frames) (hlo : 0 ≤ (xR X).locals) (hr : (xM X).sig.returnType = none) (r0 : Option Nat) : ∀ (n : Nat) (x1 : Int32), Sim X 2 (FiM X vV) 10 [(0, va_rf r0), (1, .int x1)] [] (f_X12_keepsThem_10 r0 n x1) := by
  intro n
  induction n with
  | zero =>
    intro _
    exact sm_mf
  | succ n ih =>
    intro x1
    rw [f_X12_keepsThem_10]
    refine sm_iload_n cx 1 dX12_keepsThem_10 rfl rfl ?_
    refine sm_aload_n cx 0 dX12_keepsThem_11 rfl rfl ?_
    refine sm_getI cx fl_X12_222 dX12_keepsThem_12 (fun v12 => ?_)
    refine sm_icmp_ge (tgt := 36) cx dX12_keepsThem_15 (by decide) ?_ ?_
    · exact sm_vret cx hr dX12_keepsThem_36
    · refine sm_aload_n cx 0 dX12_keepsThem_18 rfl rfl ?_
      refine sm_getR cx fl_X12_88 dX12_keepsThem_19 (fun v19 => ?_)
      refine sm_iload_n cx 1 dX12_keepsThem_22 rfl rfl ?_
      refine sm_aload_n cx 0 dX12_keepsThem_23 rfl rfl ?_
      refine sm_getR cx fl_X12_85 dX12_keepsThem_24 (fun v24 => ?_)
      refine sm_iload_n cx 1 dX12_keepsThem_27 rfl rfl ?_
      refine sm_iald cx dX12_keepsThem_28 (fun v28 => ?_)
      refine sm_iast cx dX12_keepsThem_29 ?_
      refine sm_iinc cx 1 [(1, .int (x1 + 1)), (0, va_rf r0)] dX12_keepsThem_30 rfl rfl (by decide) rfl (nc1 (rf_cat _)) rfl ?_
      refine sm_goto (tgt := 10) cx dX12_keepsThem_33 (by decide) ?_
      exact sm_lv [1, 0] rfl (ih (x1 + 1))
def f_X12_keepsThem (r0 : Option Nat) : Mo Unit := mb (gI 15 38 r0) (fun v2 => mb (pV 15 41 r0 (.int v2)) (fun _ => f_X12_keepsThem_10 r0 fuL (0 : Int32)))
set_option maxRecDepth 100000 in
set_option maxHeartbeats 4000000 in
theorem s_X12_keepsThem {X : Cg} (cx : Cx X cX12_keepsThem RX12 2) (hfr : 0 ≤ (xR X).frames) (hlo : 0 ≤ (xR X).locals) (hr : (xM X).sig.returnType = none) (r0 : Option Nat) : Sim X 2 (FiM X vV) 0 [(0, va_rf r0)] [] (f_X12_keepsThem r0) := by
  unfold f_X12_keepsThem
  refine sm_aload_n cx 0 dX12_keepsThem_0 rfl rfl ?_
  refine sm_aload_n cx 0 dX12_keepsThem_1 rfl rfl ?_
  refine sm_getI cx fl_X12_222 dX12_keepsThem_2 (fun v2 => ?_)
  refine sm_putV cx fl_X12_248 rfl rfl dX12_keepsThem_5 ?_
  refine sm_iconst (v := 0) cx dX12_keepsThem_8 (by decide) ?_
  refine sm_istore_n cx [(1, .int (0 : Int32)), (0, va_rf r0)] dX12_keepsThem_9 rfl (by decide) rfl (nc1 (rf_cat _)) rfl ?_
  exact sm_lv [1, 0] rfl (s_X12_keepsThem_10 cx hfr hlo hr r0 fuL (0 : Int32))
set_option maxRecDepth 100000 in
set_option maxHeartbeats 4000000 in
theorem ct_X12_keepsThem (Z : Nat → Nat) {r0 : Option Nat} (a0 : Nat) (h0 : r0 = some a0) : Ct yX12_keepsThem cX12_keepsThem 2 none 0 0 Z [.ref a0] vV (f_X12_keepsThem r0) := by
  subst h0
  refine ct_of (lv0 := [(0, va_rf (some a0))]) (by decide +kernel) (by simp [lg_sl, ct_i, ct_l, ct_r, rf_cat]) (by show _ = ([(0, Value.ref a0)] : List (Nat × Value)); simp [lv_args, ct_i, ct_l, ct_r, rf_cat]) (fun X cx hZ hfr hlo hr hin => ?_)
  subst hZ
  exact s_X12_keepsThem cx (Nat.le_of_eq hfr.symm) (Nat.le_of_eq hlo.symm) hr (some a0)
/-! PolicyTreeModel.isAsKept()Z -/
theorem dX12_isAsKept_0 : decode cX12_isAsKept 0 = .ok (.aload_n 0, 1) := by decide +kernel
theorem dX12_isAsKept_1 : decode cX12_isAsKept 1 = .ok (.getfield 248, 3) := by decide +kernel
theorem dX12_isAsKept_4 : decode cX12_isAsKept 4 = .ok (.aload_n 0, 1) := by decide +kernel
theorem dX12_isAsKept_5 : decode cX12_isAsKept 5 = .ok (.getfield 222, 3) := by decide +kernel
theorem dX12_isAsKept_8 : decode cX12_isAsKept 8 = .ok (.if_icmp .ne 7, 3) := by decide +kernel
theorem dX12_isAsKept_11 : decode cX12_isAsKept 11 = .ok (.iconst 1, 1) := by decide +kernel
theorem dX12_isAsKept_12 : decode cX12_isAsKept 12 = .ok (.goto 4, 3) := by decide +kernel
theorem dX12_isAsKept_15 : decode cX12_isAsKept 15 = .ok (.iconst 0, 1) := by decide +kernel
theorem dX12_isAsKept_16 : decode cX12_isAsKept 16 = .ok (.istore_n 1, 1) := by decide +kernel
theorem dX12_isAsKept_17 : decode cX12_isAsKept 17 = .ok (.iconst 0, 1) := by decide +kernel
theorem dX12_isAsKept_18 : decode cX12_isAsKept 18 = .ok (.istore_n 2, 1) := by decide +kernel
theorem dX12_isAsKept_19 : decode cX12_isAsKept 19 = .ok (.iload_n 2, 1) := by decide +kernel
theorem dX12_isAsKept_20 : decode cX12_isAsKept 20 = .ok (.aload_n 0, 1) := by decide +kernel
theorem dX12_isAsKept_21 : decode cX12_isAsKept 21 = .ok (.getfield 222, 3) := by decide +kernel
theorem dX12_isAsKept_24 : decode cX12_isAsKept 24 = .ok (.if_icmp .ge 34, 3) := by decide +kernel
theorem dX12_isAsKept_27 : decode cX12_isAsKept 27 = .ok (.iload_n 1, 1) := by decide +kernel
theorem dX12_isAsKept_28 : decode cX12_isAsKept 28 = .ok (.ifCond .eq 30, 3) := by decide +kernel
theorem dX12_isAsKept_31 : decode cX12_isAsKept 31 = .ok (.aload_n 0, 1) := by decide +kernel
theorem dX12_isAsKept_32 : decode cX12_isAsKept 32 = .ok (.getfield 88, 3) := by decide +kernel
theorem dX12_isAsKept_35 : decode cX12_isAsKept 35 = .ok (.iload_n 2, 1) := by decide +kernel
theorem dX12_isAsKept_36 : decode cX12_isAsKept 36 = .ok (.iaload, 1) := by decide +kernel
theorem dX12_isAsKept_37 : decode cX12_isAsKept 37 = .ok (.aload_n 0, 1) := by decide +kernel
theorem dX12_isAsKept_38 : decode cX12_isAsKept 38 = .ok (.getfield 85, 3) := by decide +kernel
theorem dX12_isAsKept_41 : decode cX12_isAsKept 41 = .ok (.iload_n 2, 1) := by decide +kernel
theorem dX12_isAsKept_42 : decode cX12_isAsKept 42 = .ok (.iaload, 1) := by decide +kernel
theorem dX12_isAsKept_43 : decode cX12_isAsKept 43 = .ok (.if_icmp .ne 7, 3) := by decide +kernel
theorem dX12_isAsKept_46 : decode cX12_isAsKept 46 = .ok (.iconst 1, 1) := by decide +kernel
theorem dX12_isAsKept_47 : decode cX12_isAsKept 47 = .ok (.goto 4, 3) := by decide +kernel
theorem dX12_isAsKept_50 : decode cX12_isAsKept 50 = .ok (.iconst 0, 1) := by decide +kernel
theorem dX12_isAsKept_51 : decode cX12_isAsKept 51 = .ok (.istore_n 1, 1) := by decide +kernel
theorem dX12_isAsKept_52 : decode cX12_isAsKept 52 = .ok (.iinc 2 1, 3) := by decide +kernel
theorem dX12_isAsKept_55 : decode cX12_isAsKept 55 = .ok (.goto (-36), 3) := by decide +kernel
theorem dX12_isAsKept_58 : decode cX12_isAsKept 58 = .ok (.iload_n 1, 1) := by decide +kernel
theorem dX12_isAsKept_59 : decode cX12_isAsKept 59 = .ok (.ireturn, 1) := by decide +kernel
def f_X12_isAsKept_51 (k19 : Int32 → Int32 → Mo Int32) (r0 : Option Nat) (x2 : Int32) (sx0 : Int32) : Mo Int32 := k19 sx0 (x2 + 1)
set_option maxRecDepth 100000 in
set_option maxHeartbeats 4000000 in
theorem s_X12_isAsKept_51 {X : Cg} (cx : Cx X cX12_isAsKept RX12 3) (hfr : 0 ≤ (xR X).frames) (hlo : 0 ≤ (xR X).locals) (hr : (xM X).sig.returnType = (some .boolean)) (r0 : Option Nat) (x2 : Int32) (sx0 : Int32) {k19 : Int32 → Int32 → Mo Int32} (hk19 : ∀ (x1 : Int32) (x2 : Int32), Sim X 3 (FiM X vI) 19 [(0, va_rf r0), (1, .int x1), (2, .int x2)] [] (k19 x1 x2)) : Sim X 3 (FiM X vI) 51 [(0, va_rf r0), (2, .int x2)] [.int sx0] (f_X12_isAsKept_51 k19 r0 x2 sx0) := by
  unfold f_X12_isAsKept_51
  refine sm_istore_n cx [(1, .int sx0), (0, va_rf r0), (2, .int x2)] dX12_isAsKept_51 rfl (by decide) rfl (nc1 (rf_cat _)) rfl ?_
  refine sm_iinc cx 2 [(2, .int (x2 + 1)), (1, .int sx0), (0, va_rf r0)] dX12_isAsKept_52 rfl rfl (by decide) rfl (nc1 rfl) rfl ?_
  refine sm_goto (tgt := 19) cx dX12_isAsKept_55 (by decide) ?_
  exact sm_lv [2, 1, 0] rfl (hk19 sx0 (x2 + 1))
def f_X12_isAsKept_58 (x1 : Int32) : Mo Int32 := rz .boolean x1
set_option maxRecDepth 100000 in
set_option maxHeartbeats 4000000 in
theorem s_X12_isAsKept_58 {X : Cg} (cx : Cx X cX12_isAsKept RX12 3) (hfr : 0 ≤ (xR X).frames) (hlo : 0 ≤ (xR X).locals) (hr : (xM X).sig.returnType = (some .boolean)) (x1 : Int32) : Sim X 3 (FiM X vI) 58 [(1, .int x1)] [] (f_X12_isAsKept_58 x1) := by
  unfold f_X12_isAsKept_58
  refine sm_iload_n cx 0 dX12_isAsKept_58 rfl rfl ?_
  exact sm_zret cx hr dX12_isAsKept_59
def f_X12_isAsKept_19 (r0 : Option Nat) : Nat → Int32 → Int32 → Mo Int32
  | 0, _, _ => mf
  | n + 1, x1, x2 => mb (gI 15 38 r0) (fun v21 => (if v21 ≤ x2 then f_X12_isAsKept_58 x1 else (if x1 = 0 then f_X12_isAsKept_58 x1 else mb (gR 15 40 r0) (fun v32 => mb (aI 1 v32 x2) (fun v36 => mb (gR 15 37 r0) (fun v38 => mb (aI 1 v38 x2) (fun v42 => (if v36 = v42 then f_X12_isAsKept_51 (f_X12_isAsKept_19 r0 n) r0 x2 (1 : Int32) else f_X12_isAsKept_51 (f_X12_isAsKept_19 r0 n) r0 x2 (0 : Int32)))))))))
set_option maxRecDepth 100000 in
set_option maxHeartbeats 4000000 in
theorem s_X12_isAsKept_19 {X : Cg} (cx : Cx X cX12_isAsKept RX12 3) (hfr : 0 ≤ (xR X).frames) (hlo : 0 ≤ (xR X).locals) (hr : (xM X).sig.returnType = (some .boolean)) (r0 : Option Nat) : ∀ (n : Nat) (x1 : Int32) (x2 : Int32), Sim X 3 (FiM X vI) 19 [(0, va_rf r0), (1, .int x1), (2, .int x2)] [] (f_X12_isAsKept_19 r0 n x1 x2) := by
  intro n
  induction n with
  | zero =>
    intro _ _
    exact sm_mf
  | succ n ih =>
    intro x1 x2
    rw [f_X12_isAsKept_19]
    refine sm_iload_n cx 2 dX12_isAsKept_19 rfl rfl ?_
    refine sm_aload_n cx 0 dX12_isAsKept_20 rfl rfl ?_
    refine sm_getI cx fl_X12_222 dX12_isAsKept_21 (fun v21 => ?_)
    refine sm_icmp_ge (tgt := 58) cx dX12_isAsKept_24 (by decide) ?_ ?_
    · exact sm_lv [1] rfl (s_X12_isAsKept_58 cx hfr hlo hr x1)
    · refine sm_iload_n cx 1 dX12_isAsKept_27 rfl rfl ?_
      refine sm_if_eq (tgt := 58) cx dX12_isAsKept_28 (by decide) ?_ ?_
      · exact sm_lv [1] rfl (s_X12_isAsKept_58 cx hfr hlo hr x1)
      · refine sm_aload_n cx 0 dX12_isAsKept_31 rfl rfl ?_
        refine sm_getR cx fl_X12_88 dX12_isAsKept_32 (fun v32 => ?_)
        refine sm_iload_n cx 2 dX12_isAsKept_35 rfl rfl ?_
        refine sm_iald cx dX12_isAsKept_36 (fun v36 => ?_)
        refine sm_aload_n cx 0 dX12_isAsKept_37 rfl rfl ?_
        refine sm_getR cx fl_X12_85 dX12_isAsKept_38 (fun v38 => ?_)
        refine sm_iload_n cx 2 dX12_isAsKept_41 rfl rfl ?_
        refine sm_iald cx dX12_isAsKept_42 (fun v42 => ?_)
        refine sm_icmp_ne (tgt := 50) cx dX12_isAsKept_43 (by decide) ?_ ?_
        · refine sm_iconst (v := 0) cx dX12_isAsKept_50 (by decide) ?_
          exact sm_lv [0, 2] rfl (s_X12_isAsKept_51 cx hfr hlo hr r0 x2 (0 : Int32) ih)
        · refine sm_iconst (v := 1) cx dX12_isAsKept_46 (by decide) ?_
          refine sm_goto (tgt := 51) cx dX12_isAsKept_47 (by decide) ?_
          exact sm_lv [0, 2] rfl (s_X12_isAsKept_51 cx hfr hlo hr r0 x2 (1 : Int32) ih)
def f_X12_isAsKept_16 (r0 : Option Nat) (sx0 : Int32) : Mo Int32 := f_X12_isAsKept_19 r0 fuL sx0 (0 : Int32)
set_option maxRecDepth 100000 in
set_option maxHeartbeats 4000000 in
theorem s_X12_isAsKept_16 {X : Cg} (cx : Cx X cX12_isAsKept RX12 3) (hfr : 0 ≤ (xR X).frames) (hlo : 0 ≤ (xR X).locals) (hr : (xM X).sig.returnType = (some .boolean)) (r0 : Option Nat) (sx0 : Int32) : Sim X 3 (FiM X vI) 16 [(0, va_rf r0)] [.int sx0] (f_X12_isAsKept_16 r0 sx0) := by
  unfold f_X12_isAsKept_16
  refine sm_istore_n cx [(1, .int sx0), (0, va_rf r0)] dX12_isAsKept_16 rfl (by decide) rfl (nc1 (rf_cat _)) rfl ?_
  refine sm_iconst (v := 0) cx dX12_isAsKept_17 (by decide) ?_
  refine sm_istore_n cx [(2, .int (0 : Int32)), (1, .int sx0), (0, va_rf r0)] dX12_isAsKept_18 rfl (by decide) rfl (nc1 rfl) rfl ?_
  exact sm_lv [2, 1, 0] rfl (s_X12_isAsKept_19 cx hfr hlo hr r0 fuL sx0 (0 : Int32))
def f_X12_isAsKept (r0 : Option Nat) : Mo Int32 := mb (gI 15 41 r0) (fun v1 => mb (gI 15 38 r0) (fun v5 => (if v1 = v5 then f_X12_isAsKept_16 r0 (1 : Int32) else f_X12_isAsKept_16 r0 (0 : Int32))))
set_option maxRecDepth 100000 in
set_option maxHeartbeats 4000000 in
theorem s_X12_isAsKept {X : Cg} (cx : Cx X cX12_isAsKept RX12 3) (hfr : 0 ≤ (xR X).frames) (hlo : 0 ≤ (xR X).locals) (hr : (xM X).sig.returnType = (some .boolean)) (r0 : Option Nat) : Sim X 3 (FiM X vI) 0 [(0, va_rf r0)] [] (f_X12_isAsKept r0) := by
  unfold f_X12_isAsKept
  refine sm_aload_n cx 0 dX12_isAsKept_0 rfl rfl ?_
  refine sm_getI cx fl_X12_248 dX12_isAsKept_1 (fun v1 => ?_)
  refine sm_aload_n cx 0 dX12_isAsKept_4 rfl rfl ?_
  refine sm_getI cx fl_X12_222 dX12_isAsKept_5 (fun v5 => ?_)
  refine sm_icmp_ne (tgt := 15) cx dX12_isAsKept_8 (by decide) ?_ ?_
  · refine sm_iconst (v := 0) cx dX12_isAsKept_15 (by decide) ?_
    exact sm_lv [0] rfl (s_X12_isAsKept_16 cx hfr hlo hr r0 (0 : Int32))
  · refine sm_iconst (v := 1) cx dX12_isAsKept_11 (by decide) ?_
    refine sm_goto (tgt := 16) cx dX12_isAsKept_12 (by decide) ?_
    exact sm_lv [0] rfl (s_X12_isAsKept_16 cx hfr hlo hr r0 (1 : Int32))
set_option maxRecDepth 100000 in
set_option maxHeartbeats 4000000 in
theorem ct_X12_isAsKept (Z : Nat → Nat) {r0 : Option Nat} (a0 : Nat) (h0 : r0 = some a0) : Ct yX12_isAsKept cX12_isAsKept 3 (some .boolean) 0 0 Z [.ref a0] vI (f_X12_isAsKept r0) := by
  subst h0
  refine ct_of (lv0 := [(0, va_rf (some a0))]) (by decide +kernel) (by simp [lg_sl, ct_i, ct_l, ct_r, rf_cat]) (by show _ = ([(0, Value.ref a0)] : List (Nat × Value)); simp [lv_args, ct_i, ct_l, ct_r, rf_cat]) (fun X cx hZ hfr hlo hr hin => ?_)
  subst hZ
  exact s_X12_isAsKept cx (Nat.le_of_eq hfr.symm) (Nat.le_of_eq hlo.symm) hr (some a0)
/-! PolicyTreeModel.sure(II)Z -/
theorem dX12_sure_0 : decode cX12_sure 0 = .ok (.aload_n 0, 1) := by decide +kernel
theorem dX12_sure_1 : decode cX12_sure 1 = .ok (.iload_n 1, 1) := by decide +kernel
theorem dX12_sure_2 : decode cX12_sure 2 = .ok (.iload_n 2, 1) := by decide +kernel
theorem dX12_sure_3 : decode cX12_sure 3 = .ok (.invokevirtual 245, 3) := by decide +kernel
theorem dX12_sure_6 : decode cX12_sure 6 = .ok (.ifCond .ne 5, 3) := by decide +kernel
theorem dX12_sure_9 : decode cX12_sure 9 = .ok (.iconst 0, 1) := by decide +kernel
theorem dX12_sure_10 : decode cX12_sure 10 = .ok (.ireturn, 1) := by decide +kernel
theorem dX12_sure_11 : decode cX12_sure 11 = .ok (.aload_n 0, 1) := by decide +kernel
theorem dX12_sure_12 : decode cX12_sure 12 = .ok (.invokevirtual 251, 3) := by decide +kernel
theorem dX12_sure_15 : decode cX12_sure 15 = .ok (.iconst 0, 1) := by decide +kernel
theorem dX12_sure_16 : decode cX12_sure 16 = .ok (.istore_n 3, 1) := by decide +kernel
theorem dX12_sure_17 : decode cX12_sure 17 = .ok (.iconst 0, 1) := by decide +kernel
theorem dX12_sure_18 : decode cX12_sure 18 = .ok (.istore 4, 2) := by decide +kernel
theorem dX12_sure_20 : decode cX12_sure 20 = .ok (.iload 4, 2) := by decide +kernel
theorem dX12_sure_22 : decode cX12_sure 22 = .ok (.bipush 8, 2) := by decide +kernel
theorem dX12_sure_24 : decode cX12_sure 24 = .ok (.if_icmp .ge 36, 3) := by decide +kernel
theorem dX12_sure_27 : decode cX12_sure 27 = .ok (.iload_n 3, 1) := by decide +kernel
theorem dX12_sure_28 : decode cX12_sure 28 = .ok (.aload_n 0, 1) := by decide +kernel
theorem dX12_sure_29 : decode cX12_sure 29 = .ok (.getfield 20, 3) := by decide +kernel
theorem dX12_sure_32 : decode cX12_sure 32 = .ok (.bipush 8, 2) := by decide +kernel
theorem dX12_sure_34 : decode cX12_sure 34 = .ok (.iload_n 1, 1) := by decide +kernel
theorem dX12_sure_35 : decode cX12_sure 35 = .ok (.imul, 1) := by decide +kernel
theorem dX12_sure_36 : decode cX12_sure 36 = .ok (.iload 4, 2) := by decide +kernel
theorem dX12_sure_38 : decode cX12_sure 38 = .ok (.iadd, 1) := by decide +kernel
theorem dX12_sure_39 : decode cX12_sure 39 = .ok (.iaload, 1) := by decide +kernel
theorem dX12_sure_40 : decode cX12_sure 40 = .ok (.iconst (-1), 1) := by decide +kernel
theorem dX12_sure_41 : decode cX12_sure 41 = .ok (.if_icmp .ne 10, 3) := by decide +kernel
theorem dX12_sure_44 : decode cX12_sure 44 = .ok (.iconst 1, 1) := by decide +kernel
theorem dX12_sure_45 : decode cX12_sure 45 = .ok (.iload 4, 2) := by decide +kernel
theorem dX12_sure_47 : decode cX12_sure 47 = .ok (.ishl, 1) := by decide +kernel
theorem dX12_sure_48 : decode cX12_sure 48 = .ok (.goto 4, 3) := by decide +kernel
theorem dX12_sure_51 : decode cX12_sure 51 = .ok (.iconst 0, 1) := by decide +kernel
theorem dX12_sure_52 : decode cX12_sure 52 = .ok (.ior, 1) := by decide +kernel
theorem dX12_sure_53 : decode cX12_sure 53 = .ok (.istore_n 3, 1) := by decide +kernel
theorem dX12_sure_54 : decode cX12_sure 54 = .ok (.iinc 4 1, 3) := by decide +kernel
theorem dX12_sure_57 : decode cX12_sure 57 = .ok (.goto (-37), 3) := by decide +kernel
theorem dX12_sure_60 : decode cX12_sure 60 = .ok (.aload_n 0, 1) := by decide +kernel
theorem dX12_sure_61 : decode cX12_sure 61 = .ok (.iload_n 1, 1) := by decide +kernel
theorem dX12_sure_62 : decode cX12_sure 62 = .ok (.invokevirtual 235, 3) := by decide +kernel
theorem dX12_sure_65 : decode cX12_sure 65 = .ok (.istore 4, 2) := by decide +kernel
theorem dX12_sure_67 : decode cX12_sure 67 = .ok (.iload_n 3, 1) := by decide +kernel
theorem dX12_sure_68 : decode cX12_sure 68 = .ok (.istore 5, 2) := by decide +kernel
theorem dX12_sure_70 : decode cX12_sure 70 = .ok (.iload 5, 2) := by decide +kernel
theorem dX12_sure_72 : decode cX12_sure 72 = .ok (.ifCond .le 39, 3) := by decide +kernel
theorem dX12_sure_75 : decode cX12_sure 75 = .ok (.aload_n 0, 1) := by decide +kernel
theorem dX12_sure_76 : decode cX12_sure 76 = .ok (.iload_n 1, 1) := by decide +kernel
theorem dX12_sure_77 : decode cX12_sure 77 = .ok (.iload 4, 2) := by decide +kernel
theorem dX12_sure_79 : decode cX12_sure 79 = .ok (.iload 5, 2) := by decide +kernel
theorem dX12_sure_81 : decode cX12_sure 81 = .ok (.ior, 1) := by decide +kernel
theorem dX12_sure_82 : decode cX12_sure 82 = .ok (.iconst (-1), 1) := by decide +kernel
theorem dX12_sure_83 : decode cX12_sure 83 = .ok (.invokevirtual 238, 3) := by decide +kernel
theorem dX12_sure_86 : decode cX12_sure 86 = .ok (.aload_n 0, 1) := by decide +kernel
theorem dX12_sure_87 : decode cX12_sure 87 = .ok (.iload_n 2, 1) := by decide +kernel
theorem dX12_sure_88 : decode cX12_sure 88 = .ok (.invokevirtual 242, 3) := by decide +kernel
theorem dX12_sure_91 : decode cX12_sure 91 = .ok (.aload_n 0, 1) := by decide +kernel
theorem dX12_sure_92 : decode cX12_sure 92 = .ok (.invokevirtual 254, 3) := by decide +kernel
theorem dX12_sure_95 : decode cX12_sure 95 = .ok (.ifCond .ne 5, 3) := by decide +kernel
theorem dX12_sure_98 : decode cX12_sure 98 = .ok (.iconst 0, 1) := by decide +kernel
theorem dX12_sure_99 : decode cX12_sure 99 = .ok (.ireturn, 1) := by decide +kernel
theorem dX12_sure_100 : decode cX12_sure 100 = .ok (.iload 5, 2) := by decide +kernel
theorem dX12_sure_102 : decode cX12_sure 102 = .ok (.iconst 1, 1) := by decide +kernel
theorem dX12_sure_103 : decode cX12_sure 103 = .ok (.isub, 1) := by decide +kernel
theorem dX12_sure_104 : decode cX12_sure 104 = .ok (.iload_n 3, 1) := by decide +kernel
theorem dX12_sure_105 : decode cX12_sure 105 = .ok (.iand, 1) := by decide +kernel
theorem dX12_sure_106 : decode cX12_sure 106 = .ok (.istore 5, 2) := by decide +kernel
theorem dX12_sure_108 : decode cX12_sure 108 = .ok (.goto (-38), 3) := by decide +kernel
theorem dX12_sure_111 : decode cX12_sure 111 = .ok (.iconst 1, 1) := by decide +kernel
theorem dX12_sure_112 : decode cX12_sure 112 = .ok (.ireturn, 1) := by decide +kernel
def f_X12_sure_52 (k20 : Int32 → Int32 → Mo Int32) (r0 : Option Nat) (x1 : Int32) (x2 : Int32) (x4 : Int32) (sx0 : Int32) (sx1 : Int32) : Mo Int32 := k20 (sx0 ||| sx1) (x4 + 1)
set_option maxRecDepth 100000 in
set_option maxHeartbeats 4000000 in
theorem s_X12_sure_52 {X : Cg} (cx : Cx X cX12_sure RX12 6) (hfr : 5 ≤ (xR X).frames) (hlo : 125 ≤ (xR X).locals) (hr : (xM X).sig.returnType = (some .boolean)) (r0 : Option Nat) (x1 : Int32) (x2 : Int32) (x4 : Int32) (sx0 : Int32) (sx1 : Int32) {k20 : Int32 → Int32 → Mo Int32} (hk20 : ∀ (x3 : Int32) (x4 : Int32), Sim X 6 (FiM X vI) 20 [(0, va_rf r0), (1, .int x1), (2, .int x2), (3, .int x3), (4, .int x4)] [] (k20 x3 x4)) : Sim X 6 (FiM X vI) 52 [(0, va_rf r0), (1, .int x1), (2, .int x2), (4, .int x4)] [.int sx1, .int sx0] (f_X12_sure_52 k20 r0 x1 x2 x4 sx0 sx1) := by
  unfold f_X12_sure_52
  refine sm_ior cx dX12_sure_52 ?_
  refine sm_istore_n cx [(3, .int (sx0 ||| sx1)), (0, va_rf r0), (1, .int x1), (2, .int x2), (4, .int x4)] dX12_sure_53 rfl (by decide) rfl (nc1 rfl) rfl ?_
  refine sm_iinc cx 4 [(4, .int (x4 + 1)), (3, .int (sx0 ||| sx1)), (0, va_rf r0), (1, .int x1), (2, .int x2)] dX12_sure_54 rfl rfl (by decide) rfl (nc1 rfl) rfl ?_
  refine sm_goto (tgt := 20) cx dX12_sure_57 (by decide) ?_
  exact sm_lv [2, 3, 4, 1, 0] rfl (hk20 (sx0 ||| sx1) (x4 + 1))
def f_X12_sure_70 (r0 : Option Nat) (x1 : Int32) (x2 : Int32) (x3 : Int32) (x4 : Int32) : Nat → Int32 → Mo Int32
  | 0, _ => mf
  | n + 1, x5 => (if x5 ≤ 0 then rz .boolean (1 : Int32) else mb (mo 15 r0 (f_X12_makes r0 x1 (x4 ||| x5) (-1 : Int32))) (fun _ => mb (mo 15 r0 (f_X12_outcomes r0 x2)) (fun _ => mb (mo 15 r0 (f_X12_isAsKept r0)) (fun v92 => (if v92 = 0 then rz .boolean (0 : Int32) else (f_X12_sure_70 r0 x1 x2 x3 x4 n) ((x5 - (1 : Int32)) &&& x3))))))
set_option maxRecDepth 100000 in
set_option maxHeartbeats 4000000 in
theorem s_X12_sure_70 {X : Cg} (cx : Cx X cX12_sure RX12 6) (hfr : 5 ≤ (xR X).frames) (hlo : 125 ≤ (xR X).locals) (hr : (xM X).sig.returnType = (some .boolean)) (r0 : Option Nat) (x1 : Int32) (x2 : Int32) (x3 : Int32) (x4 : Int32) : ∀ (n : Nat) (x5 : Int32), Sim X 6 (FiM X vI) 70 [(0, va_rf r0), (1, .int x1), (2, .int x2), (3, .int x3), (4, .int x4), (5, .int x5)] [] (f_X12_sure_70 r0 x1 x2 x3 x4 n x5) := by
  intro n
  induction n with
  | zero =>
    intro _
    exact sm_mf
  | succ n ih =>
    intro x5
    rw [f_X12_sure_70]
    refine sm_iload cx 5 dX12_sure_70 rfl ?_
    refine sm_if_le (tgt := 111) cx dX12_sure_72 (by decide) ?_ ?_
    · refine sm_iconst (v := 1) cx dX12_sure_111 (by decide) ?_
      exact sm_zret cx hr dX12_sure_112
    · refine sm_aload_n cx 0 dX12_sure_75 rfl rfl ?_
      refine sm_iload_n cx 1 dX12_sure_76 rfl rfl ?_
      refine sm_iload cx 4 dX12_sure_77 rfl ?_
      refine sm_iload cx 5 dX12_sure_79 rfl ?_
      refine sm_ior cx dX12_sure_81 ?_
      refine sm_iconst (v := -1) cx dX12_sure_82 (by decide) ?_
      refine sm_callV (T := TX12) (N := 47) (toV := vV) cx [.int x1, .int (x4 ||| x5), .int (-1 : Int32)] rfl cv_X12_238 (fun a h => ct_X12_makes (xZ X) a h x1 (x4 ||| x5) (-1 : Int32)) (Nat.le_trans (by decide) hfr) (Nat.le_trans (by decide) hlo) rfl (cat_le _ (Nat.le_of_ble_eq_true rfl)) dX12_sure_83 (fun _ => ?_)
      refine sm_aload_n cx 0 dX12_sure_86 rfl rfl ?_
      refine sm_iload_n cx 2 dX12_sure_87 rfl rfl ?_
      refine sm_callV (T := TX12) (N := 47) (toV := vV) cx [.int x2] rfl cv_X12_242 (fun a h => ct_X12_outcomes (xZ X) a h x2) (Nat.le_trans (by decide) hfr) (Nat.le_trans (by decide) hlo) rfl (cat_le _ (Nat.le_of_ble_eq_true rfl)) dX12_sure_88 (fun _ => ?_)
      refine sm_aload_n cx 0 dX12_sure_91 rfl rfl ?_
      refine sm_callV (T := TX12) (N := 47) (toV := vI) cx [] rfl cv_X12_254 (fun a h => ct_X12_isAsKept (xZ X) a h) (Nat.le_trans (by decide) hfr) (Nat.le_trans (by decide) hlo) rfl (cat_le _ (Nat.le_of_ble_eq_true rfl)) dX12_sure_92 (fun v92 => ?_)
      refine sm_if_ne (tgt := 100) cx dX12_sure_95 (by decide) ?_ ?_
      · refine sm_iload cx 5 dX12_sure_100 rfl ?_
        refine sm_iconst (v := 1) cx dX12_sure_102 (by decide) ?_
        refine sm_isub cx dX12_sure_103 ?_
        refine sm_iload_n cx 3 dX12_sure_104 rfl rfl ?_
        refine sm_iand cx dX12_sure_105 ?_
        refine sm_istore cx [(5, .int ((x5 - (1 : Int32)) &&& x3)), (0, va_rf r0), (1, .int x1), (2, .int x2), (3, .int x3), (4, .int x4)] dX12_sure_106 (by decide) rfl (nc1 rfl) rfl ?_
        refine sm_goto (tgt := 70) cx dX12_sure_108 (by decide) ?_
        exact sm_lv [1, 2, 3, 4, 5, 0] rfl (ih ((x5 - (1 : Int32)) &&& x3))
      · refine sm_iconst (v := 0) cx dX12_sure_98 (by decide) ?_
        exact sm_zret cx hr dX12_sure_99
def f_X12_sure_20 (r0 : Option Nat) (x1 : Int32) (x2 : Int32) : Nat → Int32 → Int32 → Mo Int32
  | 0, _, _ => mf
  | n + 1, x3, x4 => (if (8 : Int32) ≤ x4 then mb (mo 15 r0 (f_X12_yesOf r0 x1)) (fun v62 => f_X12_sure_70 r0 x1 x2 x3 v62 fuL x3) else mb (gR 15 5 r0) (fun v29 => mb (aI 1 v29 (((8 : Int32) * x1) + x4)) (fun v39 => (if v39 = (-1 : Int32) then f_X12_sure_52 (f_X12_sure_20 r0 x1 x2 n) r0 x1 x2 x4 x3 ((1 : Int32) <<< (x4 &&& 31)) else f_X12_sure_52 (f_X12_sure_20 r0 x1 x2 n) r0 x1 x2 x4 x3 (0 : Int32)))))
set_option maxRecDepth 100000 in
set_option maxHeartbeats 4000000 in
theorem s_X12_sure_20 {X : Cg} (cx : Cx X cX12_sure RX12 6) (hfr : 5 ≤ (xR X).frames) (hlo : 125 ≤ (xR X).locals) (hr : (xM X).sig.returnType = (some .boolean)) (r0 : Option Nat) (x1 : Int32) (x2 : Int32) : ∀ (n : Nat) (x3 : Int32) (x4 : Int32), Sim X 6 (FiM X vI) 20 [(0, va_rf r0), (1, .int x1), (2, .int x2), (3, .int x3), (4, .int x4)] [] (f_X12_sure_20 r0 x1 x2 n x3 x4) := by
  intro n
  induction n with
  | zero =>
    intro _ _
    exact sm_mf
  | succ n ih =>
    intro x3 x4
    rw [f_X12_sure_20]
    refine sm_iload cx 4 dX12_sure_20 rfl ?_
    refine sm_bipush (v := 8) cx dX12_sure_22 (by decide) ?_
    refine sm_icmp_ge (tgt := 60) cx dX12_sure_24 (by decide) ?_ ?_
    · refine sm_aload_n cx 0 dX12_sure_60 rfl rfl ?_
      refine sm_iload_n cx 1 dX12_sure_61 rfl rfl ?_
      refine sm_callV (T := TX12) (N := 47) (toV := vI) cx [.int x1] rfl cv_X12_235 (fun a h => ct_X12_yesOf (xZ X) a h x1) (Nat.le_trans (by decide) hfr) (Nat.le_trans (by decide) hlo) rfl (cat_le _ (Nat.le_of_ble_eq_true rfl)) dX12_sure_62 (fun v62 => ?_)
      refine sm_istore cx [(4, .int v62), (0, va_rf r0), (1, .int x1), (2, .int x2), (3, .int x3)] dX12_sure_65 (by decide) rfl (nc1 rfl) rfl ?_
      refine sm_iload_n cx 4 dX12_sure_67 rfl rfl ?_
      refine sm_istore cx [(5, .int x3), (4, .int v62), (0, va_rf r0), (1, .int x1), (2, .int x2), (3, .int x3)] dX12_sure_68 (by decide) rfl (nc1 rfl) rfl ?_
      exact sm_lv [2, 3, 4, 5, 1, 0] rfl (s_X12_sure_70 cx hfr hlo hr r0 x1 x2 x3 v62 fuL x3)
    · refine sm_iload_n cx 3 dX12_sure_27 rfl rfl ?_
      refine sm_aload_n cx 0 dX12_sure_28 rfl rfl ?_
      refine sm_getR cx fl_X12_20 dX12_sure_29 (fun v29 => ?_)
      refine sm_bipush (v := 8) cx dX12_sure_32 (by decide) ?_
      refine sm_iload_n cx 1 dX12_sure_34 rfl rfl ?_
      refine sm_imul cx dX12_sure_35 ?_
      refine sm_iload cx 4 dX12_sure_36 rfl ?_
      refine sm_iadd cx dX12_sure_38 ?_
      refine sm_iald cx dX12_sure_39 (fun v39 => ?_)
      refine sm_iconst (v := -1) cx dX12_sure_40 (by decide) ?_
      refine sm_icmp_ne (tgt := 51) cx dX12_sure_41 (by decide) ?_ ?_
      · refine sm_iconst (v := 0) cx dX12_sure_51 (by decide) ?_
        exact sm_lv [0, 1, 2, 4] rfl (s_X12_sure_52 cx hfr hlo hr r0 x1 x2 x4 x3 (0 : Int32) ih)
      · refine sm_iconst (v := 1) cx dX12_sure_44 (by decide) ?_
        refine sm_iload cx 4 dX12_sure_45 rfl ?_
        refine sm_ishl cx dX12_sure_47 ?_
        refine sm_goto (tgt := 52) cx dX12_sure_48 (by decide) ?_
        exact sm_lv [0, 1, 2, 4] rfl (s_X12_sure_52 cx hfr hlo hr r0 x1 x2 x4 x3 ((1 : Int32) <<< (x4 &&& 31)) ih)
def f_X12_sure (r0 : Option Nat) (x1 : Int32) (x2 : Int32) : Mo Int32 := mb (mo 15 r0 (f_X12_isAsked r0 x1 x2)) (fun v3 => (if v3 = 0 then rz .boolean (0 : Int32) else mb (mo 15 r0 (f_X12_keepsThem r0)) (fun _ => f_X12_sure_20 r0 x1 x2 fuL (0 : Int32) (0 : Int32))))
set_option maxRecDepth 100000 in
set_option maxHeartbeats 4000000 in
theorem s_X12_sure {X : Cg} (cx : Cx X cX12_sure RX12 6) (hfr : 5 ≤ (xR X).frames) (hlo : 125 ≤ (xR X).locals) (hr : (xM X).sig.returnType = (some .boolean)) (r0 : Option Nat) (x1 : Int32) (x2 : Int32) : Sim X 6 (FiM X vI) 0 [(0, va_rf r0), (1, .int x1), (2, .int x2)] [] (f_X12_sure r0 x1 x2) := by
  unfold f_X12_sure
  refine sm_aload_n cx 0 dX12_sure_0 rfl rfl ?_
  refine sm_iload_n cx 1 dX12_sure_1 rfl rfl ?_
  refine sm_iload_n cx 2 dX12_sure_2 rfl rfl ?_
  refine sm_callV (T := TX12) (N := 47) (toV := vI) cx [.int x1, .int x2] rfl cv_X12_245 (fun a h => ct_X12_isAsked (xZ X) a h x1 x2) (Nat.le_trans (by decide) hfr) (Nat.le_trans (by decide) hlo) rfl (cat_le _ (Nat.le_of_ble_eq_true rfl)) dX12_sure_3 (fun v3 => ?_)
  refine sm_if_ne (tgt := 11) cx dX12_sure_6 (by decide) ?_ ?_
  · refine sm_aload_n cx 0 dX12_sure_11 rfl rfl ?_
    refine sm_callV (T := TX12) (N := 47) (toV := vV) cx [] rfl cv_X12_251 (fun a h => ct_X12_keepsThem (xZ X) a h) (Nat.le_trans (by decide) hfr) (Nat.le_trans (by decide) hlo) rfl (cat_le _ (Nat.le_of_ble_eq_true rfl)) dX12_sure_12 (fun _ => ?_)
    refine sm_iconst (v := 0) cx dX12_sure_15 (by decide) ?_
    refine sm_istore_n cx [(3, .int (0 : Int32)), (0, va_rf r0), (1, .int x1), (2, .int x2)] dX12_sure_16 rfl (by decide) rfl (nc1 rfl) rfl ?_
    refine sm_iconst (v := 0) cx dX12_sure_17 (by decide) ?_
    refine sm_istore cx [(4, .int (0 : Int32)), (3, .int (0 : Int32)), (0, va_rf r0), (1, .int x1), (2, .int x2)] dX12_sure_18 (by decide) rfl (nc1 rfl) rfl ?_
    exact sm_lv [2, 3, 4, 1, 0] rfl (s_X12_sure_20 cx hfr hlo hr r0 x1 x2 fuL (0 : Int32) (0 : Int32))
  · refine sm_iconst (v := 0) cx dX12_sure_9 (by decide) ?_
    exact sm_zret cx hr dX12_sure_10
set_option maxRecDepth 100000 in
set_option maxHeartbeats 4000000 in
theorem ct_X12_sure (Z : Nat → Nat) {r0 : Option Nat} (a0 : Nat) (h0 : r0 = some a0) (x1 : Int32) (x2 : Int32) : Ct yX12_sure cX12_sure 6 (some .boolean) 5 125 Z [.ref a0, .int x1, .int x2] vI (f_X12_sure r0 x1 x2) := by
  subst h0
  refine ct_of (lv0 := [(0, va_rf (some a0)), (1, .int x1), (2, .int x2)]) (by decide +kernel) (by simp [lg_sl, ct_i, ct_l, ct_r, rf_cat]) (by show _ = ([(0, Value.ref a0), (1, .int x1), (2, .int x2)] : List (Nat × Value)); simp [lv_args, ct_i, ct_l, ct_r, rf_cat]) (fun X cx hZ hfr hlo hr hin => ?_)
  subst hZ
  exact s_X12_sure cx (Nat.le_of_eq hfr.symm) (Nat.le_of_eq hlo.symm) hr (some a0) x1 x2
