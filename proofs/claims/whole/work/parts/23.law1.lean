/-! ===== what one turn of the law asks ===== -/
/-- the reading of out, then the rest -/
def StepR (R : Room) (rd : Mo Int64) (w : Int64) (J' : Hs → Nat → Nat → Prop) (h : Hs) (c0 n0 : Nat) : Prop := rd h = some (w, h, 0, 0) ∧ J' h c0 n0 ∧ c0 ≤ R.cells ∧ n0 ≤ R.slots
def StepO (rd : Mo Int64) (tl : Int32 → Int64) (J' : Hs → Nat → Nat → Prop) (v b : Int32) (h : Hs) (c0 n0 : Nat) : Prop := (v = 0 → rd h = some (tl b, h, 0, 0)) ∧ J' h c0 n0
def StepT (R : Room) (ft : Mo Int32) (rd : Mo Int64) (tl : Int32 → Int64) (J' : Hs → Nat → Nat → Prop) (v b : Int32) (h : Hs) (c0 n0 : Nat) : Prop := ∃ h1 c n, ft h = some (v, h1, c, n) ∧ StepO rd tl J' v b h1 (c0 + c) (n0 + n) ∧ c0 + c ≤ R.cells ∧ n0 + n ≤ R.slots
def StepM (R : Room) (fm ft : Mo Int32) (rd : Mo Int64) (tl : Int32 → Int64) (J' : Hs → Nat → Nat → Prop) (v : Int32) (h : Hs) (c0 n0 : Nat) : Prop := ∃ b h1 c n, fm h = some (b, h1, c, n) ∧ StepT R ft rd tl J' v b h1 (c0 + c) (n0 + n) ∧ c0 + c ≤ R.cells ∧ n0 + n ≤ R.slots
/-- a call by a helper: the class's answer v, the reference's b, what the reference threw is v; then out holds b -/
def StepA (R : Room) (fh fm ft : Mo Int32) (rd : Mo Int64) (tl : Int32 → Int64) (J' : Hs → Nat → Nat → Prop) (h : Hs) (c0 n0 : Nat) : Prop := ∃ v h1 c n, fh h = some (v, h1, c, n) ∧ (∀ sz, (∀ q, sz ≤ q → h1.1 q = none) → StepM R fm ft rd tl J' v (h1.1, sz) (c0 + c) (n0 + n)) ∧ c0 + c ≤ R.cells ∧ n0 + n ≤ R.slots
/-- a call that throws nothing: both answer v -/
def StepE (R : Room) (fm : Mo Int32) (J' : Hs → Nat → Nat → Prop) (v : Int32) (h : Hs) (c0 n0 : Nat) : Prop := ∃ h1 c n, fm h = some (v, h1, c, n) ∧ J' h1 (c0 + c) (n0 + n) ∧ c0 + c ≤ R.cells ∧ n0 + n ≤ R.slots
def StepD (R : Room) (fx fm : Mo Int32) (J' : Hs → Nat → Nat → Prop) (h : Hs) (c0 n0 : Nat) : Prop := ∃ v h1 c n, fx h = some (v, h1, c, n) ∧ StepE R fm J' v h1 (c0 + c) (n0 + n) ∧ c0 + c ≤ R.cells ∧ n0 + n ≤ R.slots
theorem lg_self (x : Int64) : lg_cmp x x = 0 := by
  unfold lg_cmp
  simp
section LWH
variable {X : Cg} {nL : Nat} {Q : State → Prop} {pc : Nat} {lv : List (Nat × Value)} {st stk : List Value} {cc : ByteArray} {own : String} {Φ : Hs → Nat → Nat → Prop}
theorem sb_ofb (k : ∀ a b, Sim X nL (fun (_ : Unit) (_ : Hs) => Q) pc lv st (kB (xR X) Φ a b)) : SimB X nL Q pc lv st Φ := k
theorem sb_gob (k : SimB X nL Q pc lv st Φ) (a b : Nat) : Sim X nL (fun (_ : Unit) (_ : Hs) => Q) pc lv st (kB (xR X) Φ a b) := k a b
theorem sb_room (k : SimB X nL Q pc lv st (fun h c n => Φ h c n ∧ c ≤ (xR X).cells ∧ n ≤ (xR X).slots)) : SimB X nL Q pc lv st Φ := by
  obtain ⟨p, l, e, R, s, m, args, below, meth, c, D, cy, A, Z⟩ := X
  exact sb_mk fun g c0 n0 hΦ hc hn H locs ls hH hS hl => sb_use k ⟨hΦ, hc, hn⟩ hc hn hH hS hl
theorem sb_lv (ks : List Nat) {lv' : List (Nat × Value)} (hp : lv_pick lv ks = lv') (kk : SimB X nL Q pc lv' st Φ) : SimB X nL Q pc lv st Φ := fun a b => sm_lv ks hp (kk a b)
theorem sm_sldE {α : Type} {Fi : α → Hs → State → Prop} {k : Mo α} (cx : Cx X cc own nL) {b L : Nat} {xs : Nat → Int32} (hX : va_X b L xs (xS X) (xS X).heap) (hbl : b < (xS X).heap.size) (hbA : ¬ xA X b) {i v : Int32} (hin : vp_in i L) (hv : xs i.toNatClampNeg = v) (hd : decode cc pc = .ok (.iaload, 1)) (kk : Sim X nL Fi (pc + 1) lv (.int v :: st) k) : Sim X nL Fi pc lv (.int i :: va_rf (some b) :: st) k := by
  subst hv
  exact sm_sld cx hX hbl hbA hin hd kk
end LWH
theorem cw_L_98 : CalW RL 98 yL_node cL_node 4 (some .int) [(0, 9, 12, 13), (0, 9, 15, 15)] 3 := ⟨⟨wd_2_167, wd_2_168, wd_1_0, wd_2_169⟩, by decide +kernel, by decide +kernel, by decide +kernel⟩
theorem cv_L_103_ : CalV RL 103 RX12 yX12_node cX12_node 2 (some .int) 1 := ⟨wd_V wd_7_34 wd_7_35 wd_7_36 wd_1_16 wd_7_37, rfl, by decide +kernel, by decide +kernel, by decide +kernel⟩
theorem cv_L_104_ : CalV RL 104 RX12 yX12_thrown cX12_thrown 1 (some .int) 0 := ⟨wd_V wd_7_30 wd_7_31 wd_7_32 wd_1_16 wd_7_33, rfl, by decide +kernel, by decide +kernel, by decide +kernel⟩
theorem cw_L_107 : CalW RL 107 yL_block cL_block 5 (some .int) [(0, 17, 20, 13)] 4 := ⟨⟨wd_3_25, wd_3_26, wd_1_0, wd_3_27⟩, by decide +kernel, by decide +kernel, by decide +kernel⟩
theorem cv_L_110_ : CalV RL 110 RX12 yX12_block cX12_block 4 (some .boolean) 2 := ⟨wd_V wd_7_46 wd_7_47 wd_7_48 wd_1_16 wd_7_49, rfl, by decide +kernel, by decide +kernel, by decide +kernel⟩
theorem cw_L_111 : CalW RL 111 yL_move cL_move 5 (some .int) [(0, 10, 13, 13)] 4 := ⟨⟨wd_3_32, wd_3_33, wd_1_0, wd_3_34⟩, by decide +kernel, by decide +kernel, by decide +kernel⟩
theorem cv_L_114_ : CalV RL 114 RX12 yX12_move cX12_move 9 (some .int) 2 := ⟨wd_V wd_8_6 wd_8_7 wd_8_8 wd_1_16 wd_8_9, rfl, by decide +kernel, by decide +kernel, by decide +kernel⟩
theorem cw_L_115 : CalW RL 115 yL_machine cL_machine 4 (some .int) [(0, 9, 12, 13), (0, 9, 15, 15)] 3 := ⟨⟨wd_3_164, wd_3_165, wd_1_0, wd_3_166⟩, by decide +kernel, by decide +kernel, by decide +kernel⟩
theorem cv_L_117_ : CalV RL 117 RX12 yX12_machine cX12_machine 3 (some .int) 1 := ⟨wd_V wd_7_50 wd_7_51 wd_7_52 wd_1_16 wd_7_53, rfl, by decide +kernel, by decide +kernel, by decide +kernel⟩
theorem cw_L_118 : CalW RL 118 yL_fact cL_fact 6 (some .int) [(0, 12, 15, 13), (0, 12, 19, 32)] 5 := ⟨⟨wd_3_188, wd_3_189, wd_1_0, wd_3_190⟩, by decide +kernel, by decide +kernel, by decide +kernel⟩
theorem cv_L_121_ : CalV RL 121 RX12 yX12_fact cX12_fact 5 (some .int) 3 := ⟨wd_V wd_7_54 wd_7_55 wd_7_56 wd_1_16 wd_7_57, rfl, by decide +kernel, by decide +kernel, by decide +kernel⟩
theorem cw_L_122 : CalW RL 122 yL_group cL_group 3 (some .int) [(0, 8, 11, 15)] 2 := ⟨⟨wd_3_224, wd_3_225, wd_1_0, wd_3_226⟩, by decide +kernel, by decide +kernel, by decide +kernel⟩
theorem cv_L_125_ : CalV RL 125 RX12 yX12_group cX12_group 1 (some .int) 0 := ⟨wd_V wd_7_58 wd_7_59 wd_7_60 wd_1_16 wd_7_61, rfl, by decide +kernel, by decide +kernel, by decide +kernel⟩
theorem cw_L_126 : CalW RL 126 yL_joins cL_joins 6 (some .int) [(0, 19, 22, 13)] 5 := ⟨⟨wd_3_235, wd_3_236, wd_1_0, wd_3_237⟩, by decide +kernel, by decide +kernel, by decide +kernel⟩
theorem cv_L_129_ : CalV RL 129 RX12 yX12_joins cX12_joins 5 (some .boolean) 3 := ⟨wd_V wd_7_62 wd_7_63 wd_7_64 wd_1_16 wd_7_65, rfl, by decide +kernel, by decide +kernel, by decide +kernel⟩
theorem cw_L_130 : CalW RL 130 yL_within cL_within 6 (some .int) [(0, 19, 22, 13)] 5 := ⟨⟨wd_4_7, wd_4_8, wd_1_0, wd_4_9⟩, by decide +kernel, by decide +kernel, by decide +kernel⟩
theorem cv_L_132_ : CalV RL 132 RX12 yX12_within cX12_within 5 (some .boolean) 3 := ⟨wd_V wd_7_66 wd_7_67 wd_7_68 wd_1_16 wd_7_69, rfl, by decide +kernel, by decide +kernel, by decide +kernel⟩
theorem cw_L_133 : CalW RL 133 yL_member cL_member 5 (some .int) [(0, 17, 20, 13)] 4 := ⟨⟨wd_4_18, wd_4_19, wd_1_0, wd_4_20⟩, by decide +kernel, by decide +kernel, by decide +kernel⟩
theorem cv_L_135_ : CalV RL 135 RX12 yX12_member cX12_member 3 (some .boolean) 2 := ⟨wd_V wd_7_70 wd_7_71 wd_7_72 wd_1_16 wd_7_73, rfl, by decide +kernel, by decide +kernel, by decide +kernel⟩
theorem cw_L_136 : CalW RL 136 yL_set cL_set 3 (some .int) [(0, 8, 11, 15)] 2 := ⟨⟨wd_4_25, wd_4_26, wd_1_0, wd_4_27⟩, by decide +kernel, by decide +kernel, by decide +kernel⟩
theorem cv_L_138_ : CalV RL 138 RX12 yX12_set cX12_set 1 (some .int) 0 := ⟨wd_V wd_7_78 wd_7_79 wd_7_80 wd_1_16 wd_7_81, rfl, by decide +kernel, by decide +kernel, by decide +kernel⟩
theorem cw_L_139 : CalW RL 139 yL_tell cL_tell 6 (some .int) [(0, 19, 22, 13), (0, 19, 26, 32)] 5 := ⟨⟨wd_4_45, wd_4_46, wd_1_0, wd_4_47⟩, by decide +kernel, by decide +kernel, by decide +kernel⟩
theorem cv_L_141_ : CalV RL 141 RX12 yX12_tell cX12_tell 5 (some .boolean) 3 := ⟨wd_V wd_7_82 wd_7_83 wd_7_84 wd_1_16 wd_7_85, rfl, by decide +kernel, by decide +kernel, by decide +kernel⟩
theorem cw_L_142 : CalW RL 142 yL_untell cL_untell 5 (some .int) [(0, 17, 20, 13), (0, 17, 24, 32)] 4 := ⟨⟨wd_4_57, wd_4_58, wd_1_0, wd_4_59⟩, by decide +kernel, by decide +kernel, by decide +kernel⟩
theorem cv_L_144_ : CalV RL 144 RX12 yX12_untell cX12_untell 4 (some .boolean) 2 := ⟨wd_V wd_7_93 wd_7_94 wd_7_95 wd_1_16 wd_7_96, rfl, by decide +kernel, by decide +kernel, by decide +kernel⟩
theorem cw_L_145 : CalW RL 145 yL_law cL_law 5 (some .int) [(0, 10, 13, 32)] 4 := ⟨⟨wd_4_68, wd_4_69, wd_1_0, wd_4_70⟩, by decide +kernel, by decide +kernel, by decide +kernel⟩
theorem cv_L_147_ : CalV RL 147 RX12 yX12_law cX12_law 4 (some .int) 2 := ⟨wd_V wd_7_97 wd_7_98 wd_7_99 wd_1_16 wd_7_100, rfl, by decide +kernel, by decide +kernel, by decide +kernel⟩
theorem cv_L_148_ : CalV RL 148 RX11 yX11_feed cX11_feed 6 (some .int) 5 := ⟨wd_V wd_2_92 wd_2_93 wd_2_94 wd_1_1 wd_2_95, rfl, by decide +kernel, by decide +kernel, by decide +kernel⟩
theorem cv_L_152_ : CalV RL 152 RX12 yX12_feed cX12_feed 9 (some .int) 5 := ⟨wd_V wd_7_101 wd_7_102 wd_7_103 wd_1_16 wd_7_104, rfl, by decide +kernel, by decide +kernel, by decide +kernel⟩
theorem cw_L_153 : CalW RL 153 yL_link cL_link 8 (some .int) [(0, 16, 19, 13), (0, 16, 23, 32), (0, 16, 27, 15)] 7 := ⟨⟨wd_4_75, wd_4_76, wd_1_0, wd_4_77⟩, by decide +kernel, by decide +kernel, by decide +kernel⟩
theorem cv_L_156_ : CalV RL 156 RX12 yX12_link cX12_link 8 (some .int) 5 := ⟨wd_V wd_7_105 wd_7_106 wd_7_107 wd_1_16 wd_7_108, rfl, by decide +kernel, by decide +kernel, by decide +kernel⟩
theorem cv_L_157_ : CalV RL 157 RX11 yX11_fault cX11_fault 1 (some .int) 0 := ⟨wd_V wd_2_108 wd_2_109 wd_2_110 wd_1_1 wd_2_111, rfl, by decide +kernel, by decide +kernel, by decide +kernel⟩
theorem cv_L_160_ : CalV RL 160 RX12 yX12_fault cX12_fault 1 (some .int) 0 := ⟨wd_V wd_7_161 wd_7_162 wd_7_163 wd_1_16 wd_7_164, rfl, by decide +kernel, by decide +kernel, by decide +kernel⟩
theorem cw_L_161 : CalW RL 161 yL_end cL_end 4 (some .int) [(0, 16, 19, 13)] 3 := ⟨⟨wd_6_0, wd_6_1, wd_1_0, wd_6_2⟩, by decide +kernel, by decide +kernel, by decide +kernel⟩
theorem cv_L_163_ : CalV RL 163 RX12 yX12_end cX12_end 3 (some .boolean) 1 := ⟨wd_V wd_7_165 wd_7_166 wd_7_167 wd_1_16 wd_7_168, rfl, by decide +kernel, by decide +kernel, by decide +kernel⟩
theorem cw_L_164 : CalW RL 164 yL_outcome cL_outcome 5 (some .int) [(0, 10, 13, 13), (0, 10, 17, 32)] 4 := ⟨⟨wd_6_19, wd_6_20, wd_1_0, wd_6_21⟩, by decide +kernel, by decide +kernel, by decide +kernel⟩
theorem cv_L_166_ : CalV RL 166 RX12 yX12_outcome cX12_outcome 3 (some .int) 2 := ⟨wd_V wd_7_169 wd_7_170 wd_7_171 wd_1_16 wd_7_172, rfl, by decide +kernel, by decide +kernel, by decide +kernel⟩
theorem cw_L_167 : CalW RL 167 yL_value cL_value 6 (some .int) [(0, 12, 15, 13), (0, 12, 19, 32)] 5 := ⟨⟨wd_6_34, wd_6_35, wd_1_0, wd_6_36⟩, by decide +kernel, by decide +kernel, by decide +kernel⟩
theorem cv_L_169_ : CalV RL 169 RX12 yX12_value cX12_value 4 (some .int) 3 := ⟨wd_V wd_7_209 wd_7_210 wd_7_211 wd_1_16 wd_7_212, rfl, by decide +kernel, by decide +kernel, by decide +kernel⟩
theorem cw_L_170 : CalW RL 170 yL_reason cL_reason 5 (some .int) [(0, 10, 13, 13), (0, 10, 17, 32)] 4 := ⟨⟨wd_6_42, wd_6_43, wd_1_0, wd_6_44⟩, by decide +kernel, by decide +kernel, by decide +kernel⟩
theorem cv_L_172_ : CalV RL 172 RX12 yX12_reason cX12_reason 3 (some .int) 2 := ⟨wd_V wd_7_213 wd_7_214 wd_7_215 wd_1_16 wd_7_216, rfl, by decide +kernel, by decide +kernel, by decide +kernel⟩
theorem cw_L_173 : CalW RL 173 yL_beaten cL_beaten 6 (some .int) [(0, 12, 15, 13), (0, 12, 19, 32)] 5 := ⟨⟨wd_6_53, wd_6_54, wd_1_0, wd_6_55⟩, by decide +kernel, by decide +kernel, by decide +kernel⟩
theorem cv_L_175_ : CalV RL 175 RX12 yX12_beaten cX12_beaten 6 (some .int) 3 := ⟨wd_V wd_7_217 wd_7_218 wd_7_219 wd_1_16 wd_7_220, rfl, by decide +kernel, by decide +kernel, by decide +kernel⟩
theorem cw_L_176 : CalW RL 176 yL_sure cL_sure 5 (some .int) [(0, 17, 20, 13), (0, 17, 24, 32)] 4 := ⟨⟨wd_6_63, wd_6_64, wd_1_0, wd_6_65⟩, by decide +kernel, by decide +kernel, by decide +kernel⟩
theorem cv_L_178_ : CalV RL 178 RX12 yX12_sure cX12_sure 6 (some .boolean) 2 := ⟨wd_V wd_7_221 wd_7_222 wd_7_223 wd_1_16 wd_7_224, rfl, by decide +kernel, by decide +kernel, by decide +kernel⟩
theorem cw_L_179 : CalW RL 179 yL_reach cL_reach 4 (some .int) [(0, 9, 12, 13)] 3 := ⟨⟨wd_6_86, wd_6_87, wd_1_0, wd_6_88⟩, by decide +kernel, by decide +kernel, by decide +kernel⟩
theorem cv_L_181_ : CalV RL 181 RX12 yX12_reach cX12_reach 2 (some .int) 1 := ⟨wd_V wd_7_233 wd_7_234 wd_7_235 wd_1_16 wd_7_236, rfl, by decide +kernel, by decide +kernel, by decide +kernel⟩
theorem cw_L_182 : CalW RL 182 yL_reached cL_reached 6 (some .int) [(0, 12, 15, 13), (0, 12, 19, 32)] 5 := ⟨⟨wd_6_103, wd_6_104, wd_1_0, wd_6_105⟩, by decide +kernel, by decide +kernel, by decide +kernel⟩
theorem cv_L_184_ : CalV RL 184 RX12 yX12_reached cX12_reached 4 (some .int) 3 := ⟨wd_V wd_8_2 wd_8_3 wd_8_4 wd_1_16 wd_8_5, rfl, by decide +kernel, by decide +kernel, by decide +kernel⟩
theorem cv_L_185_ : CalV RL 185 RX11 yX11_quarrels cX11_quarrels 4 (some .int) 0 := ⟨wd_V wd_2_112 wd_2_113 wd_2_114 wd_1_1 wd_2_115, rfl, by decide +kernel, by decide +kernel, by decide +kernel⟩
theorem cv_L_188_ : CalV RL 188 RX12 yX12_quarrels cX12_quarrels 1 (some .int) 0 := ⟨wd_V wd_8_10 wd_8_11 wd_8_12 wd_1_16 wd_8_13, rfl, by decide +kernel, by decide +kernel, by decide +kernel⟩
theorem cw_L_189 : CalW RL 189 yL_quarrel cL_quarrel 5 (some .int) [(0, 10, 13, 32)] 4 := ⟨⟨wd_6_110, wd_6_111, wd_1_0, wd_6_112⟩, by decide +kernel, by decide +kernel, by decide +kernel⟩
theorem cv_L_191_ : CalV RL 191 RX12 yX12_quarrel cX12_quarrel 3 (some .int) 2 := ⟨wd_V wd_8_22 wd_8_23 wd_8_24 wd_1_16 wd_8_25, rfl, by decide +kernel, by decide +kernel, by decide +kernel⟩
theorem cv_L_192_ : CalV RL 192 RX11 yX11_count cX11_count 2 (some .int) 1 := ⟨wd_V wd_2_155 wd_2_156 wd_2_157 wd_1_1 wd_2_158, rfl, by decide +kernel, by decide +kernel, by decide +kernel⟩
theorem cv_L_195_ : CalV RL 195 RX12 yX12_count cX12_count 4 (some .int) 1 := ⟨wd_V wd_8_26 wd_8_27 wd_8_28 wd_1_16 wd_8_29, rfl, by decide +kernel, by decide +kernel, by decide +kernel⟩
theorem dL_law__164 : decode cL_law_ 164 = .ok (.aload_n 1, 1) := by decide +kernel
theorem dL_law__165 : decode cL_law_ 165 = .ok (.aload_n 0, 1) := by decide +kernel
theorem dL_law__166 : decode cL_law_ 166 = .ok (.iload 4, 2) := by decide +kernel
theorem dL_law__168 : decode cL_law_ 168 = .ok (.iconst 1, 1) := by decide +kernel
theorem dL_law__169 : decode cL_law_ 169 = .ok (.iadd, 1) := by decide +kernel
theorem dL_law__170 : decode cL_law_ 170 = .ok (.iaload, 1) := by decide +kernel
theorem dL_law__171 : decode cL_law_ 171 = .ok (.aload_n 3, 1) := by decide +kernel
theorem dL_law__172 : decode cL_law_ 172 = .ok (.invokestatic 98, 3) := by decide +kernel
theorem dL_law__175 : decode cL_law_ 175 = .ok (.istore 5, 2) := by decide +kernel
theorem dL_law__177 : decode cL_law_ 177 = .ok (.aload_n 2, 1) := by decide +kernel
theorem dL_law__178 : decode cL_law_ 178 = .ok (.aload_n 0, 1) := by decide +kernel
theorem dL_law__179 : decode cL_law_ 179 = .ok (.iload 4, 2) := by decide +kernel
theorem dL_law__181 : decode cL_law_ 181 = .ok (.iconst 1, 1) := by decide +kernel
theorem dL_law__182 : decode cL_law_ 182 = .ok (.iadd, 1) := by decide +kernel
theorem dL_law__183 : decode cL_law_ 183 = .ok (.iaload, 1) := by decide +kernel
theorem dL_law__184 : decode cL_law_ 184 = .ok (.invokevirtual 103, 3) := by decide +kernel
theorem dL_law__187 : decode cL_law_ 187 = .ok (.istore 6, 2) := by decide +kernel
theorem dL_law__189 : decode cL_law_ 189 = .ok (.aload_n 2, 1) := by decide +kernel
theorem dL_law__190 : decode cL_law_ 190 = .ok (.invokevirtual 104, 3) := by decide +kernel
theorem dL_law__193 : decode cL_law_ 193 = .ok (.iload 5, 2) := by decide +kernel
theorem dL_law__195 : decode cL_law_ 195 = .ok (.if_icmp .eq 5, 3) := by decide +kernel
theorem dL_law__198 : decode cL_law_ 198 = .ok (.iconst 0, 1) := by decide +kernel
theorem dL_law__199 : decode cL_law_ 199 = .ok (.ireturn, 1) := by decide +kernel
theorem dL_law__200 : decode cL_law_ 200 = .ok (.iload 5, 2) := by decide +kernel
theorem dL_law__202 : decode cL_law_ 202 = .ok (.ifCond .ne 15, 3) := by decide +kernel
theorem dL_law__205 : decode cL_law_ 205 = .ok (.aload_n 3, 1) := by decide +kernel
theorem dL_law__206 : decode cL_law_ 206 = .ok (.iconst 0, 1) := by decide +kernel
theorem dL_law__207 : decode cL_law_ 207 = .ok (.laload, 1) := by decide +kernel
theorem dL_law__208 : decode cL_law_ 208 = .ok (.iload 6, 2) := by decide +kernel
theorem dL_law__210 : decode cL_law_ 210 = .ok (.i2l, 1) := by decide +kernel
theorem dL_law__211 : decode cL_law_ 211 = .ok (.lcmp, 1) := by decide +kernel
theorem dL_law__212 : decode cL_law_ 212 = .ok (.ifCond .eq 5, 3) := by decide +kernel
theorem dL_law__215 : decode cL_law_ 215 = .ok (.iconst 0, 1) := by decide +kernel
theorem dL_law__216 : decode cL_law_ 216 = .ok (.ireturn, 1) := by decide +kernel
theorem dL_law__217 : decode cL_law_ 217 = .ok (.goto 1779, 3) := by decide +kernel
set_option maxRecDepth 100000 in
set_option maxHeartbeats 4000000 in
theorem lc_0 {X : Cg} (cx : Cx X cL_law_ RL 7) (htr : (xL X).stackTraces = false) (hfr : 74 ≤ (xR X).frames) (hlo : 1500 ≤ (xR X).locals) {Q : State → Prop} {b L : Nat} {xs : Nat → Int32} (hX : va_X b L xs (xS X) (xS X).heap) (hbl : b < (xS X).heap.size) (hbA : ¬ xA X b) (ax am ao : Nat) (x4 : Int32) (s1 : Int32) (e1 : xs (x4 + 1).toNatClampNeg = s1) (i1 : vp_in (x4 + 1) L) {J' : Hs → Nat → Nat → Prop} (hex : SimB X 7 Q 1996 [(0, va_rf (some b)), (1, va_rf (some ax)), (2, va_rf (some am)), (3, va_rf (some ao)), (4, .int x4)] [] J') : SimB X 7 Q 164 [(0, va_rf (some b)), (1, va_rf (some ax)), (2, va_rf (some am)), (3, va_rf (some ao)), (4, .int x4)] [] (StepA (xR X) (f_L_node (xZ X) (some ax) s1 (some ao)) (mo 15 (some am) (f_X12_node (some am) s1)) (mo 15 (some am) (f_X12_thrown (some am))) (aL (some ao) 0) Int32.toInt64 J') := by
  refine sb_ofb (fun a9 b9 => ?_)
  refine sm_aload_n cx 1 dL_law__164 rfl rfl ?_
  refine sm_aload_n cx 0 dL_law__165 rfl rfl ?_
  refine sm_iload cx 4 dL_law__166 rfl ?_
  refine sm_iconst (v := 1) cx dL_law__168 (by decide) ?_
  refine sm_iadd cx dL_law__169 ?_
  refine sm_sldE cx hX hbl hbA i1 e1 dL_law__170 ?_
  refine sm_aload_n cx 3 dL_law__171 rfl rfl ?_
  refine sb_gob ?_ a9 b9
  refine sb_help (toV := vI) (Ψ := StepM (xR X) (mo 15 (some am) (f_X12_node (some am) s1)) (mo 15 (some am) (f_X12_thrown (some am))) (aL (some ao) 0) Int32.toInt64 J') cx htr [va_rf (some ax), .int s1, va_rf (some ao)] cw_L_98 (ct_L_node (xZ X) (some ax) s1 (some ao)) (Nat.le_trans (by decide) hfr) (Nat.le_trans (by decide) hlo) rfl (cat_le _ (Nat.le_of_ble_eq_true rfl)) dL_law__172 (fun _ _ _ hp => hp) (fun v => ?_)
  refine sb_ofb (fun a9 b9 => ?_)
  refine sm_istore cx [(5, .int v), (0, va_rf (some b)), (1, va_rf (some ax)), (2, va_rf (some am)), (3, va_rf (some ao)), (4, .int x4)] dL_law__175 (by decide) rfl (nc1 rfl) rfl ?_
  refine sm_aload_n cx 3 dL_law__177 rfl rfl ?_
  refine sm_aload_n cx 1 dL_law__178 rfl rfl ?_
  refine sm_iload cx 5 dL_law__179 rfl ?_
  refine sm_iconst (v := 1) cx dL_law__181 (by decide) ?_
  refine sm_iadd cx dL_law__182 ?_
  refine sm_sldE cx hX hbl hbA i1 e1 dL_law__183 ?_
  refine sb_gob ?_ a9 b9
  refine sb_run (pc' := 187) (lv' := fun _ => [(5, .int v), (0, va_rf (some b)), (1, va_rf (some ax)), (2, va_rf (some am)), (3, va_rf (some ao)), (4, .int x4)]) (st' := fun w => .int w :: []) (Ψ := fun w => StepT (xR X) (mo 15 (some am) (f_X12_thrown (some am))) (aL (some ao) 0) Int32.toInt64 J' v w) (fun K hK => sm_callV (T := TX12) (N := 47) (toV := vI) cx [.int s1] rfl cv_L_103_ (fun a h => ct_X12_node (xZ X) a h s1) (Nat.le_trans (by decide) hfr) (Nat.le_trans (by decide) hlo) rfl (cat_le _ (Nat.le_of_ble_eq_true rfl)) dL_law__184 hK) (fun _ _ _ hp => hp) (fun bb => ?_)
  refine sb_ofb (fun a9 b9 => ?_)
  refine sm_istore cx [(6, .int bb), (5, .int v), (0, va_rf (some b)), (1, va_rf (some ax)), (2, va_rf (some am)), (3, va_rf (some ao)), (4, .int x4)] dL_law__187 (by decide) rfl (nc1 rfl) rfl ?_
  refine sm_aload_n cx 4 dL_law__189 rfl rfl ?_
  refine sb_gob ?_ a9 b9
  refine sb_run (pc' := 193) (lv' := fun _ => [(6, .int bb), (5, .int v), (0, va_rf (some b)), (1, va_rf (some ax)), (2, va_rf (some am)), (3, va_rf (some ao)), (4, .int x4)]) (st' := fun w => .int w :: []) (Ψ := fun w h c n => v = w ∧ StepO (aL (some ao) 0) Int32.toInt64 J' v bb h c n) (fun K hK => sm_callV (T := TX12) (N := 47) (toV := vI) cx [] rfl cv_L_104_ (fun a h => ct_X12_thrown (xZ X) a h) (Nat.le_trans (by decide) hfr) (Nat.le_trans (by decide) hlo) rfl (cat_le _ (Nat.le_of_ble_eq_true rfl)) dL_law__190 hK) (fun _ _ _ hp => by obtain ⟨h1, c1, n1, q1, q2, q3, q4⟩ := hp; exact ⟨v, h1, c1, n1, q1, ⟨rfl, q2⟩, q3, q4⟩) (fun t => sb_and (fun ht => ?_))
  subst ht
  refine sb_ofb (fun a9 b9 => ?_)
  refine sm_iload cx 1 dL_law__193 rfl ?_
  refine sb_gob ?_ a9 b9
  refine sb_icmp_eq (tgt := 200) cx dL_law__195 (by decide) (fun _ => ?_) (fun hne => absurd rfl hne)
  refine sb_ofb (fun a9 b9 => ?_)
  refine sm_iload cx 1 dL_law__200 rfl ?_
  refine sb_gob ?_ a9 b9
  refine sb_if_ne (tgt := 217) cx dL_law__202 (by decide) (fun hne => ?_) (fun h0 => ?_)
  · refine sb_imp (fun _ _ _ hp => hp.2) ?_
    refine sb_ofb (fun a9 b9 => ?_)
    refine sm_goto (tgt := 1996) cx dL_law__217 (by decide) ?_
    refine sb_gob ?_ a9 b9
    exact sb_lv [2, 3, 4, 5, 6] rfl hex
  refine sb_room (sb_imp (Ψ := StepR (xR X) (aL (some ao) 0) (Int32.toInt64 bb) J') (fun _ _ _ hp => ⟨hp.1.1 h0, hp.1.2, hp.2⟩) ?_)
  refine sb_ofb (fun a9 b9 => ?_)
  refine sm_aload_n cx 5 dL_law__205 rfl rfl ?_
  refine sm_iconst (v := 0) cx dL_law__206 (by decide) ?_
  refine sb_gob ?_ a9 b9
  refine sb_run (pc' := 208) (lv' := fun _ => [(6, .int bb), (5, .int v), (0, va_rf (some b)), (1, va_rf (some ax)), (2, va_rf (some am)), (3, va_rf (some ao)), (4, .int x4)]) (st' := fun w => .long w :: []) (Ψ := fun w h c n => w = (Int32.toInt64 bb) ∧ J' h c n) (fun K hK => sm_lald cx dL_law__207 hK) (fun h c0 n0 hp => ⟨(Int32.toInt64 bb), h, 0, 0, hp.1, ⟨rfl, hp.2.1⟩, hp.2.2.1, hp.2.2.2⟩) (fun w => sb_and (fun hw => ?_))
  subst hw
  refine sb_ofb (fun a9 b9 => ?_)
  refine sm_iload cx 0 dL_law__208 rfl ?_
  refine sm_i2l cx dL_law__210 ?_
  refine sm_lcmp cx dL_law__211 ?_
  refine sb_gob ?_ a9 b9
  refine sb_if_eq (tgt := 217) cx dL_law__212 (by decide) (fun _ => ?_) (fun hne => absurd (lg_self _) hne)
  refine sb_ofb (fun a9 b9 => ?_)
  refine sm_goto (tgt := 1996) cx dL_law__217 (by decide) ?_
  refine sb_gob ?_ a9 b9
  exact sb_lv [2, 3, 4, 5, 6] rfl hex
theorem dL_law__220 : decode cL_law_ 220 = .ok (.aload_n 1, 1) := by decide +kernel
theorem dL_law__221 : decode cL_law_ 221 = .ok (.aload_n 0, 1) := by decide +kernel
theorem dL_law__222 : decode cL_law_ 222 = .ok (.iload 4, 2) := by decide +kernel
theorem dL_law__224 : decode cL_law_ 224 = .ok (.iconst 1, 1) := by decide +kernel
theorem dL_law__225 : decode cL_law_ 225 = .ok (.iadd, 1) := by decide +kernel
theorem dL_law__226 : decode cL_law_ 226 = .ok (.iaload, 1) := by decide +kernel
theorem dL_law__227 : decode cL_law_ 227 = .ok (.aload_n 0, 1) := by decide +kernel
theorem dL_law__228 : decode cL_law_ 228 = .ok (.iload 4, 2) := by decide +kernel
theorem dL_law__230 : decode cL_law_ 230 = .ok (.iconst 2, 1) := by decide +kernel
theorem dL_law__231 : decode cL_law_ 231 = .ok (.iadd, 1) := by decide +kernel
theorem dL_law__232 : decode cL_law_ 232 = .ok (.iaload, 1) := by decide +kernel
theorem dL_law__233 : decode cL_law_ 233 = .ok (.ifCond .eq 7, 3) := by decide +kernel
theorem dL_law__236 : decode cL_law_ 236 = .ok (.iconst 1, 1) := by decide +kernel
theorem dL_law__237 : decode cL_law_ 237 = .ok (.goto 4, 3) := by decide +kernel
theorem dL_law__240 : decode cL_law_ 240 = .ok (.iconst 0, 1) := by decide +kernel
theorem dL_law__241 : decode cL_law_ 241 = .ok (.aload_n 3, 1) := by decide +kernel
theorem dL_law__242 : decode cL_law_ 242 = .ok (.invokestatic 107, 3) := by decide +kernel
theorem dL_law__245 : decode cL_law_ 245 = .ok (.istore 5, 2) := by decide +kernel
theorem dL_law__247 : decode cL_law_ 247 = .ok (.aload_n 2, 1) := by decide +kernel
theorem dL_law__248 : decode cL_law_ 248 = .ok (.aload_n 0, 1) := by decide +kernel
theorem dL_law__249 : decode cL_law_ 249 = .ok (.iload 4, 2) := by decide +kernel
theorem dL_law__251 : decode cL_law_ 251 = .ok (.iconst 1, 1) := by decide +kernel
theorem dL_law__252 : decode cL_law_ 252 = .ok (.iadd, 1) := by decide +kernel
theorem dL_law__253 : decode cL_law_ 253 = .ok (.iaload, 1) := by decide +kernel
theorem dL_law__254 : decode cL_law_ 254 = .ok (.aload_n 0, 1) := by decide +kernel
theorem dL_law__255 : decode cL_law_ 255 = .ok (.iload 4, 2) := by decide +kernel
theorem dL_law__257 : decode cL_law_ 257 = .ok (.iconst 2, 1) := by decide +kernel
theorem dL_law__258 : decode cL_law_ 258 = .ok (.iadd, 1) := by decide +kernel
theorem dL_law__259 : decode cL_law_ 259 = .ok (.iaload, 1) := by decide +kernel
theorem dL_law__260 : decode cL_law_ 260 = .ok (.ifCond .eq 7, 3) := by decide +kernel
theorem dL_law__263 : decode cL_law_ 263 = .ok (.iconst 1, 1) := by decide +kernel
theorem dL_law__264 : decode cL_law_ 264 = .ok (.goto 4, 3) := by decide +kernel
theorem dL_law__267 : decode cL_law_ 267 = .ok (.iconst 0, 1) := by decide +kernel
theorem dL_law__268 : decode cL_law_ 268 = .ok (.invokevirtual 110, 3) := by decide +kernel
theorem dL_law__271 : decode cL_law_ 271 = .ok (.istore 6, 2) := by decide +kernel
theorem dL_law__273 : decode cL_law_ 273 = .ok (.aload_n 2, 1) := by decide +kernel
theorem dL_law__274 : decode cL_law_ 274 = .ok (.invokevirtual 104, 3) := by decide +kernel
theorem dL_law__277 : decode cL_law_ 277 = .ok (.iload 5, 2) := by decide +kernel
theorem dL_law__279 : decode cL_law_ 279 = .ok (.if_icmp .eq 5, 3) := by decide +kernel
theorem dL_law__282 : decode cL_law_ 282 = .ok (.iconst 0, 1) := by decide +kernel
theorem dL_law__283 : decode cL_law_ 283 = .ok (.ireturn, 1) := by decide +kernel
theorem dL_law__284 : decode cL_law_ 284 = .ok (.iload 5, 2) := by decide +kernel
theorem dL_law__286 : decode cL_law_ 286 = .ok (.ifCond .ne 22, 3) := by decide +kernel
theorem dL_law__289 : decode cL_law_ 289 = .ok (.aload_n 3, 1) := by decide +kernel
theorem dL_law__290 : decode cL_law_ 290 = .ok (.iconst 0, 1) := by decide +kernel
theorem dL_law__291 : decode cL_law_ 291 = .ok (.laload, 1) := by decide +kernel
theorem dL_law__292 : decode cL_law_ 292 = .ok (.iload 6, 2) := by decide +kernel
theorem dL_law__294 : decode cL_law_ 294 = .ok (.ifCond .eq 7, 3) := by decide +kernel
theorem dL_law__297 : decode cL_law_ 297 = .ok (.lconst 1, 1) := by decide +kernel
theorem dL_law__298 : decode cL_law_ 298 = .ok (.goto 4, 3) := by decide +kernel
theorem dL_law__301 : decode cL_law_ 301 = .ok (.lconst 0, 1) := by decide +kernel
theorem dL_law__302 : decode cL_law_ 302 = .ok (.lcmp, 1) := by decide +kernel
theorem dL_law__303 : decode cL_law_ 303 = .ok (.ifCond .eq 5, 3) := by decide +kernel
theorem dL_law__306 : decode cL_law_ 306 = .ok (.iconst 0, 1) := by decide +kernel
theorem dL_law__307 : decode cL_law_ 307 = .ok (.ireturn, 1) := by decide +kernel
theorem dL_law__308 : decode cL_law_ 308 = .ok (.goto 1688, 3) := by decide +kernel
set_option maxRecDepth 100000 in
set_option maxHeartbeats 4000000 in
theorem lc_1 {X : Cg} (cx : Cx X cL_law_ RL 7) (htr : (xL X).stackTraces = false) (hfr : 74 ≤ (xR X).frames) (hlo : 1500 ≤ (xR X).locals) {Q : State → Prop} {b L : Nat} {xs : Nat → Int32} (hX : va_X b L xs (xS X) (xS X).heap) (hbl : b < (xS X).heap.size) (hbA : ¬ xA X b) (ax am ao : Nat) (x4 : Int32) (s1 : Int32) (e1 : xs (x4 + 1).toNatClampNeg = s1) (i1 : vp_in (x4 + 1) L) (s2 : Int32) (e2 : xs (x4 + 2).toNatClampNeg = s2) (i2 : vp_in (x4 + 2) L) {J' : Hs → Nat → Nat → Prop} (hex : SimB X 7 Q 1996 [(0, va_rf (some b)), (1, va_rf (some ax)), (2, va_rf (some am)), (3, va_rf (some ao)), (4, .int x4)] [] J') : SimB X 7 Q 220 [(0, va_rf (some b)), (1, va_rf (some ax)), (2, va_rf (some am)), (3, va_rf (some ao)), (4, .int x4)] [] (StepA (xR X) (f_L_block (some ax) s1 (bz s2) (some ao)) (mo 15 (some am) (f_X12_block (some am) s1 (bz s2))) (mo 15 (some am) (f_X12_thrown (some am))) (aL (some ao) 0) bzL J') := by
  refine sb_ofb (fun a9 b9 => ?_)
  refine sm_aload_n cx 1 dL_law__220 rfl rfl ?_
  refine sm_aload_n cx 0 dL_law__221 rfl rfl ?_
  refine sm_iload cx 4 dL_law__222 rfl ?_
  refine sm_iconst (v := 1) cx dL_law__224 (by decide) ?_
  refine sm_iadd cx dL_law__225 ?_
  refine sm_sldE cx hX hbl hbA i1 e1 dL_law__226 ?_
  refine sm_aload_n cx 0 dL_law__227 rfl rfl ?_
  refine sm_iload cx 4 dL_law__228 rfl ?_
  refine sm_iconst (v := 2) cx dL_law__230 (by decide) ?_
  refine sm_iadd cx dL_law__231 ?_
  refine sm_sldE cx hX hbl hbA i2 e2 dL_law__232 ?_
  refine sb_gob ?_ a9 b9
  refine sb_bool cx dL_law__233 dL_law__236 dL_law__237 dL_law__240 ?_
  refine sb_ofb (fun a9 b9 => ?_)
  refine sm_aload_n cx 3 dL_law__241 rfl rfl ?_
  refine sb_gob ?_ a9 b9
  refine sb_help (toV := vI) (Ψ := StepM (xR X) (mo 15 (some am) (f_X12_block (some am) s1 (bz s2))) (mo 15 (some am) (f_X12_thrown (some am))) (aL (some ao) 0) bzL J') cx htr [va_rf (some ax), .int s1, .int (bz s2), va_rf (some ao)] cw_L_107 (ct_L_block (xZ X) (some ax) s1 (bz s2) (some ao)) (Nat.le_trans (by decide) hfr) (Nat.le_trans (by decide) hlo) rfl (cat_le _ (Nat.le_of_ble_eq_true rfl)) dL_law__242 (fun _ _ _ hp => hp) (fun v => ?_)
  refine sb_ofb (fun a9 b9 => ?_)
  refine sm_istore cx [(5, .int v), (0, va_rf (some b)), (1, va_rf (some ax)), (2, va_rf (some am)), (3, va_rf (some ao)), (4, .int x4)] dL_law__245 (by decide) rfl (nc1 rfl) rfl ?_
  refine sm_aload_n cx 3 dL_law__247 rfl rfl ?_
  refine sm_aload_n cx 1 dL_law__248 rfl rfl ?_
  refine sm_iload cx 5 dL_law__249 rfl ?_
  refine sm_iconst (v := 1) cx dL_law__251 (by decide) ?_
  refine sm_iadd cx dL_law__252 ?_
  refine sm_sldE cx hX hbl hbA i1 e1 dL_law__253 ?_
  refine sm_aload_n cx 1 dL_law__254 rfl rfl ?_
  refine sm_iload cx 5 dL_law__255 rfl ?_
  refine sm_iconst (v := 2) cx dL_law__257 (by decide) ?_
  refine sm_iadd cx dL_law__258 ?_
  refine sm_sldE cx hX hbl hbA i2 e2 dL_law__259 ?_
  refine sb_gob ?_ a9 b9
  refine sb_bool cx dL_law__260 dL_law__263 dL_law__264 dL_law__267 ?_
  refine sb_run (pc' := 271) (lv' := fun _ => [(5, .int v), (0, va_rf (some b)), (1, va_rf (some ax)), (2, va_rf (some am)), (3, va_rf (some ao)), (4, .int x4)]) (st' := fun w => .int w :: []) (Ψ := fun w => StepT (xR X) (mo 15 (some am) (f_X12_thrown (some am))) (aL (some ao) 0) bzL J' v w) (fun K hK => sm_callV (T := TX12) (N := 47) (toV := vI) cx [.int s1, .int (bz s2)] rfl cv_L_110_ (fun a h => ct_X12_block (xZ X) a h s1 (bz s2)) (Nat.le_trans (by decide) hfr) (Nat.le_trans (by decide) hlo) rfl (cat_le _ (Nat.le_of_ble_eq_true rfl)) dL_law__268 hK) (fun _ _ _ hp => hp) (fun bb => ?_)
  refine sb_ofb (fun a9 b9 => ?_)
  refine sm_istore cx [(6, .int bb), (5, .int v), (0, va_rf (some b)), (1, va_rf (some ax)), (2, va_rf (some am)), (3, va_rf (some ao)), (4, .int x4)] dL_law__271 (by decide) rfl (nc1 rfl) rfl ?_
  refine sm_aload_n cx 4 dL_law__273 rfl rfl ?_
  refine sb_gob ?_ a9 b9
  refine sb_run (pc' := 277) (lv' := fun _ => [(6, .int bb), (5, .int v), (0, va_rf (some b)), (1, va_rf (some ax)), (2, va_rf (some am)), (3, va_rf (some ao)), (4, .int x4)]) (st' := fun w => .int w :: []) (Ψ := fun w h c n => v = w ∧ StepO (aL (some ao) 0) bzL J' v bb h c n) (fun K hK => sm_callV (T := TX12) (N := 47) (toV := vI) cx [] rfl cv_L_104_ (fun a h => ct_X12_thrown (xZ X) a h) (Nat.le_trans (by decide) hfr) (Nat.le_trans (by decide) hlo) rfl (cat_le _ (Nat.le_of_ble_eq_true rfl)) dL_law__274 hK) (fun _ _ _ hp => by obtain ⟨h1, c1, n1, q1, q2, q3, q4⟩ := hp; exact ⟨v, h1, c1, n1, q1, ⟨rfl, q2⟩, q3, q4⟩) (fun t => sb_and (fun ht => ?_))
  subst ht
  refine sb_ofb (fun a9 b9 => ?_)
  refine sm_iload cx 1 dL_law__277 rfl ?_
  refine sb_gob ?_ a9 b9
  refine sb_icmp_eq (tgt := 284) cx dL_law__279 (by decide) (fun _ => ?_) (fun hne => absurd rfl hne)
  refine sb_ofb (fun a9 b9 => ?_)
  refine sm_iload cx 1 dL_law__284 rfl ?_
  refine sb_gob ?_ a9 b9
  refine sb_if_ne (tgt := 308) cx dL_law__286 (by decide) (fun hne => ?_) (fun h0 => ?_)
  · refine sb_imp (fun _ _ _ hp => hp.2) ?_
    refine sb_ofb (fun a9 b9 => ?_)
    refine sm_goto (tgt := 1996) cx dL_law__308 (by decide) ?_
    refine sb_gob ?_ a9 b9
    exact sb_lv [2, 3, 4, 5, 6] rfl hex
  refine sb_room (sb_imp (Ψ := StepR (xR X) (aL (some ao) 0) (bzL bb) J') (fun _ _ _ hp => ⟨hp.1.1 h0, hp.1.2, hp.2⟩) ?_)
  refine sb_ofb (fun a9 b9 => ?_)
  refine sm_aload_n cx 5 dL_law__289 rfl rfl ?_
  refine sm_iconst (v := 0) cx dL_law__290 (by decide) ?_
  refine sb_gob ?_ a9 b9
  refine sb_run (pc' := 292) (lv' := fun _ => [(6, .int bb), (5, .int v), (0, va_rf (some b)), (1, va_rf (some ax)), (2, va_rf (some am)), (3, va_rf (some ao)), (4, .int x4)]) (st' := fun w => .long w :: []) (Ψ := fun w h c n => w = (bzL bb) ∧ J' h c n) (fun K hK => sm_lald cx dL_law__291 hK) (fun h c0 n0 hp => ⟨(bzL bb), h, 0, 0, hp.1, ⟨rfl, hp.2.1⟩, hp.2.2.1, hp.2.2.2⟩) (fun w => sb_and (fun hw => ?_))
  subst hw
  refine sb_ofb (fun a9 b9 => ?_)
  refine sm_iload cx 0 dL_law__292 rfl ?_
  refine sb_gob ?_ a9 b9
  refine sb_boolL cx dL_law__294 dL_law__297 dL_law__298 dL_law__301 ?_
  refine sb_ofb (fun a9 b9 => ?_)
  refine sm_lcmp cx dL_law__302 ?_
  refine sb_gob ?_ a9 b9
  refine sb_if_eq (tgt := 308) cx dL_law__303 (by decide) (fun _ => ?_) (fun hne => absurd (lg_self _) hne)
  refine sb_ofb (fun a9 b9 => ?_)
  refine sm_goto (tgt := 1996) cx dL_law__308 (by decide) ?_
  refine sb_gob ?_ a9 b9
  exact sb_lv [2, 3, 4, 5, 6] rfl hex
theorem dL_law__311 : decode cL_law_ 311 = .ok (.aload_n 1, 1) := by decide +kernel
theorem dL_law__312 : decode cL_law_ 312 = .ok (.aload_n 0, 1) := by decide +kernel
theorem dL_law__313 : decode cL_law_ 313 = .ok (.iload 4, 2) := by decide +kernel
theorem dL_law__315 : decode cL_law_ 315 = .ok (.iconst 1, 1) := by decide +kernel
theorem dL_law__316 : decode cL_law_ 316 = .ok (.iadd, 1) := by decide +kernel
theorem dL_law__317 : decode cL_law_ 317 = .ok (.iaload, 1) := by decide +kernel
theorem dL_law__318 : decode cL_law_ 318 = .ok (.aload_n 0, 1) := by decide +kernel
theorem dL_law__319 : decode cL_law_ 319 = .ok (.iload 4, 2) := by decide +kernel
theorem dL_law__321 : decode cL_law_ 321 = .ok (.iconst 2, 1) := by decide +kernel
theorem dL_law__322 : decode cL_law_ 322 = .ok (.iadd, 1) := by decide +kernel
theorem dL_law__323 : decode cL_law_ 323 = .ok (.iaload, 1) := by decide +kernel
theorem dL_law__324 : decode cL_law_ 324 = .ok (.aload_n 3, 1) := by decide +kernel
theorem dL_law__325 : decode cL_law_ 325 = .ok (.invokestatic 111, 3) := by decide +kernel
theorem dL_law__328 : decode cL_law_ 328 = .ok (.istore 5, 2) := by decide +kernel
theorem dL_law__330 : decode cL_law_ 330 = .ok (.aload_n 2, 1) := by decide +kernel
theorem dL_law__331 : decode cL_law_ 331 = .ok (.aload_n 0, 1) := by decide +kernel
theorem dL_law__332 : decode cL_law_ 332 = .ok (.iload 4, 2) := by decide +kernel
theorem dL_law__334 : decode cL_law_ 334 = .ok (.iconst 1, 1) := by decide +kernel
theorem dL_law__335 : decode cL_law_ 335 = .ok (.iadd, 1) := by decide +kernel
theorem dL_law__336 : decode cL_law_ 336 = .ok (.iaload, 1) := by decide +kernel
theorem dL_law__337 : decode cL_law_ 337 = .ok (.aload_n 0, 1) := by decide +kernel
theorem dL_law__338 : decode cL_law_ 338 = .ok (.iload 4, 2) := by decide +kernel
theorem dL_law__340 : decode cL_law_ 340 = .ok (.iconst 2, 1) := by decide +kernel
theorem dL_law__341 : decode cL_law_ 341 = .ok (.iadd, 1) := by decide +kernel
theorem dL_law__342 : decode cL_law_ 342 = .ok (.iaload, 1) := by decide +kernel
theorem dL_law__343 : decode cL_law_ 343 = .ok (.invokevirtual 114, 3) := by decide +kernel
theorem dL_law__346 : decode cL_law_ 346 = .ok (.istore 6, 2) := by decide +kernel
theorem dL_law__348 : decode cL_law_ 348 = .ok (.aload_n 2, 1) := by decide +kernel
theorem dL_law__349 : decode cL_law_ 349 = .ok (.invokevirtual 104, 3) := by decide +kernel
theorem dL_law__352 : decode cL_law_ 352 = .ok (.iload 5, 2) := by decide +kernel
theorem dL_law__354 : decode cL_law_ 354 = .ok (.if_icmp .eq 5, 3) := by decide +kernel
theorem dL_law__357 : decode cL_law_ 357 = .ok (.iconst 0, 1) := by decide +kernel
theorem dL_law__358 : decode cL_law_ 358 = .ok (.ireturn, 1) := by decide +kernel
theorem dL_law__359 : decode cL_law_ 359 = .ok (.iload 5, 2) := by decide +kernel
theorem dL_law__361 : decode cL_law_ 361 = .ok (.ifCond .ne 15, 3) := by decide +kernel
theorem dL_law__364 : decode cL_law_ 364 = .ok (.aload_n 3, 1) := by decide +kernel
theorem dL_law__365 : decode cL_law_ 365 = .ok (.iconst 0, 1) := by decide +kernel
theorem dL_law__366 : decode cL_law_ 366 = .ok (.laload, 1) := by decide +kernel
theorem dL_law__367 : decode cL_law_ 367 = .ok (.iload 6, 2) := by decide +kernel
theorem dL_law__369 : decode cL_law_ 369 = .ok (.i2l, 1) := by decide +kernel
theorem dL_law__370 : decode cL_law_ 370 = .ok (.lcmp, 1) := by decide +kernel
theorem dL_law__371 : decode cL_law_ 371 = .ok (.ifCond .eq 5, 3) := by decide +kernel
theorem dL_law__374 : decode cL_law_ 374 = .ok (.iconst 0, 1) := by decide +kernel
theorem dL_law__375 : decode cL_law_ 375 = .ok (.ireturn, 1) := by decide +kernel
theorem dL_law__376 : decode cL_law_ 376 = .ok (.goto 1620, 3) := by decide +kernel
set_option maxRecDepth 100000 in
set_option maxHeartbeats 4000000 in
theorem lc_2 {X : Cg} (cx : Cx X cL_law_ RL 7) (htr : (xL X).stackTraces = false) (hfr : 74 ≤ (xR X).frames) (hlo : 1500 ≤ (xR X).locals) {Q : State → Prop} {b L : Nat} {xs : Nat → Int32} (hX : va_X b L xs (xS X) (xS X).heap) (hbl : b < (xS X).heap.size) (hbA : ¬ xA X b) (ax am ao : Nat) (x4 : Int32) (s1 : Int32) (e1 : xs (x4 + 1).toNatClampNeg = s1) (i1 : vp_in (x4 + 1) L) (s2 : Int32) (e2 : xs (x4 + 2).toNatClampNeg = s2) (i2 : vp_in (x4 + 2) L) {J' : Hs → Nat → Nat → Prop} (hex : SimB X 7 Q 1996 [(0, va_rf (some b)), (1, va_rf (some ax)), (2, va_rf (some am)), (3, va_rf (some ao)), (4, .int x4)] [] J') : SimB X 7 Q 311 [(0, va_rf (some b)), (1, va_rf (some ax)), (2, va_rf (some am)), (3, va_rf (some ao)), (4, .int x4)] [] (StepA (xR X) (f_L_move (xZ X) (some ax) s1 s2 (some ao)) (mo 15 (some am) (f_X12_move (some am) s1 s2)) (mo 15 (some am) (f_X12_thrown (some am))) (aL (some ao) 0) Int32.toInt64 J') := by
  refine sb_ofb (fun a9 b9 => ?_)
  refine sm_aload_n cx 1 dL_law__311 rfl rfl ?_
  refine sm_aload_n cx 0 dL_law__312 rfl rfl ?_
  refine sm_iload cx 4 dL_law__313 rfl ?_
  refine sm_iconst (v := 1) cx dL_law__315 (by decide) ?_
  refine sm_iadd cx dL_law__316 ?_
  refine sm_sldE cx hX hbl hbA i1 e1 dL_law__317 ?_
  refine sm_aload_n cx 0 dL_law__318 rfl rfl ?_
  refine sm_iload cx 4 dL_law__319 rfl ?_
  refine sm_iconst (v := 2) cx dL_law__321 (by decide) ?_
  refine sm_iadd cx dL_law__322 ?_
  refine sm_sldE cx hX hbl hbA i2 e2 dL_law__323 ?_
  refine sm_aload_n cx 3 dL_law__324 rfl rfl ?_
  refine sb_gob ?_ a9 b9
  refine sb_help (toV := vI) (Ψ := StepM (xR X) (mo 15 (some am) (f_X12_move (some am) s1 s2)) (mo 15 (some am) (f_X12_thrown (some am))) (aL (some ao) 0) Int32.toInt64 J') cx htr [va_rf (some ax), .int s1, .int s2, va_rf (some ao)] cw_L_111 (ct_L_move (xZ X) (some ax) s1 s2 (some ao)) (Nat.le_trans (by decide) hfr) (Nat.le_trans (by decide) hlo) rfl (cat_le _ (Nat.le_of_ble_eq_true rfl)) dL_law__325 (fun _ _ _ hp => hp) (fun v => ?_)
  refine sb_ofb (fun a9 b9 => ?_)
  refine sm_istore cx [(5, .int v), (0, va_rf (some b)), (1, va_rf (some ax)), (2, va_rf (some am)), (3, va_rf (some ao)), (4, .int x4)] dL_law__328 (by decide) rfl (nc1 rfl) rfl ?_
  refine sm_aload_n cx 3 dL_law__330 rfl rfl ?_
  refine sm_aload_n cx 1 dL_law__331 rfl rfl ?_
  refine sm_iload cx 5 dL_law__332 rfl ?_
  refine sm_iconst (v := 1) cx dL_law__334 (by decide) ?_
  refine sm_iadd cx dL_law__335 ?_
  refine sm_sldE cx hX hbl hbA i1 e1 dL_law__336 ?_
  refine sm_aload_n cx 1 dL_law__337 rfl rfl ?_
  refine sm_iload cx 5 dL_law__338 rfl ?_
  refine sm_iconst (v := 2) cx dL_law__340 (by decide) ?_
  refine sm_iadd cx dL_law__341 ?_
  refine sm_sldE cx hX hbl hbA i2 e2 dL_law__342 ?_
  refine sb_gob ?_ a9 b9
  refine sb_run (pc' := 346) (lv' := fun _ => [(5, .int v), (0, va_rf (some b)), (1, va_rf (some ax)), (2, va_rf (some am)), (3, va_rf (some ao)), (4, .int x4)]) (st' := fun w => .int w :: []) (Ψ := fun w => StepT (xR X) (mo 15 (some am) (f_X12_thrown (some am))) (aL (some ao) 0) Int32.toInt64 J' v w) (fun K hK => sm_callV (T := TX12) (N := 47) (toV := vI) cx [.int s1, .int s2] rfl cv_L_114_ (fun a h => ct_X12_move (xZ X) a h s1 s2) (Nat.le_trans (by decide) hfr) (Nat.le_trans (by decide) hlo) rfl (cat_le _ (Nat.le_of_ble_eq_true rfl)) dL_law__343 hK) (fun _ _ _ hp => hp) (fun bb => ?_)
  refine sb_ofb (fun a9 b9 => ?_)
  refine sm_istore cx [(6, .int bb), (5, .int v), (0, va_rf (some b)), (1, va_rf (some ax)), (2, va_rf (some am)), (3, va_rf (some ao)), (4, .int x4)] dL_law__346 (by decide) rfl (nc1 rfl) rfl ?_
  refine sm_aload_n cx 4 dL_law__348 rfl rfl ?_
  refine sb_gob ?_ a9 b9
  refine sb_run (pc' := 352) (lv' := fun _ => [(6, .int bb), (5, .int v), (0, va_rf (some b)), (1, va_rf (some ax)), (2, va_rf (some am)), (3, va_rf (some ao)), (4, .int x4)]) (st' := fun w => .int w :: []) (Ψ := fun w h c n => v = w ∧ StepO (aL (some ao) 0) Int32.toInt64 J' v bb h c n) (fun K hK => sm_callV (T := TX12) (N := 47) (toV := vI) cx [] rfl cv_L_104_ (fun a h => ct_X12_thrown (xZ X) a h) (Nat.le_trans (by decide) hfr) (Nat.le_trans (by decide) hlo) rfl (cat_le _ (Nat.le_of_ble_eq_true rfl)) dL_law__349 hK) (fun _ _ _ hp => by obtain ⟨h1, c1, n1, q1, q2, q3, q4⟩ := hp; exact ⟨v, h1, c1, n1, q1, ⟨rfl, q2⟩, q3, q4⟩) (fun t => sb_and (fun ht => ?_))
  subst ht
  refine sb_ofb (fun a9 b9 => ?_)
  refine sm_iload cx 1 dL_law__352 rfl ?_
  refine sb_gob ?_ a9 b9
  refine sb_icmp_eq (tgt := 359) cx dL_law__354 (by decide) (fun _ => ?_) (fun hne => absurd rfl hne)
  refine sb_ofb (fun a9 b9 => ?_)
  refine sm_iload cx 1 dL_law__359 rfl ?_
  refine sb_gob ?_ a9 b9
  refine sb_if_ne (tgt := 376) cx dL_law__361 (by decide) (fun hne => ?_) (fun h0 => ?_)
  · refine sb_imp (fun _ _ _ hp => hp.2) ?_
    refine sb_ofb (fun a9 b9 => ?_)
    refine sm_goto (tgt := 1996) cx dL_law__376 (by decide) ?_
    refine sb_gob ?_ a9 b9
    exact sb_lv [2, 3, 4, 5, 6] rfl hex
  refine sb_room (sb_imp (Ψ := StepR (xR X) (aL (some ao) 0) (Int32.toInt64 bb) J') (fun _ _ _ hp => ⟨hp.1.1 h0, hp.1.2, hp.2⟩) ?_)
  refine sb_ofb (fun a9 b9 => ?_)
  refine sm_aload_n cx 5 dL_law__364 rfl rfl ?_
  refine sm_iconst (v := 0) cx dL_law__365 (by decide) ?_
  refine sb_gob ?_ a9 b9
  refine sb_run (pc' := 367) (lv' := fun _ => [(6, .int bb), (5, .int v), (0, va_rf (some b)), (1, va_rf (some ax)), (2, va_rf (some am)), (3, va_rf (some ao)), (4, .int x4)]) (st' := fun w => .long w :: []) (Ψ := fun w h c n => w = (Int32.toInt64 bb) ∧ J' h c n) (fun K hK => sm_lald cx dL_law__366 hK) (fun h c0 n0 hp => ⟨(Int32.toInt64 bb), h, 0, 0, hp.1, ⟨rfl, hp.2.1⟩, hp.2.2.1, hp.2.2.2⟩) (fun w => sb_and (fun hw => ?_))
  subst hw
  refine sb_ofb (fun a9 b9 => ?_)
  refine sm_iload cx 0 dL_law__367 rfl ?_
  refine sm_i2l cx dL_law__369 ?_
  refine sm_lcmp cx dL_law__370 ?_
  refine sb_gob ?_ a9 b9
  refine sb_if_eq (tgt := 376) cx dL_law__371 (by decide) (fun _ => ?_) (fun hne => absurd (lg_self _) hne)
  refine sb_ofb (fun a9 b9 => ?_)
  refine sm_goto (tgt := 1996) cx dL_law__376 (by decide) ?_
  refine sb_gob ?_ a9 b9
  exact sb_lv [2, 3, 4, 5, 6] rfl hex
theorem dL_law__379 : decode cL_law_ 379 = .ok (.aload_n 1, 1) := by decide +kernel
theorem dL_law__380 : decode cL_law_ 380 = .ok (.aload_n 0, 1) := by decide +kernel
theorem dL_law__381 : decode cL_law_ 381 = .ok (.iload 4, 2) := by decide +kernel
theorem dL_law__383 : decode cL_law_ 383 = .ok (.iconst 1, 1) := by decide +kernel
theorem dL_law__384 : decode cL_law_ 384 = .ok (.iadd, 1) := by decide +kernel
theorem dL_law__385 : decode cL_law_ 385 = .ok (.iaload, 1) := by decide +kernel
theorem dL_law__386 : decode cL_law_ 386 = .ok (.aload_n 3, 1) := by decide +kernel
theorem dL_law__387 : decode cL_law_ 387 = .ok (.invokestatic 115, 3) := by decide +kernel
theorem dL_law__390 : decode cL_law_ 390 = .ok (.istore 5, 2) := by decide +kernel
theorem dL_law__392 : decode cL_law_ 392 = .ok (.aload_n 2, 1) := by decide +kernel
theorem dL_law__393 : decode cL_law_ 393 = .ok (.aload_n 0, 1) := by decide +kernel
theorem dL_law__394 : decode cL_law_ 394 = .ok (.iload 4, 2) := by decide +kernel
theorem dL_law__396 : decode cL_law_ 396 = .ok (.iconst 1, 1) := by decide +kernel
theorem dL_law__397 : decode cL_law_ 397 = .ok (.iadd, 1) := by decide +kernel
theorem dL_law__398 : decode cL_law_ 398 = .ok (.iaload, 1) := by decide +kernel
theorem dL_law__399 : decode cL_law_ 399 = .ok (.invokevirtual 117, 3) := by decide +kernel
theorem dL_law__402 : decode cL_law_ 402 = .ok (.istore 6, 2) := by decide +kernel
theorem dL_law__404 : decode cL_law_ 404 = .ok (.aload_n 2, 1) := by decide +kernel
theorem dL_law__405 : decode cL_law_ 405 = .ok (.invokevirtual 104, 3) := by decide +kernel
theorem dL_law__408 : decode cL_law_ 408 = .ok (.iload 5, 2) := by decide +kernel
theorem dL_law__410 : decode cL_law_ 410 = .ok (.if_icmp .eq 5, 3) := by decide +kernel
theorem dL_law__413 : decode cL_law_ 413 = .ok (.iconst 0, 1) := by decide +kernel
theorem dL_law__414 : decode cL_law_ 414 = .ok (.ireturn, 1) := by decide +kernel
theorem dL_law__415 : decode cL_law_ 415 = .ok (.iload 5, 2) := by decide +kernel
theorem dL_law__417 : decode cL_law_ 417 = .ok (.ifCond .ne 15, 3) := by decide +kernel
theorem dL_law__420 : decode cL_law_ 420 = .ok (.aload_n 3, 1) := by decide +kernel
theorem dL_law__421 : decode cL_law_ 421 = .ok (.iconst 0, 1) := by decide +kernel
theorem dL_law__422 : decode cL_law_ 422 = .ok (.laload, 1) := by decide +kernel
theorem dL_law__423 : decode cL_law_ 423 = .ok (.iload 6, 2) := by decide +kernel
theorem dL_law__425 : decode cL_law_ 425 = .ok (.i2l, 1) := by decide +kernel
theorem dL_law__426 : decode cL_law_ 426 = .ok (.lcmp, 1) := by decide +kernel
theorem dL_law__427 : decode cL_law_ 427 = .ok (.ifCond .eq 5, 3) := by decide +kernel
theorem dL_law__430 : decode cL_law_ 430 = .ok (.iconst 0, 1) := by decide +kernel
theorem dL_law__431 : decode cL_law_ 431 = .ok (.ireturn, 1) := by decide +kernel
theorem dL_law__432 : decode cL_law_ 432 = .ok (.goto 1564, 3) := by decide +kernel
set_option maxRecDepth 100000 in
set_option maxHeartbeats 4000000 in
theorem lc_3 {X : Cg} (cx : Cx X cL_law_ RL 7) (htr : (xL X).stackTraces = false) (hfr : 74 ≤ (xR X).frames) (hlo : 1500 ≤ (xR X).locals) {Q : State → Prop} {b L : Nat} {xs : Nat → Int32} (hX : va_X b L xs (xS X) (xS X).heap) (hbl : b < (xS X).heap.size) (hbA : ¬ xA X b) (ax am ao : Nat) (x4 : Int32) (s1 : Int32) (e1 : xs (x4 + 1).toNatClampNeg = s1) (i1 : vp_in (x4 + 1) L) {J' : Hs → Nat → Nat → Prop} (hex : SimB X 7 Q 1996 [(0, va_rf (some b)), (1, va_rf (some ax)), (2, va_rf (some am)), (3, va_rf (some ao)), (4, .int x4)] [] J') : SimB X 7 Q 379 [(0, va_rf (some b)), (1, va_rf (some ax)), (2, va_rf (some am)), (3, va_rf (some ao)), (4, .int x4)] [] (StepA (xR X) (f_L_machine (xZ X) (some ax) s1 (some ao)) (mo 15 (some am) (f_X12_machine (some am) s1)) (mo 15 (some am) (f_X12_thrown (some am))) (aL (some ao) 0) Int32.toInt64 J') := by
  refine sb_ofb (fun a9 b9 => ?_)
  refine sm_aload_n cx 1 dL_law__379 rfl rfl ?_
  refine sm_aload_n cx 0 dL_law__380 rfl rfl ?_
  refine sm_iload cx 4 dL_law__381 rfl ?_
  refine sm_iconst (v := 1) cx dL_law__383 (by decide) ?_
  refine sm_iadd cx dL_law__384 ?_
  refine sm_sldE cx hX hbl hbA i1 e1 dL_law__385 ?_
  refine sm_aload_n cx 3 dL_law__386 rfl rfl ?_
  refine sb_gob ?_ a9 b9
  refine sb_help (toV := vI) (Ψ := StepM (xR X) (mo 15 (some am) (f_X12_machine (some am) s1)) (mo 15 (some am) (f_X12_thrown (some am))) (aL (some ao) 0) Int32.toInt64 J') cx htr [va_rf (some ax), .int s1, va_rf (some ao)] cw_L_115 (ct_L_machine (xZ X) (some ax) s1 (some ao)) (Nat.le_trans (by decide) hfr) (Nat.le_trans (by decide) hlo) rfl (cat_le _ (Nat.le_of_ble_eq_true rfl)) dL_law__387 (fun _ _ _ hp => hp) (fun v => ?_)
  refine sb_ofb (fun a9 b9 => ?_)
  refine sm_istore cx [(5, .int v), (0, va_rf (some b)), (1, va_rf (some ax)), (2, va_rf (some am)), (3, va_rf (some ao)), (4, .int x4)] dL_law__390 (by decide) rfl (nc1 rfl) rfl ?_
  refine sm_aload_n cx 3 dL_law__392 rfl rfl ?_
  refine sm_aload_n cx 1 dL_law__393 rfl rfl ?_
  refine sm_iload cx 5 dL_law__394 rfl ?_
  refine sm_iconst (v := 1) cx dL_law__396 (by decide) ?_
  refine sm_iadd cx dL_law__397 ?_
  refine sm_sldE cx hX hbl hbA i1 e1 dL_law__398 ?_
  refine sb_gob ?_ a9 b9
  refine sb_run (pc' := 402) (lv' := fun _ => [(5, .int v), (0, va_rf (some b)), (1, va_rf (some ax)), (2, va_rf (some am)), (3, va_rf (some ao)), (4, .int x4)]) (st' := fun w => .int w :: []) (Ψ := fun w => StepT (xR X) (mo 15 (some am) (f_X12_thrown (some am))) (aL (some ao) 0) Int32.toInt64 J' v w) (fun K hK => sm_callV (T := TX12) (N := 47) (toV := vI) cx [.int s1] rfl cv_L_117_ (fun a h => ct_X12_machine (xZ X) a h s1) (Nat.le_trans (by decide) hfr) (Nat.le_trans (by decide) hlo) rfl (cat_le _ (Nat.le_of_ble_eq_true rfl)) dL_law__399 hK) (fun _ _ _ hp => hp) (fun bb => ?_)
  refine sb_ofb (fun a9 b9 => ?_)
  refine sm_istore cx [(6, .int bb), (5, .int v), (0, va_rf (some b)), (1, va_rf (some ax)), (2, va_rf (some am)), (3, va_rf (some ao)), (4, .int x4)] dL_law__402 (by decide) rfl (nc1 rfl) rfl ?_
  refine sm_aload_n cx 4 dL_law__404 rfl rfl ?_
  refine sb_gob ?_ a9 b9
  refine sb_run (pc' := 408) (lv' := fun _ => [(6, .int bb), (5, .int v), (0, va_rf (some b)), (1, va_rf (some ax)), (2, va_rf (some am)), (3, va_rf (some ao)), (4, .int x4)]) (st' := fun w => .int w :: []) (Ψ := fun w h c n => v = w ∧ StepO (aL (some ao) 0) Int32.toInt64 J' v bb h c n) (fun K hK => sm_callV (T := TX12) (N := 47) (toV := vI) cx [] rfl cv_L_104_ (fun a h => ct_X12_thrown (xZ X) a h) (Nat.le_trans (by decide) hfr) (Nat.le_trans (by decide) hlo) rfl (cat_le _ (Nat.le_of_ble_eq_true rfl)) dL_law__405 hK) (fun _ _ _ hp => by obtain ⟨h1, c1, n1, q1, q2, q3, q4⟩ := hp; exact ⟨v, h1, c1, n1, q1, ⟨rfl, q2⟩, q3, q4⟩) (fun t => sb_and (fun ht => ?_))
  subst ht
  refine sb_ofb (fun a9 b9 => ?_)
  refine sm_iload cx 1 dL_law__408 rfl ?_
  refine sb_gob ?_ a9 b9
  refine sb_icmp_eq (tgt := 415) cx dL_law__410 (by decide) (fun _ => ?_) (fun hne => absurd rfl hne)
  refine sb_ofb (fun a9 b9 => ?_)
  refine sm_iload cx 1 dL_law__415 rfl ?_
  refine sb_gob ?_ a9 b9
  refine sb_if_ne (tgt := 432) cx dL_law__417 (by decide) (fun hne => ?_) (fun h0 => ?_)
  · refine sb_imp (fun _ _ _ hp => hp.2) ?_
    refine sb_ofb (fun a9 b9 => ?_)
    refine sm_goto (tgt := 1996) cx dL_law__432 (by decide) ?_
    refine sb_gob ?_ a9 b9
    exact sb_lv [2, 3, 4, 5, 6] rfl hex
  refine sb_room (sb_imp (Ψ := StepR (xR X) (aL (some ao) 0) (Int32.toInt64 bb) J') (fun _ _ _ hp => ⟨hp.1.1 h0, hp.1.2, hp.2⟩) ?_)
  refine sb_ofb (fun a9 b9 => ?_)
  refine sm_aload_n cx 5 dL_law__420 rfl rfl ?_
  refine sm_iconst (v := 0) cx dL_law__421 (by decide) ?_
  refine sb_gob ?_ a9 b9
  refine sb_run (pc' := 423) (lv' := fun _ => [(6, .int bb), (5, .int v), (0, va_rf (some b)), (1, va_rf (some ax)), (2, va_rf (some am)), (3, va_rf (some ao)), (4, .int x4)]) (st' := fun w => .long w :: []) (Ψ := fun w h c n => w = (Int32.toInt64 bb) ∧ J' h c n) (fun K hK => sm_lald cx dL_law__422 hK) (fun h c0 n0 hp => ⟨(Int32.toInt64 bb), h, 0, 0, hp.1, ⟨rfl, hp.2.1⟩, hp.2.2.1, hp.2.2.2⟩) (fun w => sb_and (fun hw => ?_))
  subst hw
  refine sb_ofb (fun a9 b9 => ?_)
  refine sm_iload cx 0 dL_law__423 rfl ?_
  refine sm_i2l cx dL_law__425 ?_
  refine sm_lcmp cx dL_law__426 ?_
  refine sb_gob ?_ a9 b9
  refine sb_if_eq (tgt := 432) cx dL_law__427 (by decide) (fun _ => ?_) (fun hne => absurd (lg_self _) hne)
  refine sb_ofb (fun a9 b9 => ?_)
  refine sm_goto (tgt := 1996) cx dL_law__432 (by decide) ?_
  refine sb_gob ?_ a9 b9
  exact sb_lv [2, 3, 4, 5, 6] rfl hex
theorem dL_law__435 : decode cL_law_ 435 = .ok (.aload_n 1, 1) := by decide +kernel
theorem dL_law__436 : decode cL_law_ 436 = .ok (.aload_n 0, 1) := by decide +kernel
theorem dL_law__437 : decode cL_law_ 437 = .ok (.iload 4, 2) := by decide +kernel
theorem dL_law__439 : decode cL_law_ 439 = .ok (.iconst 1, 1) := by decide +kernel
theorem dL_law__440 : decode cL_law_ 440 = .ok (.iadd, 1) := by decide +kernel
theorem dL_law__441 : decode cL_law_ 441 = .ok (.iaload, 1) := by decide +kernel
theorem dL_law__442 : decode cL_law_ 442 = .ok (.aload_n 0, 1) := by decide +kernel
theorem dL_law__443 : decode cL_law_ 443 = .ok (.iload 4, 2) := by decide +kernel
theorem dL_law__445 : decode cL_law_ 445 = .ok (.iconst 2, 1) := by decide +kernel
theorem dL_law__446 : decode cL_law_ 446 = .ok (.iadd, 1) := by decide +kernel
theorem dL_law__447 : decode cL_law_ 447 = .ok (.iaload, 1) := by decide +kernel
theorem dL_law__448 : decode cL_law_ 448 = .ok (.aload_n 0, 1) := by decide +kernel
theorem dL_law__449 : decode cL_law_ 449 = .ok (.iload 4, 2) := by decide +kernel
theorem dL_law__451 : decode cL_law_ 451 = .ok (.iconst 3, 1) := by decide +kernel
theorem dL_law__452 : decode cL_law_ 452 = .ok (.iadd, 1) := by decide +kernel
theorem dL_law__453 : decode cL_law_ 453 = .ok (.iaload, 1) := by decide +kernel
theorem dL_law__454 : decode cL_law_ 454 = .ok (.aload_n 3, 1) := by decide +kernel
theorem dL_law__455 : decode cL_law_ 455 = .ok (.invokestatic 118, 3) := by decide +kernel
theorem dL_law__458 : decode cL_law_ 458 = .ok (.istore 5, 2) := by decide +kernel
theorem dL_law__460 : decode cL_law_ 460 = .ok (.aload_n 2, 1) := by decide +kernel
theorem dL_law__461 : decode cL_law_ 461 = .ok (.aload_n 0, 1) := by decide +kernel
theorem dL_law__462 : decode cL_law_ 462 = .ok (.iload 4, 2) := by decide +kernel
theorem dL_law__464 : decode cL_law_ 464 = .ok (.iconst 1, 1) := by decide +kernel
theorem dL_law__465 : decode cL_law_ 465 = .ok (.iadd, 1) := by decide +kernel
theorem dL_law__466 : decode cL_law_ 466 = .ok (.iaload, 1) := by decide +kernel
theorem dL_law__467 : decode cL_law_ 467 = .ok (.aload_n 0, 1) := by decide +kernel
theorem dL_law__468 : decode cL_law_ 468 = .ok (.iload 4, 2) := by decide +kernel
theorem dL_law__470 : decode cL_law_ 470 = .ok (.iconst 2, 1) := by decide +kernel
theorem dL_law__471 : decode cL_law_ 471 = .ok (.iadd, 1) := by decide +kernel
theorem dL_law__472 : decode cL_law_ 472 = .ok (.iaload, 1) := by decide +kernel
theorem dL_law__473 : decode cL_law_ 473 = .ok (.aload_n 0, 1) := by decide +kernel
theorem dL_law__474 : decode cL_law_ 474 = .ok (.iload 4, 2) := by decide +kernel
theorem dL_law__476 : decode cL_law_ 476 = .ok (.iconst 3, 1) := by decide +kernel
theorem dL_law__477 : decode cL_law_ 477 = .ok (.iadd, 1) := by decide +kernel
theorem dL_law__478 : decode cL_law_ 478 = .ok (.iaload, 1) := by decide +kernel
theorem dL_law__479 : decode cL_law_ 479 = .ok (.invokevirtual 121, 3) := by decide +kernel
theorem dL_law__482 : decode cL_law_ 482 = .ok (.istore 6, 2) := by decide +kernel
theorem dL_law__484 : decode cL_law_ 484 = .ok (.aload_n 2, 1) := by decide +kernel
theorem dL_law__485 : decode cL_law_ 485 = .ok (.invokevirtual 104, 3) := by decide +kernel
theorem dL_law__488 : decode cL_law_ 488 = .ok (.iload 5, 2) := by decide +kernel
theorem dL_law__490 : decode cL_law_ 490 = .ok (.if_icmp .eq 5, 3) := by decide +kernel
theorem dL_law__493 : decode cL_law_ 493 = .ok (.iconst 0, 1) := by decide +kernel
theorem dL_law__494 : decode cL_law_ 494 = .ok (.ireturn, 1) := by decide +kernel
theorem dL_law__495 : decode cL_law_ 495 = .ok (.iload 5, 2) := by decide +kernel
theorem dL_law__497 : decode cL_law_ 497 = .ok (.ifCond .ne 15, 3) := by decide +kernel
theorem dL_law__500 : decode cL_law_ 500 = .ok (.aload_n 3, 1) := by decide +kernel
theorem dL_law__501 : decode cL_law_ 501 = .ok (.iconst 0, 1) := by decide +kernel
theorem dL_law__502 : decode cL_law_ 502 = .ok (.laload, 1) := by decide +kernel
theorem dL_law__503 : decode cL_law_ 503 = .ok (.iload 6, 2) := by decide +kernel
theorem dL_law__505 : decode cL_law_ 505 = .ok (.i2l, 1) := by decide +kernel
theorem dL_law__506 : decode cL_law_ 506 = .ok (.lcmp, 1) := by decide +kernel
theorem dL_law__507 : decode cL_law_ 507 = .ok (.ifCond .eq 5, 3) := by decide +kernel
theorem dL_law__510 : decode cL_law_ 510 = .ok (.iconst 0, 1) := by decide +kernel
theorem dL_law__511 : decode cL_law_ 511 = .ok (.ireturn, 1) := by decide +kernel
theorem dL_law__512 : decode cL_law_ 512 = .ok (.goto 1484, 3) := by decide +kernel
set_option maxRecDepth 100000 in
set_option maxHeartbeats 4000000 in
theorem lc_4 {X : Cg} (cx : Cx X cL_law_ RL 7) (htr : (xL X).stackTraces = false) (hfr : 74 ≤ (xR X).frames) (hlo : 1500 ≤ (xR X).locals) {Q : State → Prop} {b L : Nat} {xs : Nat → Int32} (hX : va_X b L xs (xS X) (xS X).heap) (hbl : b < (xS X).heap.size) (hbA : ¬ xA X b) (ax am ao : Nat) (x4 : Int32) (s1 : Int32) (e1 : xs (x4 + 1).toNatClampNeg = s1) (i1 : vp_in (x4 + 1) L) (s2 : Int32) (e2 : xs (x4 + 2).toNatClampNeg = s2) (i2 : vp_in (x4 + 2) L) (s3 : Int32) (e3 : xs (x4 + 3).toNatClampNeg = s3) (i3 : vp_in (x4 + 3) L) {J' : Hs → Nat → Nat → Prop} (hex : SimB X 7 Q 1996 [(0, va_rf (some b)), (1, va_rf (some ax)), (2, va_rf (some am)), (3, va_rf (some ao)), (4, .int x4)] [] J') : SimB X 7 Q 435 [(0, va_rf (some b)), (1, va_rf (some ax)), (2, va_rf (some am)), (3, va_rf (some ao)), (4, .int x4)] [] (StepA (xR X) (f_L_fact (some ax) s1 s2 s3 (some ao)) (mo 15 (some am) (f_X12_fact (some am) s1 s2 s3)) (mo 15 (some am) (f_X12_thrown (some am))) (aL (some ao) 0) Int32.toInt64 J') := by
  refine sb_ofb (fun a9 b9 => ?_)
  refine sm_aload_n cx 1 dL_law__435 rfl rfl ?_
  refine sm_aload_n cx 0 dL_law__436 rfl rfl ?_
  refine sm_iload cx 4 dL_law__437 rfl ?_
  refine sm_iconst (v := 1) cx dL_law__439 (by decide) ?_
  refine sm_iadd cx dL_law__440 ?_
  refine sm_sldE cx hX hbl hbA i1 e1 dL_law__441 ?_
  refine sm_aload_n cx 0 dL_law__442 rfl rfl ?_
  refine sm_iload cx 4 dL_law__443 rfl ?_
  refine sm_iconst (v := 2) cx dL_law__445 (by decide) ?_
  refine sm_iadd cx dL_law__446 ?_
  refine sm_sldE cx hX hbl hbA i2 e2 dL_law__447 ?_
  refine sm_aload_n cx 0 dL_law__448 rfl rfl ?_
  refine sm_iload cx 4 dL_law__449 rfl ?_
  refine sm_iconst (v := 3) cx dL_law__451 (by decide) ?_
  refine sm_iadd cx dL_law__452 ?_
  refine sm_sldE cx hX hbl hbA i3 e3 dL_law__453 ?_
  refine sm_aload_n cx 3 dL_law__454 rfl rfl ?_
  refine sb_gob ?_ a9 b9
  refine sb_help (toV := vI) (Ψ := StepM (xR X) (mo 15 (some am) (f_X12_fact (some am) s1 s2 s3)) (mo 15 (some am) (f_X12_thrown (some am))) (aL (some ao) 0) Int32.toInt64 J') cx htr [va_rf (some ax), .int s1, .int s2, .int s3, va_rf (some ao)] cw_L_118 (ct_L_fact (xZ X) (some ax) s1 s2 s3 (some ao)) (Nat.le_trans (by decide) hfr) (Nat.le_trans (by decide) hlo) rfl (cat_le _ (Nat.le_of_ble_eq_true rfl)) dL_law__455 (fun _ _ _ hp => hp) (fun v => ?_)
  refine sb_ofb (fun a9 b9 => ?_)
  refine sm_istore cx [(5, .int v), (0, va_rf (some b)), (1, va_rf (some ax)), (2, va_rf (some am)), (3, va_rf (some ao)), (4, .int x4)] dL_law__458 (by decide) rfl (nc1 rfl) rfl ?_
  refine sm_aload_n cx 3 dL_law__460 rfl rfl ?_
  refine sm_aload_n cx 1 dL_law__461 rfl rfl ?_
  refine sm_iload cx 5 dL_law__462 rfl ?_
  refine sm_iconst (v := 1) cx dL_law__464 (by decide) ?_
  refine sm_iadd cx dL_law__465 ?_
  refine sm_sldE cx hX hbl hbA i1 e1 dL_law__466 ?_
  refine sm_aload_n cx 1 dL_law__467 rfl rfl ?_
  refine sm_iload cx 5 dL_law__468 rfl ?_
  refine sm_iconst (v := 2) cx dL_law__470 (by decide) ?_
  refine sm_iadd cx dL_law__471 ?_
  refine sm_sldE cx hX hbl hbA i2 e2 dL_law__472 ?_
  refine sm_aload_n cx 1 dL_law__473 rfl rfl ?_
  refine sm_iload cx 5 dL_law__474 rfl ?_
  refine sm_iconst (v := 3) cx dL_law__476 (by decide) ?_
  refine sm_iadd cx dL_law__477 ?_
  refine sm_sldE cx hX hbl hbA i3 e3 dL_law__478 ?_
  refine sb_gob ?_ a9 b9
  refine sb_run (pc' := 482) (lv' := fun _ => [(5, .int v), (0, va_rf (some b)), (1, va_rf (some ax)), (2, va_rf (some am)), (3, va_rf (some ao)), (4, .int x4)]) (st' := fun w => .int w :: []) (Ψ := fun w => StepT (xR X) (mo 15 (some am) (f_X12_thrown (some am))) (aL (some ao) 0) Int32.toInt64 J' v w) (fun K hK => sm_callV (T := TX12) (N := 47) (toV := vI) cx [.int s1, .int s2, .int s3] rfl cv_L_121_ (fun a h => ct_X12_fact (xZ X) a h s1 s2 s3) (Nat.le_trans (by decide) hfr) (Nat.le_trans (by decide) hlo) rfl (cat_le _ (Nat.le_of_ble_eq_true rfl)) dL_law__479 hK) (fun _ _ _ hp => hp) (fun bb => ?_)
  refine sb_ofb (fun a9 b9 => ?_)
  refine sm_istore cx [(6, .int bb), (5, .int v), (0, va_rf (some b)), (1, va_rf (some ax)), (2, va_rf (some am)), (3, va_rf (some ao)), (4, .int x4)] dL_law__482 (by decide) rfl (nc1 rfl) rfl ?_
  refine sm_aload_n cx 4 dL_law__484 rfl rfl ?_
  refine sb_gob ?_ a9 b9
  refine sb_run (pc' := 488) (lv' := fun _ => [(6, .int bb), (5, .int v), (0, va_rf (some b)), (1, va_rf (some ax)), (2, va_rf (some am)), (3, va_rf (some ao)), (4, .int x4)]) (st' := fun w => .int w :: []) (Ψ := fun w h c n => v = w ∧ StepO (aL (some ao) 0) Int32.toInt64 J' v bb h c n) (fun K hK => sm_callV (T := TX12) (N := 47) (toV := vI) cx [] rfl cv_L_104_ (fun a h => ct_X12_thrown (xZ X) a h) (Nat.le_trans (by decide) hfr) (Nat.le_trans (by decide) hlo) rfl (cat_le _ (Nat.le_of_ble_eq_true rfl)) dL_law__485 hK) (fun _ _ _ hp => by obtain ⟨h1, c1, n1, q1, q2, q3, q4⟩ := hp; exact ⟨v, h1, c1, n1, q1, ⟨rfl, q2⟩, q3, q4⟩) (fun t => sb_and (fun ht => ?_))
  subst ht
  refine sb_ofb (fun a9 b9 => ?_)
  refine sm_iload cx 1 dL_law__488 rfl ?_
  refine sb_gob ?_ a9 b9
  refine sb_icmp_eq (tgt := 495) cx dL_law__490 (by decide) (fun _ => ?_) (fun hne => absurd rfl hne)
  refine sb_ofb (fun a9 b9 => ?_)
  refine sm_iload cx 1 dL_law__495 rfl ?_
  refine sb_gob ?_ a9 b9
  refine sb_if_ne (tgt := 512) cx dL_law__497 (by decide) (fun hne => ?_) (fun h0 => ?_)
  · refine sb_imp (fun _ _ _ hp => hp.2) ?_
    refine sb_ofb (fun a9 b9 => ?_)
    refine sm_goto (tgt := 1996) cx dL_law__512 (by decide) ?_
    refine sb_gob ?_ a9 b9
    exact sb_lv [2, 3, 4, 5, 6] rfl hex
  refine sb_room (sb_imp (Ψ := StepR (xR X) (aL (some ao) 0) (Int32.toInt64 bb) J') (fun _ _ _ hp => ⟨hp.1.1 h0, hp.1.2, hp.2⟩) ?_)
  refine sb_ofb (fun a9 b9 => ?_)
  refine sm_aload_n cx 5 dL_law__500 rfl rfl ?_
  refine sm_iconst (v := 0) cx dL_law__501 (by decide) ?_
  refine sb_gob ?_ a9 b9
  refine sb_run (pc' := 503) (lv' := fun _ => [(6, .int bb), (5, .int v), (0, va_rf (some b)), (1, va_rf (some ax)), (2, va_rf (some am)), (3, va_rf (some ao)), (4, .int x4)]) (st' := fun w => .long w :: []) (Ψ := fun w h c n => w = (Int32.toInt64 bb) ∧ J' h c n) (fun K hK => sm_lald cx dL_law__502 hK) (fun h c0 n0 hp => ⟨(Int32.toInt64 bb), h, 0, 0, hp.1, ⟨rfl, hp.2.1⟩, hp.2.2.1, hp.2.2.2⟩) (fun w => sb_and (fun hw => ?_))
  subst hw
  refine sb_ofb (fun a9 b9 => ?_)
  refine sm_iload cx 0 dL_law__503 rfl ?_
  refine sm_i2l cx dL_law__505 ?_
  refine sm_lcmp cx dL_law__506 ?_
  refine sb_gob ?_ a9 b9
  refine sb_if_eq (tgt := 512) cx dL_law__507 (by decide) (fun _ => ?_) (fun hne => absurd (lg_self _) hne)
  refine sb_ofb (fun a9 b9 => ?_)
  refine sm_goto (tgt := 1996) cx dL_law__512 (by decide) ?_
  refine sb_gob ?_ a9 b9
  exact sb_lv [2, 3, 4, 5, 6] rfl hex
theorem dL_law__515 : decode cL_law_ 515 = .ok (.aload_n 1, 1) := by decide +kernel
theorem dL_law__516 : decode cL_law_ 516 = .ok (.aload_n 3, 1) := by decide +kernel
theorem dL_law__517 : decode cL_law_ 517 = .ok (.invokestatic 122, 3) := by decide +kernel
theorem dL_law__520 : decode cL_law_ 520 = .ok (.istore 5, 2) := by decide +kernel
theorem dL_law__522 : decode cL_law_ 522 = .ok (.aload_n 2, 1) := by decide +kernel
theorem dL_law__523 : decode cL_law_ 523 = .ok (.invokevirtual 125, 3) := by decide +kernel
theorem dL_law__526 : decode cL_law_ 526 = .ok (.istore 6, 2) := by decide +kernel
theorem dL_law__528 : decode cL_law_ 528 = .ok (.aload_n 2, 1) := by decide +kernel
theorem dL_law__529 : decode cL_law_ 529 = .ok (.invokevirtual 104, 3) := by decide +kernel
theorem dL_law__532 : decode cL_law_ 532 = .ok (.iload 5, 2) := by decide +kernel
theorem dL_law__534 : decode cL_law_ 534 = .ok (.if_icmp .eq 5, 3) := by decide +kernel
theorem dL_law__537 : decode cL_law_ 537 = .ok (.iconst 0, 1) := by decide +kernel
theorem dL_law__538 : decode cL_law_ 538 = .ok (.ireturn, 1) := by decide +kernel
theorem dL_law__539 : decode cL_law_ 539 = .ok (.iload 5, 2) := by decide +kernel
theorem dL_law__541 : decode cL_law_ 541 = .ok (.ifCond .ne 15, 3) := by decide +kernel
theorem dL_law__544 : decode cL_law_ 544 = .ok (.aload_n 3, 1) := by decide +kernel
theorem dL_law__545 : decode cL_law_ 545 = .ok (.iconst 0, 1) := by decide +kernel
theorem dL_law__546 : decode cL_law_ 546 = .ok (.laload, 1) := by decide +kernel
theorem dL_law__547 : decode cL_law_ 547 = .ok (.iload 6, 2) := by decide +kernel
theorem dL_law__549 : decode cL_law_ 549 = .ok (.i2l, 1) := by decide +kernel
theorem dL_law__550 : decode cL_law_ 550 = .ok (.lcmp, 1) := by decide +kernel
theorem dL_law__551 : decode cL_law_ 551 = .ok (.ifCond .eq 5, 3) := by decide +kernel
theorem dL_law__554 : decode cL_law_ 554 = .ok (.iconst 0, 1) := by decide +kernel
theorem dL_law__555 : decode cL_law_ 555 = .ok (.ireturn, 1) := by decide +kernel
theorem dL_law__556 : decode cL_law_ 556 = .ok (.goto 1440, 3) := by decide +kernel
set_option maxRecDepth 100000 in
set_option maxHeartbeats 4000000 in
theorem lc_5 {X : Cg} (cx : Cx X cL_law_ RL 7) (htr : (xL X).stackTraces = false) (hfr : 74 ≤ (xR X).frames) (hlo : 1500 ≤ (xR X).locals) {Q : State → Prop} {b L : Nat} {xs : Nat → Int32} (hX : va_X b L xs (xS X) (xS X).heap) (hbl : b < (xS X).heap.size) (hbA : ¬ xA X b) (ax am ao : Nat) (x4 : Int32) {J' : Hs → Nat → Nat → Prop} (hex : SimB X 7 Q 1996 [(0, va_rf (some b)), (1, va_rf (some ax)), (2, va_rf (some am)), (3, va_rf (some ao)), (4, .int x4)] [] J') : SimB X 7 Q 515 [(0, va_rf (some b)), (1, va_rf (some ax)), (2, va_rf (some am)), (3, va_rf (some ao)), (4, .int x4)] [] (StepA (xR X) (f_L_group (some ax) (some ao)) (mo 15 (some am) (f_X12_group (some am))) (mo 15 (some am) (f_X12_thrown (some am))) (aL (some ao) 0) Int32.toInt64 J') := by
  refine sb_ofb (fun a9 b9 => ?_)
  refine sm_aload_n cx 1 dL_law__515 rfl rfl ?_
  refine sm_aload_n cx 3 dL_law__516 rfl rfl ?_
  refine sb_gob ?_ a9 b9
  refine sb_help (toV := vI) (Ψ := StepM (xR X) (mo 15 (some am) (f_X12_group (some am))) (mo 15 (some am) (f_X12_thrown (some am))) (aL (some ao) 0) Int32.toInt64 J') cx htr [va_rf (some ax), va_rf (some ao)] cw_L_122 (ct_L_group (xZ X) (some ax) (some ao)) (Nat.le_trans (by decide) hfr) (Nat.le_trans (by decide) hlo) rfl (cat_le _ (Nat.le_of_ble_eq_true rfl)) dL_law__517 (fun _ _ _ hp => hp) (fun v => ?_)
  refine sb_ofb (fun a9 b9 => ?_)
  refine sm_istore cx [(5, .int v), (0, va_rf (some b)), (1, va_rf (some ax)), (2, va_rf (some am)), (3, va_rf (some ao)), (4, .int x4)] dL_law__520 (by decide) rfl (nc1 rfl) rfl ?_
  refine sm_aload_n cx 3 dL_law__522 rfl rfl ?_
  refine sb_gob ?_ a9 b9
  refine sb_run (pc' := 526) (lv' := fun _ => [(5, .int v), (0, va_rf (some b)), (1, va_rf (some ax)), (2, va_rf (some am)), (3, va_rf (some ao)), (4, .int x4)]) (st' := fun w => .int w :: []) (Ψ := fun w => StepT (xR X) (mo 15 (some am) (f_X12_thrown (some am))) (aL (some ao) 0) Int32.toInt64 J' v w) (fun K hK => sm_callV (T := TX12) (N := 47) (toV := vI) cx [] rfl cv_L_125_ (fun a h => ct_X12_group (xZ X) a h) (Nat.le_trans (by decide) hfr) (Nat.le_trans (by decide) hlo) rfl (cat_le _ (Nat.le_of_ble_eq_true rfl)) dL_law__523 hK) (fun _ _ _ hp => hp) (fun bb => ?_)
  refine sb_ofb (fun a9 b9 => ?_)
  refine sm_istore cx [(6, .int bb), (5, .int v), (0, va_rf (some b)), (1, va_rf (some ax)), (2, va_rf (some am)), (3, va_rf (some ao)), (4, .int x4)] dL_law__526 (by decide) rfl (nc1 rfl) rfl ?_
  refine sm_aload_n cx 4 dL_law__528 rfl rfl ?_
  refine sb_gob ?_ a9 b9
  refine sb_run (pc' := 532) (lv' := fun _ => [(6, .int bb), (5, .int v), (0, va_rf (some b)), (1, va_rf (some ax)), (2, va_rf (some am)), (3, va_rf (some ao)), (4, .int x4)]) (st' := fun w => .int w :: []) (Ψ := fun w h c n => v = w ∧ StepO (aL (some ao) 0) Int32.toInt64 J' v bb h c n) (fun K hK => sm_callV (T := TX12) (N := 47) (toV := vI) cx [] rfl cv_L_104_ (fun a h => ct_X12_thrown (xZ X) a h) (Nat.le_trans (by decide) hfr) (Nat.le_trans (by decide) hlo) rfl (cat_le _ (Nat.le_of_ble_eq_true rfl)) dL_law__529 hK) (fun _ _ _ hp => by obtain ⟨h1, c1, n1, q1, q2, q3, q4⟩ := hp; exact ⟨v, h1, c1, n1, q1, ⟨rfl, q2⟩, q3, q4⟩) (fun t => sb_and (fun ht => ?_))
  subst ht
  refine sb_ofb (fun a9 b9 => ?_)
  refine sm_iload cx 1 dL_law__532 rfl ?_
  refine sb_gob ?_ a9 b9
  refine sb_icmp_eq (tgt := 539) cx dL_law__534 (by decide) (fun _ => ?_) (fun hne => absurd rfl hne)
  refine sb_ofb (fun a9 b9 => ?_)
  refine sm_iload cx 1 dL_law__539 rfl ?_
  refine sb_gob ?_ a9 b9
  refine sb_if_ne (tgt := 556) cx dL_law__541 (by decide) (fun hne => ?_) (fun h0 => ?_)
  · refine sb_imp (fun _ _ _ hp => hp.2) ?_
    refine sb_ofb (fun a9 b9 => ?_)
    refine sm_goto (tgt := 1996) cx dL_law__556 (by decide) ?_
    refine sb_gob ?_ a9 b9
    exact sb_lv [2, 3, 4, 5, 6] rfl hex
  refine sb_room (sb_imp (Ψ := StepR (xR X) (aL (some ao) 0) (Int32.toInt64 bb) J') (fun _ _ _ hp => ⟨hp.1.1 h0, hp.1.2, hp.2⟩) ?_)
  refine sb_ofb (fun a9 b9 => ?_)
  refine sm_aload_n cx 5 dL_law__544 rfl rfl ?_
  refine sm_iconst (v := 0) cx dL_law__545 (by decide) ?_
  refine sb_gob ?_ a9 b9
  refine sb_run (pc' := 547) (lv' := fun _ => [(6, .int bb), (5, .int v), (0, va_rf (some b)), (1, va_rf (some ax)), (2, va_rf (some am)), (3, va_rf (some ao)), (4, .int x4)]) (st' := fun w => .long w :: []) (Ψ := fun w h c n => w = (Int32.toInt64 bb) ∧ J' h c n) (fun K hK => sm_lald cx dL_law__546 hK) (fun h c0 n0 hp => ⟨(Int32.toInt64 bb), h, 0, 0, hp.1, ⟨rfl, hp.2.1⟩, hp.2.2.1, hp.2.2.2⟩) (fun w => sb_and (fun hw => ?_))
  subst hw
  refine sb_ofb (fun a9 b9 => ?_)
  refine sm_iload cx 0 dL_law__547 rfl ?_
  refine sm_i2l cx dL_law__549 ?_
  refine sm_lcmp cx dL_law__550 ?_
  refine sb_gob ?_ a9 b9
  refine sb_if_eq (tgt := 556) cx dL_law__551 (by decide) (fun _ => ?_) (fun hne => absurd (lg_self _) hne)
  refine sb_ofb (fun a9 b9 => ?_)
  refine sm_goto (tgt := 1996) cx dL_law__556 (by decide) ?_
  refine sb_gob ?_ a9 b9
  exact sb_lv [2, 3, 4, 5, 6] rfl hex
theorem dL_law__559 : decode cL_law_ 559 = .ok (.aload_n 1, 1) := by decide +kernel
theorem dL_law__560 : decode cL_law_ 560 = .ok (.aload_n 0, 1) := by decide +kernel
theorem dL_law__561 : decode cL_law_ 561 = .ok (.iload 4, 2) := by decide +kernel
theorem dL_law__563 : decode cL_law_ 563 = .ok (.iconst 1, 1) := by decide +kernel
theorem dL_law__564 : decode cL_law_ 564 = .ok (.iadd, 1) := by decide +kernel
theorem dL_law__565 : decode cL_law_ 565 = .ok (.iaload, 1) := by decide +kernel
theorem dL_law__566 : decode cL_law_ 566 = .ok (.aload_n 0, 1) := by decide +kernel
theorem dL_law__567 : decode cL_law_ 567 = .ok (.iload 4, 2) := by decide +kernel
theorem dL_law__569 : decode cL_law_ 569 = .ok (.iconst 2, 1) := by decide +kernel
theorem dL_law__570 : decode cL_law_ 570 = .ok (.iadd, 1) := by decide +kernel
theorem dL_law__571 : decode cL_law_ 571 = .ok (.iaload, 1) := by decide +kernel
theorem dL_law__572 : decode cL_law_ 572 = .ok (.aload_n 0, 1) := by decide +kernel
theorem dL_law__573 : decode cL_law_ 573 = .ok (.iload 4, 2) := by decide +kernel
theorem dL_law__575 : decode cL_law_ 575 = .ok (.iconst 3, 1) := by decide +kernel
theorem dL_law__576 : decode cL_law_ 576 = .ok (.iadd, 1) := by decide +kernel
theorem dL_law__577 : decode cL_law_ 577 = .ok (.iaload, 1) := by decide +kernel
theorem dL_law__578 : decode cL_law_ 578 = .ok (.ifCond .eq 7, 3) := by decide +kernel
theorem dL_law__581 : decode cL_law_ 581 = .ok (.iconst 1, 1) := by decide +kernel
theorem dL_law__582 : decode cL_law_ 582 = .ok (.goto 4, 3) := by decide +kernel
theorem dL_law__585 : decode cL_law_ 585 = .ok (.iconst 0, 1) := by decide +kernel
theorem dL_law__586 : decode cL_law_ 586 = .ok (.aload_n 3, 1) := by decide +kernel
theorem dL_law__587 : decode cL_law_ 587 = .ok (.invokestatic 126, 3) := by decide +kernel
theorem dL_law__590 : decode cL_law_ 590 = .ok (.istore 5, 2) := by decide +kernel
theorem dL_law__592 : decode cL_law_ 592 = .ok (.aload_n 2, 1) := by decide +kernel
theorem dL_law__593 : decode cL_law_ 593 = .ok (.aload_n 0, 1) := by decide +kernel
theorem dL_law__594 : decode cL_law_ 594 = .ok (.iload 4, 2) := by decide +kernel
theorem dL_law__596 : decode cL_law_ 596 = .ok (.iconst 1, 1) := by decide +kernel
theorem dL_law__597 : decode cL_law_ 597 = .ok (.iadd, 1) := by decide +kernel
theorem dL_law__598 : decode cL_law_ 598 = .ok (.iaload, 1) := by decide +kernel
theorem dL_law__599 : decode cL_law_ 599 = .ok (.aload_n 0, 1) := by decide +kernel
theorem dL_law__600 : decode cL_law_ 600 = .ok (.iload 4, 2) := by decide +kernel
theorem dL_law__602 : decode cL_law_ 602 = .ok (.iconst 2, 1) := by decide +kernel
theorem dL_law__603 : decode cL_law_ 603 = .ok (.iadd, 1) := by decide +kernel
theorem dL_law__604 : decode cL_law_ 604 = .ok (.iaload, 1) := by decide +kernel
theorem dL_law__605 : decode cL_law_ 605 = .ok (.aload_n 0, 1) := by decide +kernel
theorem dL_law__606 : decode cL_law_ 606 = .ok (.iload 4, 2) := by decide +kernel
theorem dL_law__608 : decode cL_law_ 608 = .ok (.iconst 3, 1) := by decide +kernel
theorem dL_law__609 : decode cL_law_ 609 = .ok (.iadd, 1) := by decide +kernel
theorem dL_law__610 : decode cL_law_ 610 = .ok (.iaload, 1) := by decide +kernel
theorem dL_law__611 : decode cL_law_ 611 = .ok (.ifCond .eq 7, 3) := by decide +kernel
theorem dL_law__614 : decode cL_law_ 614 = .ok (.iconst 1, 1) := by decide +kernel
theorem dL_law__615 : decode cL_law_ 615 = .ok (.goto 4, 3) := by decide +kernel
theorem dL_law__618 : decode cL_law_ 618 = .ok (.iconst 0, 1) := by decide +kernel
theorem dL_law__619 : decode cL_law_ 619 = .ok (.invokevirtual 129, 3) := by decide +kernel
theorem dL_law__622 : decode cL_law_ 622 = .ok (.istore 6, 2) := by decide +kernel
theorem dL_law__624 : decode cL_law_ 624 = .ok (.aload_n 2, 1) := by decide +kernel
theorem dL_law__625 : decode cL_law_ 625 = .ok (.invokevirtual 104, 3) := by decide +kernel
theorem dL_law__628 : decode cL_law_ 628 = .ok (.iload 5, 2) := by decide +kernel
theorem dL_law__630 : decode cL_law_ 630 = .ok (.if_icmp .eq 5, 3) := by decide +kernel
theorem dL_law__633 : decode cL_law_ 633 = .ok (.iconst 0, 1) := by decide +kernel
theorem dL_law__634 : decode cL_law_ 634 = .ok (.ireturn, 1) := by decide +kernel
theorem dL_law__635 : decode cL_law_ 635 = .ok (.iload 5, 2) := by decide +kernel
theorem dL_law__637 : decode cL_law_ 637 = .ok (.ifCond .ne 22, 3) := by decide +kernel
theorem dL_law__640 : decode cL_law_ 640 = .ok (.aload_n 3, 1) := by decide +kernel
theorem dL_law__641 : decode cL_law_ 641 = .ok (.iconst 0, 1) := by decide +kernel
theorem dL_law__642 : decode cL_law_ 642 = .ok (.laload, 1) := by decide +kernel
theorem dL_law__643 : decode cL_law_ 643 = .ok (.iload 6, 2) := by decide +kernel
theorem dL_law__645 : decode cL_law_ 645 = .ok (.ifCond .eq 7, 3) := by decide +kernel
theorem dL_law__648 : decode cL_law_ 648 = .ok (.lconst 1, 1) := by decide +kernel
theorem dL_law__649 : decode cL_law_ 649 = .ok (.goto 4, 3) := by decide +kernel
theorem dL_law__652 : decode cL_law_ 652 = .ok (.lconst 0, 1) := by decide +kernel
theorem dL_law__653 : decode cL_law_ 653 = .ok (.lcmp, 1) := by decide +kernel
theorem dL_law__654 : decode cL_law_ 654 = .ok (.ifCond .eq 5, 3) := by decide +kernel
theorem dL_law__657 : decode cL_law_ 657 = .ok (.iconst 0, 1) := by decide +kernel
theorem dL_law__658 : decode cL_law_ 658 = .ok (.ireturn, 1) := by decide +kernel
theorem dL_law__659 : decode cL_law_ 659 = .ok (.goto 1337, 3) := by decide +kernel
set_option maxRecDepth 100000 in
set_option maxHeartbeats 4000000 in
theorem lc_6 {X : Cg} (cx : Cx X cL_law_ RL 7) (htr : (xL X).stackTraces = false) (hfr : 74 ≤ (xR X).frames) (hlo : 1500 ≤ (xR X).locals) {Q : State → Prop} {b L : Nat} {xs : Nat → Int32} (hX : va_X b L xs (xS X) (xS X).heap) (hbl : b < (xS X).heap.size) (hbA : ¬ xA X b) (ax am ao : Nat) (x4 : Int32) (s1 : Int32) (e1 : xs (x4 + 1).toNatClampNeg = s1) (i1 : vp_in (x4 + 1) L) (s2 : Int32) (e2 : xs (x4 + 2).toNatClampNeg = s2) (i2 : vp_in (x4 + 2) L) (s3 : Int32) (e3 : xs (x4 + 3).toNatClampNeg = s3) (i3 : vp_in (x4 + 3) L) {J' : Hs → Nat → Nat → Prop} (hex : SimB X 7 Q 1996 [(0, va_rf (some b)), (1, va_rf (some ax)), (2, va_rf (some am)), (3, va_rf (some ao)), (4, .int x4)] [] J') : SimB X 7 Q 559 [(0, va_rf (some b)), (1, va_rf (some ax)), (2, va_rf (some am)), (3, va_rf (some ao)), (4, .int x4)] [] (StepA (xR X) (f_L_joins (some ax) s1 s2 (bz s3) (some ao)) (mo 15 (some am) (f_X12_joins (some am) s1 s2 (bz s3))) (mo 15 (some am) (f_X12_thrown (some am))) (aL (some ao) 0) bzL J') := by
  refine sb_ofb (fun a9 b9 => ?_)
  refine sm_aload_n cx 1 dL_law__559 rfl rfl ?_
  refine sm_aload_n cx 0 dL_law__560 rfl rfl ?_
  refine sm_iload cx 4 dL_law__561 rfl ?_
  refine sm_iconst (v := 1) cx dL_law__563 (by decide) ?_
  refine sm_iadd cx dL_law__564 ?_
  refine sm_sldE cx hX hbl hbA i1 e1 dL_law__565 ?_
  refine sm_aload_n cx 0 dL_law__566 rfl rfl ?_
  refine sm_iload cx 4 dL_law__567 rfl ?_
  refine sm_iconst (v := 2) cx dL_law__569 (by decide) ?_
  refine sm_iadd cx dL_law__570 ?_
  refine sm_sldE cx hX hbl hbA i2 e2 dL_law__571 ?_
  refine sm_aload_n cx 0 dL_law__572 rfl rfl ?_
  refine sm_iload cx 4 dL_law__573 rfl ?_
  refine sm_iconst (v := 3) cx dL_law__575 (by decide) ?_
  refine sm_iadd cx dL_law__576 ?_
  refine sm_sldE cx hX hbl hbA i3 e3 dL_law__577 ?_
  refine sb_gob ?_ a9 b9
  refine sb_bool cx dL_law__578 dL_law__581 dL_law__582 dL_law__585 ?_
  refine sb_ofb (fun a9 b9 => ?_)
  refine sm_aload_n cx 3 dL_law__586 rfl rfl ?_
  refine sb_gob ?_ a9 b9
  refine sb_help (toV := vI) (Ψ := StepM (xR X) (mo 15 (some am) (f_X12_joins (some am) s1 s2 (bz s3))) (mo 15 (some am) (f_X12_thrown (some am))) (aL (some ao) 0) bzL J') cx htr [va_rf (some ax), .int s1, .int s2, .int (bz s3), va_rf (some ao)] cw_L_126 (ct_L_joins (xZ X) (some ax) s1 s2 (bz s3) (some ao)) (Nat.le_trans (by decide) hfr) (Nat.le_trans (by decide) hlo) rfl (cat_le _ (Nat.le_of_ble_eq_true rfl)) dL_law__587 (fun _ _ _ hp => hp) (fun v => ?_)
  refine sb_ofb (fun a9 b9 => ?_)
  refine sm_istore cx [(5, .int v), (0, va_rf (some b)), (1, va_rf (some ax)), (2, va_rf (some am)), (3, va_rf (some ao)), (4, .int x4)] dL_law__590 (by decide) rfl (nc1 rfl) rfl ?_
  refine sm_aload_n cx 3 dL_law__592 rfl rfl ?_
  refine sm_aload_n cx 1 dL_law__593 rfl rfl ?_
  refine sm_iload cx 5 dL_law__594 rfl ?_
  refine sm_iconst (v := 1) cx dL_law__596 (by decide) ?_
  refine sm_iadd cx dL_law__597 ?_
  refine sm_sldE cx hX hbl hbA i1 e1 dL_law__598 ?_
  refine sm_aload_n cx 1 dL_law__599 rfl rfl ?_
  refine sm_iload cx 5 dL_law__600 rfl ?_
  refine sm_iconst (v := 2) cx dL_law__602 (by decide) ?_
  refine sm_iadd cx dL_law__603 ?_
  refine sm_sldE cx hX hbl hbA i2 e2 dL_law__604 ?_
  refine sm_aload_n cx 1 dL_law__605 rfl rfl ?_
  refine sm_iload cx 5 dL_law__606 rfl ?_
  refine sm_iconst (v := 3) cx dL_law__608 (by decide) ?_
  refine sm_iadd cx dL_law__609 ?_
  refine sm_sldE cx hX hbl hbA i3 e3 dL_law__610 ?_
  refine sb_gob ?_ a9 b9
  refine sb_bool cx dL_law__611 dL_law__614 dL_law__615 dL_law__618 ?_
  refine sb_run (pc' := 622) (lv' := fun _ => [(5, .int v), (0, va_rf (some b)), (1, va_rf (some ax)), (2, va_rf (some am)), (3, va_rf (some ao)), (4, .int x4)]) (st' := fun w => .int w :: []) (Ψ := fun w => StepT (xR X) (mo 15 (some am) (f_X12_thrown (some am))) (aL (some ao) 0) bzL J' v w) (fun K hK => sm_callV (T := TX12) (N := 47) (toV := vI) cx [.int s1, .int s2, .int (bz s3)] rfl cv_L_129_ (fun a h => ct_X12_joins (xZ X) a h s1 s2 (bz s3)) (Nat.le_trans (by decide) hfr) (Nat.le_trans (by decide) hlo) rfl (cat_le _ (Nat.le_of_ble_eq_true rfl)) dL_law__619 hK) (fun _ _ _ hp => hp) (fun bb => ?_)
  refine sb_ofb (fun a9 b9 => ?_)
  refine sm_istore cx [(6, .int bb), (5, .int v), (0, va_rf (some b)), (1, va_rf (some ax)), (2, va_rf (some am)), (3, va_rf (some ao)), (4, .int x4)] dL_law__622 (by decide) rfl (nc1 rfl) rfl ?_
  refine sm_aload_n cx 4 dL_law__624 rfl rfl ?_
  refine sb_gob ?_ a9 b9
  refine sb_run (pc' := 628) (lv' := fun _ => [(6, .int bb), (5, .int v), (0, va_rf (some b)), (1, va_rf (some ax)), (2, va_rf (some am)), (3, va_rf (some ao)), (4, .int x4)]) (st' := fun w => .int w :: []) (Ψ := fun w h c n => v = w ∧ StepO (aL (some ao) 0) bzL J' v bb h c n) (fun K hK => sm_callV (T := TX12) (N := 47) (toV := vI) cx [] rfl cv_L_104_ (fun a h => ct_X12_thrown (xZ X) a h) (Nat.le_trans (by decide) hfr) (Nat.le_trans (by decide) hlo) rfl (cat_le _ (Nat.le_of_ble_eq_true rfl)) dL_law__625 hK) (fun _ _ _ hp => by obtain ⟨h1, c1, n1, q1, q2, q3, q4⟩ := hp; exact ⟨v, h1, c1, n1, q1, ⟨rfl, q2⟩, q3, q4⟩) (fun t => sb_and (fun ht => ?_))
  subst ht
  refine sb_ofb (fun a9 b9 => ?_)
  refine sm_iload cx 1 dL_law__628 rfl ?_
  refine sb_gob ?_ a9 b9
  refine sb_icmp_eq (tgt := 635) cx dL_law__630 (by decide) (fun _ => ?_) (fun hne => absurd rfl hne)
  refine sb_ofb (fun a9 b9 => ?_)
  refine sm_iload cx 1 dL_law__635 rfl ?_
  refine sb_gob ?_ a9 b9
  refine sb_if_ne (tgt := 659) cx dL_law__637 (by decide) (fun hne => ?_) (fun h0 => ?_)
  · refine sb_imp (fun _ _ _ hp => hp.2) ?_
    refine sb_ofb (fun a9 b9 => ?_)
    refine sm_goto (tgt := 1996) cx dL_law__659 (by decide) ?_
    refine sb_gob ?_ a9 b9
    exact sb_lv [2, 3, 4, 5, 6] rfl hex
  refine sb_room (sb_imp (Ψ := StepR (xR X) (aL (some ao) 0) (bzL bb) J') (fun _ _ _ hp => ⟨hp.1.1 h0, hp.1.2, hp.2⟩) ?_)
  refine sb_ofb (fun a9 b9 => ?_)
  refine sm_aload_n cx 5 dL_law__640 rfl rfl ?_
  refine sm_iconst (v := 0) cx dL_law__641 (by decide) ?_
  refine sb_gob ?_ a9 b9
  refine sb_run (pc' := 643) (lv' := fun _ => [(6, .int bb), (5, .int v), (0, va_rf (some b)), (1, va_rf (some ax)), (2, va_rf (some am)), (3, va_rf (some ao)), (4, .int x4)]) (st' := fun w => .long w :: []) (Ψ := fun w h c n => w = (bzL bb) ∧ J' h c n) (fun K hK => sm_lald cx dL_law__642 hK) (fun h c0 n0 hp => ⟨(bzL bb), h, 0, 0, hp.1, ⟨rfl, hp.2.1⟩, hp.2.2.1, hp.2.2.2⟩) (fun w => sb_and (fun hw => ?_))
  subst hw
  refine sb_ofb (fun a9 b9 => ?_)
  refine sm_iload cx 0 dL_law__643 rfl ?_
  refine sb_gob ?_ a9 b9
  refine sb_boolL cx dL_law__645 dL_law__648 dL_law__649 dL_law__652 ?_
  refine sb_ofb (fun a9 b9 => ?_)
  refine sm_lcmp cx dL_law__653 ?_
  refine sb_gob ?_ a9 b9
  refine sb_if_eq (tgt := 659) cx dL_law__654 (by decide) (fun _ => ?_) (fun hne => absurd (lg_self _) hne)
  refine sb_ofb (fun a9 b9 => ?_)
  refine sm_goto (tgt := 1996) cx dL_law__659 (by decide) ?_
  refine sb_gob ?_ a9 b9
  exact sb_lv [2, 3, 4, 5, 6] rfl hex
theorem dL_law__662 : decode cL_law_ 662 = .ok (.aload_n 1, 1) := by decide +kernel
theorem dL_law__663 : decode cL_law_ 663 = .ok (.aload_n 0, 1) := by decide +kernel
theorem dL_law__664 : decode cL_law_ 664 = .ok (.iload 4, 2) := by decide +kernel
theorem dL_law__666 : decode cL_law_ 666 = .ok (.iconst 1, 1) := by decide +kernel
theorem dL_law__667 : decode cL_law_ 667 = .ok (.iadd, 1) := by decide +kernel
theorem dL_law__668 : decode cL_law_ 668 = .ok (.iaload, 1) := by decide +kernel
theorem dL_law__669 : decode cL_law_ 669 = .ok (.aload_n 0, 1) := by decide +kernel
theorem dL_law__670 : decode cL_law_ 670 = .ok (.iload 4, 2) := by decide +kernel
theorem dL_law__672 : decode cL_law_ 672 = .ok (.iconst 2, 1) := by decide +kernel
theorem dL_law__673 : decode cL_law_ 673 = .ok (.iadd, 1) := by decide +kernel
theorem dL_law__674 : decode cL_law_ 674 = .ok (.iaload, 1) := by decide +kernel
theorem dL_law__675 : decode cL_law_ 675 = .ok (.aload_n 0, 1) := by decide +kernel
theorem dL_law__676 : decode cL_law_ 676 = .ok (.iload 4, 2) := by decide +kernel
theorem dL_law__678 : decode cL_law_ 678 = .ok (.iconst 3, 1) := by decide +kernel
theorem dL_law__679 : decode cL_law_ 679 = .ok (.iadd, 1) := by decide +kernel
theorem dL_law__680 : decode cL_law_ 680 = .ok (.iaload, 1) := by decide +kernel
theorem dL_law__681 : decode cL_law_ 681 = .ok (.ifCond .eq 7, 3) := by decide +kernel
theorem dL_law__684 : decode cL_law_ 684 = .ok (.iconst 1, 1) := by decide +kernel
theorem dL_law__685 : decode cL_law_ 685 = .ok (.goto 4, 3) := by decide +kernel
theorem dL_law__688 : decode cL_law_ 688 = .ok (.iconst 0, 1) := by decide +kernel
theorem dL_law__689 : decode cL_law_ 689 = .ok (.aload_n 3, 1) := by decide +kernel
theorem dL_law__690 : decode cL_law_ 690 = .ok (.invokestatic 130, 3) := by decide +kernel
theorem dL_law__693 : decode cL_law_ 693 = .ok (.istore 5, 2) := by decide +kernel
theorem dL_law__695 : decode cL_law_ 695 = .ok (.aload_n 2, 1) := by decide +kernel
theorem dL_law__696 : decode cL_law_ 696 = .ok (.aload_n 0, 1) := by decide +kernel
theorem dL_law__697 : decode cL_law_ 697 = .ok (.iload 4, 2) := by decide +kernel
theorem dL_law__699 : decode cL_law_ 699 = .ok (.iconst 1, 1) := by decide +kernel
theorem dL_law__700 : decode cL_law_ 700 = .ok (.iadd, 1) := by decide +kernel
theorem dL_law__701 : decode cL_law_ 701 = .ok (.iaload, 1) := by decide +kernel
theorem dL_law__702 : decode cL_law_ 702 = .ok (.aload_n 0, 1) := by decide +kernel
theorem dL_law__703 : decode cL_law_ 703 = .ok (.iload 4, 2) := by decide +kernel
theorem dL_law__705 : decode cL_law_ 705 = .ok (.iconst 2, 1) := by decide +kernel
theorem dL_law__706 : decode cL_law_ 706 = .ok (.iadd, 1) := by decide +kernel
theorem dL_law__707 : decode cL_law_ 707 = .ok (.iaload, 1) := by decide +kernel
theorem dL_law__708 : decode cL_law_ 708 = .ok (.aload_n 0, 1) := by decide +kernel
theorem dL_law__709 : decode cL_law_ 709 = .ok (.iload 4, 2) := by decide +kernel
theorem dL_law__711 : decode cL_law_ 711 = .ok (.iconst 3, 1) := by decide +kernel
theorem dL_law__712 : decode cL_law_ 712 = .ok (.iadd, 1) := by decide +kernel
theorem dL_law__713 : decode cL_law_ 713 = .ok (.iaload, 1) := by decide +kernel
theorem dL_law__714 : decode cL_law_ 714 = .ok (.ifCond .eq 7, 3) := by decide +kernel
theorem dL_law__717 : decode cL_law_ 717 = .ok (.iconst 1, 1) := by decide +kernel
theorem dL_law__718 : decode cL_law_ 718 = .ok (.goto 4, 3) := by decide +kernel
theorem dL_law__721 : decode cL_law_ 721 = .ok (.iconst 0, 1) := by decide +kernel
theorem dL_law__722 : decode cL_law_ 722 = .ok (.invokevirtual 132, 3) := by decide +kernel
theorem dL_law__725 : decode cL_law_ 725 = .ok (.istore 6, 2) := by decide +kernel
theorem dL_law__727 : decode cL_law_ 727 = .ok (.aload_n 2, 1) := by decide +kernel
theorem dL_law__728 : decode cL_law_ 728 = .ok (.invokevirtual 104, 3) := by decide +kernel
theorem dL_law__731 : decode cL_law_ 731 = .ok (.iload 5, 2) := by decide +kernel
theorem dL_law__733 : decode cL_law_ 733 = .ok (.if_icmp .eq 5, 3) := by decide +kernel
theorem dL_law__736 : decode cL_law_ 736 = .ok (.iconst 0, 1) := by decide +kernel
theorem dL_law__737 : decode cL_law_ 737 = .ok (.ireturn, 1) := by decide +kernel
theorem dL_law__738 : decode cL_law_ 738 = .ok (.iload 5, 2) := by decide +kernel
theorem dL_law__740 : decode cL_law_ 740 = .ok (.ifCond .ne 22, 3) := by decide +kernel
theorem dL_law__743 : decode cL_law_ 743 = .ok (.aload_n 3, 1) := by decide +kernel
theorem dL_law__744 : decode cL_law_ 744 = .ok (.iconst 0, 1) := by decide +kernel
theorem dL_law__745 : decode cL_law_ 745 = .ok (.laload, 1) := by decide +kernel
theorem dL_law__746 : decode cL_law_ 746 = .ok (.iload 6, 2) := by decide +kernel
theorem dL_law__748 : decode cL_law_ 748 = .ok (.ifCond .eq 7, 3) := by decide +kernel
theorem dL_law__751 : decode cL_law_ 751 = .ok (.lconst 1, 1) := by decide +kernel
theorem dL_law__752 : decode cL_law_ 752 = .ok (.goto 4, 3) := by decide +kernel
theorem dL_law__755 : decode cL_law_ 755 = .ok (.lconst 0, 1) := by decide +kernel
theorem dL_law__756 : decode cL_law_ 756 = .ok (.lcmp, 1) := by decide +kernel
theorem dL_law__757 : decode cL_law_ 757 = .ok (.ifCond .eq 5, 3) := by decide +kernel
theorem dL_law__760 : decode cL_law_ 760 = .ok (.iconst 0, 1) := by decide +kernel
theorem dL_law__761 : decode cL_law_ 761 = .ok (.ireturn, 1) := by decide +kernel
theorem dL_law__762 : decode cL_law_ 762 = .ok (.goto 1234, 3) := by decide +kernel
set_option maxRecDepth 100000 in
set_option maxHeartbeats 4000000 in
theorem lc_7 {X : Cg} (cx : Cx X cL_law_ RL 7) (htr : (xL X).stackTraces = false) (hfr : 74 ≤ (xR X).frames) (hlo : 1500 ≤ (xR X).locals) {Q : State → Prop} {b L : Nat} {xs : Nat → Int32} (hX : va_X b L xs (xS X) (xS X).heap) (hbl : b < (xS X).heap.size) (hbA : ¬ xA X b) (ax am ao : Nat) (x4 : Int32) (s1 : Int32) (e1 : xs (x4 + 1).toNatClampNeg = s1) (i1 : vp_in (x4 + 1) L) (s2 : Int32) (e2 : xs (x4 + 2).toNatClampNeg = s2) (i2 : vp_in (x4 + 2) L) (s3 : Int32) (e3 : xs (x4 + 3).toNatClampNeg = s3) (i3 : vp_in (x4 + 3) L) {J' : Hs → Nat → Nat → Prop} (hex : SimB X 7 Q 1996 [(0, va_rf (some b)), (1, va_rf (some ax)), (2, va_rf (some am)), (3, va_rf (some ao)), (4, .int x4)] [] J') : SimB X 7 Q 662 [(0, va_rf (some b)), (1, va_rf (some ax)), (2, va_rf (some am)), (3, va_rf (some ao)), (4, .int x4)] [] (StepA (xR X) (f_L_within (some ax) s1 s2 (bz s3) (some ao)) (mo 15 (some am) (f_X12_within (some am) s1 s2 (bz s3))) (mo 15 (some am) (f_X12_thrown (some am))) (aL (some ao) 0) bzL J') := by
  refine sb_ofb (fun a9 b9 => ?_)
  refine sm_aload_n cx 1 dL_law__662 rfl rfl ?_
  refine sm_aload_n cx 0 dL_law__663 rfl rfl ?_
  refine sm_iload cx 4 dL_law__664 rfl ?_
  refine sm_iconst (v := 1) cx dL_law__666 (by decide) ?_
  refine sm_iadd cx dL_law__667 ?_
  refine sm_sldE cx hX hbl hbA i1 e1 dL_law__668 ?_
  refine sm_aload_n cx 0 dL_law__669 rfl rfl ?_
  refine sm_iload cx 4 dL_law__670 rfl ?_
  refine sm_iconst (v := 2) cx dL_law__672 (by decide) ?_
  refine sm_iadd cx dL_law__673 ?_
  refine sm_sldE cx hX hbl hbA i2 e2 dL_law__674 ?_
  refine sm_aload_n cx 0 dL_law__675 rfl rfl ?_
  refine sm_iload cx 4 dL_law__676 rfl ?_
  refine sm_iconst (v := 3) cx dL_law__678 (by decide) ?_
  refine sm_iadd cx dL_law__679 ?_
  refine sm_sldE cx hX hbl hbA i3 e3 dL_law__680 ?_
  refine sb_gob ?_ a9 b9
  refine sb_bool cx dL_law__681 dL_law__684 dL_law__685 dL_law__688 ?_
  refine sb_ofb (fun a9 b9 => ?_)
  refine sm_aload_n cx 3 dL_law__689 rfl rfl ?_
  refine sb_gob ?_ a9 b9
  refine sb_help (toV := vI) (Ψ := StepM (xR X) (mo 15 (some am) (f_X12_within (some am) s1 s2 (bz s3))) (mo 15 (some am) (f_X12_thrown (some am))) (aL (some ao) 0) bzL J') cx htr [va_rf (some ax), .int s1, .int s2, .int (bz s3), va_rf (some ao)] cw_L_130 (ct_L_within (xZ X) (some ax) s1 s2 (bz s3) (some ao)) (Nat.le_trans (by decide) hfr) (Nat.le_trans (by decide) hlo) rfl (cat_le _ (Nat.le_of_ble_eq_true rfl)) dL_law__690 (fun _ _ _ hp => hp) (fun v => ?_)
  refine sb_ofb (fun a9 b9 => ?_)
  refine sm_istore cx [(5, .int v), (0, va_rf (some b)), (1, va_rf (some ax)), (2, va_rf (some am)), (3, va_rf (some ao)), (4, .int x4)] dL_law__693 (by decide) rfl (nc1 rfl) rfl ?_
  refine sm_aload_n cx 3 dL_law__695 rfl rfl ?_
  refine sm_aload_n cx 1 dL_law__696 rfl rfl ?_
  refine sm_iload cx 5 dL_law__697 rfl ?_
  refine sm_iconst (v := 1) cx dL_law__699 (by decide) ?_
  refine sm_iadd cx dL_law__700 ?_
  refine sm_sldE cx hX hbl hbA i1 e1 dL_law__701 ?_
  refine sm_aload_n cx 1 dL_law__702 rfl rfl ?_
  refine sm_iload cx 5 dL_law__703 rfl ?_
  refine sm_iconst (v := 2) cx dL_law__705 (by decide) ?_
  refine sm_iadd cx dL_law__706 ?_
  refine sm_sldE cx hX hbl hbA i2 e2 dL_law__707 ?_
  refine sm_aload_n cx 1 dL_law__708 rfl rfl ?_
  refine sm_iload cx 5 dL_law__709 rfl ?_
  refine sm_iconst (v := 3) cx dL_law__711 (by decide) ?_
  refine sm_iadd cx dL_law__712 ?_
  refine sm_sldE cx hX hbl hbA i3 e3 dL_law__713 ?_
  refine sb_gob ?_ a9 b9
  refine sb_bool cx dL_law__714 dL_law__717 dL_law__718 dL_law__721 ?_
  refine sb_run (pc' := 725) (lv' := fun _ => [(5, .int v), (0, va_rf (some b)), (1, va_rf (some ax)), (2, va_rf (some am)), (3, va_rf (some ao)), (4, .int x4)]) (st' := fun w => .int w :: []) (Ψ := fun w => StepT (xR X) (mo 15 (some am) (f_X12_thrown (some am))) (aL (some ao) 0) bzL J' v w) (fun K hK => sm_callV (T := TX12) (N := 47) (toV := vI) cx [.int s1, .int s2, .int (bz s3)] rfl cv_L_132_ (fun a h => ct_X12_within (xZ X) a h s1 s2 (bz s3)) (Nat.le_trans (by decide) hfr) (Nat.le_trans (by decide) hlo) rfl (cat_le _ (Nat.le_of_ble_eq_true rfl)) dL_law__722 hK) (fun _ _ _ hp => hp) (fun bb => ?_)
  refine sb_ofb (fun a9 b9 => ?_)
  refine sm_istore cx [(6, .int bb), (5, .int v), (0, va_rf (some b)), (1, va_rf (some ax)), (2, va_rf (some am)), (3, va_rf (some ao)), (4, .int x4)] dL_law__725 (by decide) rfl (nc1 rfl) rfl ?_
  refine sm_aload_n cx 4 dL_law__727 rfl rfl ?_
  refine sb_gob ?_ a9 b9
  refine sb_run (pc' := 731) (lv' := fun _ => [(6, .int bb), (5, .int v), (0, va_rf (some b)), (1, va_rf (some ax)), (2, va_rf (some am)), (3, va_rf (some ao)), (4, .int x4)]) (st' := fun w => .int w :: []) (Ψ := fun w h c n => v = w ∧ StepO (aL (some ao) 0) bzL J' v bb h c n) (fun K hK => sm_callV (T := TX12) (N := 47) (toV := vI) cx [] rfl cv_L_104_ (fun a h => ct_X12_thrown (xZ X) a h) (Nat.le_trans (by decide) hfr) (Nat.le_trans (by decide) hlo) rfl (cat_le _ (Nat.le_of_ble_eq_true rfl)) dL_law__728 hK) (fun _ _ _ hp => by obtain ⟨h1, c1, n1, q1, q2, q3, q4⟩ := hp; exact ⟨v, h1, c1, n1, q1, ⟨rfl, q2⟩, q3, q4⟩) (fun t => sb_and (fun ht => ?_))
  subst ht
  refine sb_ofb (fun a9 b9 => ?_)
  refine sm_iload cx 1 dL_law__731 rfl ?_
  refine sb_gob ?_ a9 b9
  refine sb_icmp_eq (tgt := 738) cx dL_law__733 (by decide) (fun _ => ?_) (fun hne => absurd rfl hne)
  refine sb_ofb (fun a9 b9 => ?_)
  refine sm_iload cx 1 dL_law__738 rfl ?_
  refine sb_gob ?_ a9 b9
  refine sb_if_ne (tgt := 762) cx dL_law__740 (by decide) (fun hne => ?_) (fun h0 => ?_)
  · refine sb_imp (fun _ _ _ hp => hp.2) ?_
    refine sb_ofb (fun a9 b9 => ?_)
    refine sm_goto (tgt := 1996) cx dL_law__762 (by decide) ?_
    refine sb_gob ?_ a9 b9
    exact sb_lv [2, 3, 4, 5, 6] rfl hex
  refine sb_room (sb_imp (Ψ := StepR (xR X) (aL (some ao) 0) (bzL bb) J') (fun _ _ _ hp => ⟨hp.1.1 h0, hp.1.2, hp.2⟩) ?_)
  refine sb_ofb (fun a9 b9 => ?_)
  refine sm_aload_n cx 5 dL_law__743 rfl rfl ?_
  refine sm_iconst (v := 0) cx dL_law__744 (by decide) ?_
  refine sb_gob ?_ a9 b9
  refine sb_run (pc' := 746) (lv' := fun _ => [(6, .int bb), (5, .int v), (0, va_rf (some b)), (1, va_rf (some ax)), (2, va_rf (some am)), (3, va_rf (some ao)), (4, .int x4)]) (st' := fun w => .long w :: []) (Ψ := fun w h c n => w = (bzL bb) ∧ J' h c n) (fun K hK => sm_lald cx dL_law__745 hK) (fun h c0 n0 hp => ⟨(bzL bb), h, 0, 0, hp.1, ⟨rfl, hp.2.1⟩, hp.2.2.1, hp.2.2.2⟩) (fun w => sb_and (fun hw => ?_))
  subst hw
  refine sb_ofb (fun a9 b9 => ?_)
  refine sm_iload cx 0 dL_law__746 rfl ?_
  refine sb_gob ?_ a9 b9
  refine sb_boolL cx dL_law__748 dL_law__751 dL_law__752 dL_law__755 ?_
  refine sb_ofb (fun a9 b9 => ?_)
  refine sm_lcmp cx dL_law__756 ?_
  refine sb_gob ?_ a9 b9
  refine sb_if_eq (tgt := 762) cx dL_law__757 (by decide) (fun _ => ?_) (fun hne => absurd (lg_self _) hne)
  refine sb_ofb (fun a9 b9 => ?_)
  refine sm_goto (tgt := 1996) cx dL_law__762 (by decide) ?_
  refine sb_gob ?_ a9 b9
  exact sb_lv [2, 3, 4, 5, 6] rfl hex
theorem dL_law__765 : decode cL_law_ 765 = .ok (.aload_n 1, 1) := by decide +kernel
theorem dL_law__766 : decode cL_law_ 766 = .ok (.aload_n 0, 1) := by decide +kernel
theorem dL_law__767 : decode cL_law_ 767 = .ok (.iload 4, 2) := by decide +kernel
theorem dL_law__769 : decode cL_law_ 769 = .ok (.iconst 1, 1) := by decide +kernel
theorem dL_law__770 : decode cL_law_ 770 = .ok (.iadd, 1) := by decide +kernel
theorem dL_law__771 : decode cL_law_ 771 = .ok (.iaload, 1) := by decide +kernel
theorem dL_law__772 : decode cL_law_ 772 = .ok (.aload_n 0, 1) := by decide +kernel
theorem dL_law__773 : decode cL_law_ 773 = .ok (.iload 4, 2) := by decide +kernel
theorem dL_law__775 : decode cL_law_ 775 = .ok (.iconst 2, 1) := by decide +kernel
theorem dL_law__776 : decode cL_law_ 776 = .ok (.iadd, 1) := by decide +kernel
theorem dL_law__777 : decode cL_law_ 777 = .ok (.iaload, 1) := by decide +kernel
theorem dL_law__778 : decode cL_law_ 778 = .ok (.aload_n 3, 1) := by decide +kernel
theorem dL_law__779 : decode cL_law_ 779 = .ok (.invokestatic 133, 3) := by decide +kernel
theorem dL_law__782 : decode cL_law_ 782 = .ok (.istore 5, 2) := by decide +kernel
theorem dL_law__784 : decode cL_law_ 784 = .ok (.aload_n 2, 1) := by decide +kernel
theorem dL_law__785 : decode cL_law_ 785 = .ok (.aload_n 0, 1) := by decide +kernel
theorem dL_law__786 : decode cL_law_ 786 = .ok (.iload 4, 2) := by decide +kernel
theorem dL_law__788 : decode cL_law_ 788 = .ok (.iconst 1, 1) := by decide +kernel
theorem dL_law__789 : decode cL_law_ 789 = .ok (.iadd, 1) := by decide +kernel
theorem dL_law__790 : decode cL_law_ 790 = .ok (.iaload, 1) := by decide +kernel
theorem dL_law__791 : decode cL_law_ 791 = .ok (.aload_n 0, 1) := by decide +kernel
theorem dL_law__792 : decode cL_law_ 792 = .ok (.iload 4, 2) := by decide +kernel
theorem dL_law__794 : decode cL_law_ 794 = .ok (.iconst 2, 1) := by decide +kernel
theorem dL_law__795 : decode cL_law_ 795 = .ok (.iadd, 1) := by decide +kernel
theorem dL_law__796 : decode cL_law_ 796 = .ok (.iaload, 1) := by decide +kernel
theorem dL_law__797 : decode cL_law_ 797 = .ok (.invokevirtual 135, 3) := by decide +kernel
theorem dL_law__800 : decode cL_law_ 800 = .ok (.istore 6, 2) := by decide +kernel
theorem dL_law__802 : decode cL_law_ 802 = .ok (.aload_n 2, 1) := by decide +kernel
theorem dL_law__803 : decode cL_law_ 803 = .ok (.invokevirtual 104, 3) := by decide +kernel
theorem dL_law__806 : decode cL_law_ 806 = .ok (.iload 5, 2) := by decide +kernel
theorem dL_law__808 : decode cL_law_ 808 = .ok (.if_icmp .eq 5, 3) := by decide +kernel
theorem dL_law__811 : decode cL_law_ 811 = .ok (.iconst 0, 1) := by decide +kernel
theorem dL_law__812 : decode cL_law_ 812 = .ok (.ireturn, 1) := by decide +kernel
theorem dL_law__813 : decode cL_law_ 813 = .ok (.iload 5, 2) := by decide +kernel
theorem dL_law__815 : decode cL_law_ 815 = .ok (.ifCond .ne 22, 3) := by decide +kernel
theorem dL_law__818 : decode cL_law_ 818 = .ok (.aload_n 3, 1) := by decide +kernel
theorem dL_law__819 : decode cL_law_ 819 = .ok (.iconst 0, 1) := by decide +kernel
theorem dL_law__820 : decode cL_law_ 820 = .ok (.laload, 1) := by decide +kernel
theorem dL_law__821 : decode cL_law_ 821 = .ok (.iload 6, 2) := by decide +kernel
theorem dL_law__823 : decode cL_law_ 823 = .ok (.ifCond .eq 7, 3) := by decide +kernel
theorem dL_law__826 : decode cL_law_ 826 = .ok (.lconst 1, 1) := by decide +kernel
theorem dL_law__827 : decode cL_law_ 827 = .ok (.goto 4, 3) := by decide +kernel
theorem dL_law__830 : decode cL_law_ 830 = .ok (.lconst 0, 1) := by decide +kernel
theorem dL_law__831 : decode cL_law_ 831 = .ok (.lcmp, 1) := by decide +kernel
theorem dL_law__832 : decode cL_law_ 832 = .ok (.ifCond .eq 5, 3) := by decide +kernel
theorem dL_law__835 : decode cL_law_ 835 = .ok (.iconst 0, 1) := by decide +kernel
theorem dL_law__836 : decode cL_law_ 836 = .ok (.ireturn, 1) := by decide +kernel
theorem dL_law__837 : decode cL_law_ 837 = .ok (.goto 1159, 3) := by decide +kernel
set_option maxRecDepth 100000 in
set_option maxHeartbeats 4000000 in
theorem lc_8 {X : Cg} (cx : Cx X cL_law_ RL 7) (htr : (xL X).stackTraces = false) (hfr : 74 ≤ (xR X).frames) (hlo : 1500 ≤ (xR X).locals) {Q : State → Prop} {b L : Nat} {xs : Nat → Int32} (hX : va_X b L xs (xS X) (xS X).heap) (hbl : b < (xS X).heap.size) (hbA : ¬ xA X b) (ax am ao : Nat) (x4 : Int32) (s1 : Int32) (e1 : xs (x4 + 1).toNatClampNeg = s1) (i1 : vp_in (x4 + 1) L) (s2 : Int32) (e2 : xs (x4 + 2).toNatClampNeg = s2) (i2 : vp_in (x4 + 2) L) {J' : Hs → Nat → Nat → Prop} (hex : SimB X 7 Q 1996 [(0, va_rf (some b)), (1, va_rf (some ax)), (2, va_rf (some am)), (3, va_rf (some ao)), (4, .int x4)] [] J') : SimB X 7 Q 765 [(0, va_rf (some b)), (1, va_rf (some ax)), (2, va_rf (some am)), (3, va_rf (some ao)), (4, .int x4)] [] (StepA (xR X) (f_L_member (some ax) s1 s2 (some ao)) (mo 15 (some am) (f_X12_member (some am) s1 s2)) (mo 15 (some am) (f_X12_thrown (some am))) (aL (some ao) 0) bzL J') := by
  refine sb_ofb (fun a9 b9 => ?_)
  refine sm_aload_n cx 1 dL_law__765 rfl rfl ?_
  refine sm_aload_n cx 0 dL_law__766 rfl rfl ?_
  refine sm_iload cx 4 dL_law__767 rfl ?_
  refine sm_iconst (v := 1) cx dL_law__769 (by decide) ?_
  refine sm_iadd cx dL_law__770 ?_
  refine sm_sldE cx hX hbl hbA i1 e1 dL_law__771 ?_
  refine sm_aload_n cx 0 dL_law__772 rfl rfl ?_
  refine sm_iload cx 4 dL_law__773 rfl ?_
  refine sm_iconst (v := 2) cx dL_law__775 (by decide) ?_
  refine sm_iadd cx dL_law__776 ?_
  refine sm_sldE cx hX hbl hbA i2 e2 dL_law__777 ?_
  refine sm_aload_n cx 3 dL_law__778 rfl rfl ?_
  refine sb_gob ?_ a9 b9
  refine sb_help (toV := vI) (Ψ := StepM (xR X) (mo 15 (some am) (f_X12_member (some am) s1 s2)) (mo 15 (some am) (f_X12_thrown (some am))) (aL (some ao) 0) bzL J') cx htr [va_rf (some ax), .int s1, .int s2, va_rf (some ao)] cw_L_133 (ct_L_member (xZ X) (some ax) s1 s2 (some ao)) (Nat.le_trans (by decide) hfr) (Nat.le_trans (by decide) hlo) rfl (cat_le _ (Nat.le_of_ble_eq_true rfl)) dL_law__779 (fun _ _ _ hp => hp) (fun v => ?_)
  refine sb_ofb (fun a9 b9 => ?_)
  refine sm_istore cx [(5, .int v), (0, va_rf (some b)), (1, va_rf (some ax)), (2, va_rf (some am)), (3, va_rf (some ao)), (4, .int x4)] dL_law__782 (by decide) rfl (nc1 rfl) rfl ?_
  refine sm_aload_n cx 3 dL_law__784 rfl rfl ?_
  refine sm_aload_n cx 1 dL_law__785 rfl rfl ?_
  refine sm_iload cx 5 dL_law__786 rfl ?_
  refine sm_iconst (v := 1) cx dL_law__788 (by decide) ?_
  refine sm_iadd cx dL_law__789 ?_
  refine sm_sldE cx hX hbl hbA i1 e1 dL_law__790 ?_
  refine sm_aload_n cx 1 dL_law__791 rfl rfl ?_
  refine sm_iload cx 5 dL_law__792 rfl ?_
  refine sm_iconst (v := 2) cx dL_law__794 (by decide) ?_
  refine sm_iadd cx dL_law__795 ?_
  refine sm_sldE cx hX hbl hbA i2 e2 dL_law__796 ?_
  refine sb_gob ?_ a9 b9
  refine sb_run (pc' := 800) (lv' := fun _ => [(5, .int v), (0, va_rf (some b)), (1, va_rf (some ax)), (2, va_rf (some am)), (3, va_rf (some ao)), (4, .int x4)]) (st' := fun w => .int w :: []) (Ψ := fun w => StepT (xR X) (mo 15 (some am) (f_X12_thrown (some am))) (aL (some ao) 0) bzL J' v w) (fun K hK => sm_callV (T := TX12) (N := 47) (toV := vI) cx [.int s1, .int s2] rfl cv_L_135_ (fun a h => ct_X12_member (xZ X) a h s1 s2) (Nat.le_trans (by decide) hfr) (Nat.le_trans (by decide) hlo) rfl (cat_le _ (Nat.le_of_ble_eq_true rfl)) dL_law__797 hK) (fun _ _ _ hp => hp) (fun bb => ?_)
  refine sb_ofb (fun a9 b9 => ?_)
  refine sm_istore cx [(6, .int bb), (5, .int v), (0, va_rf (some b)), (1, va_rf (some ax)), (2, va_rf (some am)), (3, va_rf (some ao)), (4, .int x4)] dL_law__800 (by decide) rfl (nc1 rfl) rfl ?_
  refine sm_aload_n cx 4 dL_law__802 rfl rfl ?_
  refine sb_gob ?_ a9 b9
  refine sb_run (pc' := 806) (lv' := fun _ => [(6, .int bb), (5, .int v), (0, va_rf (some b)), (1, va_rf (some ax)), (2, va_rf (some am)), (3, va_rf (some ao)), (4, .int x4)]) (st' := fun w => .int w :: []) (Ψ := fun w h c n => v = w ∧ StepO (aL (some ao) 0) bzL J' v bb h c n) (fun K hK => sm_callV (T := TX12) (N := 47) (toV := vI) cx [] rfl cv_L_104_ (fun a h => ct_X12_thrown (xZ X) a h) (Nat.le_trans (by decide) hfr) (Nat.le_trans (by decide) hlo) rfl (cat_le _ (Nat.le_of_ble_eq_true rfl)) dL_law__803 hK) (fun _ _ _ hp => by obtain ⟨h1, c1, n1, q1, q2, q3, q4⟩ := hp; exact ⟨v, h1, c1, n1, q1, ⟨rfl, q2⟩, q3, q4⟩) (fun t => sb_and (fun ht => ?_))
  subst ht
  refine sb_ofb (fun a9 b9 => ?_)
  refine sm_iload cx 1 dL_law__806 rfl ?_
  refine sb_gob ?_ a9 b9
  refine sb_icmp_eq (tgt := 813) cx dL_law__808 (by decide) (fun _ => ?_) (fun hne => absurd rfl hne)
  refine sb_ofb (fun a9 b9 => ?_)
  refine sm_iload cx 1 dL_law__813 rfl ?_
  refine sb_gob ?_ a9 b9
  refine sb_if_ne (tgt := 837) cx dL_law__815 (by decide) (fun hne => ?_) (fun h0 => ?_)
  · refine sb_imp (fun _ _ _ hp => hp.2) ?_
    refine sb_ofb (fun a9 b9 => ?_)
    refine sm_goto (tgt := 1996) cx dL_law__837 (by decide) ?_
    refine sb_gob ?_ a9 b9
    exact sb_lv [2, 3, 4, 5, 6] rfl hex
  refine sb_room (sb_imp (Ψ := StepR (xR X) (aL (some ao) 0) (bzL bb) J') (fun _ _ _ hp => ⟨hp.1.1 h0, hp.1.2, hp.2⟩) ?_)
  refine sb_ofb (fun a9 b9 => ?_)
  refine sm_aload_n cx 5 dL_law__818 rfl rfl ?_
  refine sm_iconst (v := 0) cx dL_law__819 (by decide) ?_
  refine sb_gob ?_ a9 b9
  refine sb_run (pc' := 821) (lv' := fun _ => [(6, .int bb), (5, .int v), (0, va_rf (some b)), (1, va_rf (some ax)), (2, va_rf (some am)), (3, va_rf (some ao)), (4, .int x4)]) (st' := fun w => .long w :: []) (Ψ := fun w h c n => w = (bzL bb) ∧ J' h c n) (fun K hK => sm_lald cx dL_law__820 hK) (fun h c0 n0 hp => ⟨(bzL bb), h, 0, 0, hp.1, ⟨rfl, hp.2.1⟩, hp.2.2.1, hp.2.2.2⟩) (fun w => sb_and (fun hw => ?_))
  subst hw
  refine sb_ofb (fun a9 b9 => ?_)
  refine sm_iload cx 0 dL_law__821 rfl ?_
  refine sb_gob ?_ a9 b9
  refine sb_boolL cx dL_law__823 dL_law__826 dL_law__827 dL_law__830 ?_
  refine sb_ofb (fun a9 b9 => ?_)
  refine sm_lcmp cx dL_law__831 ?_
  refine sb_gob ?_ a9 b9
  refine sb_if_eq (tgt := 837) cx dL_law__832 (by decide) (fun _ => ?_) (fun hne => absurd (lg_self _) hne)
  refine sb_ofb (fun a9 b9 => ?_)
  refine sm_goto (tgt := 1996) cx dL_law__837 (by decide) ?_
  refine sb_gob ?_ a9 b9
  exact sb_lv [2, 3, 4, 5, 6] rfl hex
