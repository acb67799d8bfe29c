theorem dL_law__840 : decode cL_law_ 840 = .ok (.aload_n 1, 1) := by decide +kernel
theorem dL_law__841 : decode cL_law_ 841 = .ok (.aload_n 3, 1) := by decide +kernel
theorem dL_law__842 : decode cL_law_ 842 = .ok (.invokestatic 136, 3) := by decide +kernel
theorem dL_law__845 : decode cL_law_ 845 = .ok (.istore 5, 2) := by decide +kernel
theorem dL_law__847 : decode cL_law_ 847 = .ok (.aload_n 2, 1) := by decide +kernel
theorem dL_law__848 : decode cL_law_ 848 = .ok (.invokevirtual 138, 3) := by decide +kernel
theorem dL_law__851 : decode cL_law_ 851 = .ok (.istore 6, 2) := by decide +kernel
theorem dL_law__853 : decode cL_law_ 853 = .ok (.aload_n 2, 1) := by decide +kernel
theorem dL_law__854 : decode cL_law_ 854 = .ok (.invokevirtual 104, 3) := by decide +kernel
theorem dL_law__857 : decode cL_law_ 857 = .ok (.iload 5, 2) := by decide +kernel
theorem dL_law__859 : decode cL_law_ 859 = .ok (.if_icmp .eq 5, 3) := by decide +kernel
theorem dL_law__862 : decode cL_law_ 862 = .ok (.iconst 0, 1) := by decide +kernel
theorem dL_law__863 : decode cL_law_ 863 = .ok (.ireturn, 1) := by decide +kernel
theorem dL_law__864 : decode cL_law_ 864 = .ok (.iload 5, 2) := by decide +kernel
theorem dL_law__866 : decode cL_law_ 866 = .ok (.ifCond .ne 15, 3) := by decide +kernel
theorem dL_law__869 : decode cL_law_ 869 = .ok (.aload_n 3, 1) := by decide +kernel
theorem dL_law__870 : decode cL_law_ 870 = .ok (.iconst 0, 1) := by decide +kernel
theorem dL_law__871 : decode cL_law_ 871 = .ok (.laload, 1) := by decide +kernel
theorem dL_law__872 : decode cL_law_ 872 = .ok (.iload 6, 2) := by decide +kernel
theorem dL_law__874 : decode cL_law_ 874 = .ok (.i2l, 1) := by decide +kernel
theorem dL_law__875 : decode cL_law_ 875 = .ok (.lcmp, 1) := by decide +kernel
theorem dL_law__876 : decode cL_law_ 876 = .ok (.ifCond .eq 5, 3) := by decide +kernel
theorem dL_law__879 : decode cL_law_ 879 = .ok (.iconst 0, 1) := by decide +kernel
theorem dL_law__880 : decode cL_law_ 880 = .ok (.ireturn, 1) := by decide +kernel
theorem dL_law__881 : decode cL_law_ 881 = .ok (.goto 1115, 3) := by decide +kernel
set_option maxRecDepth 100000 in
set_option maxHeartbeats 4000000 in
theorem lc_9 {X : Cg} (cx : Cx X cL_law_ RL 7) (htr : (xL X).stackTraces = false) (hfr : 74 ≤ (xR X).frames) (hlo : 1500 ≤ (xR X).locals) {Q : State → Prop} {b L : Nat} {xs : Nat → Int32} (hX : va_X b L xs (xS X) (xS X).heap) (hbl : b < (xS X).heap.size) (hbA : ¬ xA X b) (ax am ao : Nat) (x4 : Int32) {J' : Hs → Nat → Nat → Prop} (hex : SimB X 7 Q 1996 [(0, va_rf (some b)), (1, va_rf (some ax)), (2, va_rf (some am)), (3, va_rf (some ao)), (4, .int x4)] [] J') : SimB X 7 Q 840 [(0, va_rf (some b)), (1, va_rf (some ax)), (2, va_rf (some am)), (3, va_rf (some ao)), (4, .int x4)] [] (StepA (xR X) (f_L_set (xZ X) (some ax) (some ao)) (mo 15 (some am) (f_X12_set (some am))) (mo 15 (some am) (f_X12_thrown (some am))) (aL (some ao) 0) Int32.toInt64 J') := by
  refine sb_ofb (fun a9 b9 => ?_)
  refine sm_aload_n cx 1 dL_law__840 rfl rfl ?_
  refine sm_aload_n cx 3 dL_law__841 rfl rfl ?_
  refine sb_gob ?_ a9 b9
  refine sb_help (toV := vI) (Ψ := StepM (xR X) (mo 15 (some am) (f_X12_set (some am))) (mo 15 (some am) (f_X12_thrown (some am))) (aL (some ao) 0) Int32.toInt64 J') cx htr [va_rf (some ax), va_rf (some ao)] cw_L_136 (ct_L_set (xZ X) (some ax) (some ao)) (Nat.le_trans (by decide) hfr) (Nat.le_trans (by decide) hlo) rfl (cat_le _ (Nat.le_of_ble_eq_true rfl)) dL_law__842 (fun _ _ _ hp => hp) (fun v => ?_)
  refine sb_ofb (fun a9 b9 => ?_)
  refine sm_istore cx [(5, .int v), (0, va_rf (some b)), (1, va_rf (some ax)), (2, va_rf (some am)), (3, va_rf (some ao)), (4, .int x4)] dL_law__845 (by decide) rfl (nc1 rfl) rfl ?_
  refine sm_aload_n cx 3 dL_law__847 rfl rfl ?_
  refine sb_gob ?_ a9 b9
  refine sb_run (pc' := 851) (lv' := fun _ => [(5, .int v), (0, va_rf (some b)), (1, va_rf (some ax)), (2, va_rf (some am)), (3, va_rf (some ao)), (4, .int x4)]) (st' := fun w => .int w :: []) (Ψ := fun w => StepT (xR X) (mo 15 (some am) (f_X12_thrown (some am))) (aL (some ao) 0) Int32.toInt64 J' v w) (fun K hK => sm_callV (T := TX12) (N := 47) (toV := vI) cx [] rfl cv_L_138_ (fun a h => ct_X12_set (xZ X) a h) (Nat.le_trans (by decide) hfr) (Nat.le_trans (by decide) hlo) rfl (cat_le _ (Nat.le_of_ble_eq_true rfl)) dL_law__848 hK) (fun _ _ _ hp => hp) (fun bb => ?_)
  refine sb_ofb (fun a9 b9 => ?_)
  refine sm_istore cx [(6, .int bb), (5, .int v), (0, va_rf (some b)), (1, va_rf (some ax)), (2, va_rf (some am)), (3, va_rf (some ao)), (4, .int x4)] dL_law__851 (by decide) rfl (nc1 rfl) rfl ?_
  refine sm_aload_n cx 4 dL_law__853 rfl rfl ?_
  refine sb_gob ?_ a9 b9
  refine sb_run (pc' := 857) (lv' := fun _ => [(6, .int bb), (5, .int v), (0, va_rf (some b)), (1, va_rf (some ax)), (2, va_rf (some am)), (3, va_rf (some ao)), (4, .int x4)]) (st' := fun w => .int w :: []) (Ψ := fun w h c n => v = w ∧ StepO (aL (some ao) 0) Int32.toInt64 J' v bb h c n) (fun K hK => sm_callV (T := TX12) (N := 47) (toV := vI) cx [] rfl cv_L_104_ (fun a h => ct_X12_thrown (xZ X) a h) (Nat.le_trans (by decide) hfr) (Nat.le_trans (by decide) hlo) rfl (cat_le _ (Nat.le_of_ble_eq_true rfl)) dL_law__854 hK) (fun _ _ _ hp => by obtain ⟨h1, c1, n1, q1, q2, q3, q4⟩ := hp; exact ⟨v, h1, c1, n1, q1, ⟨rfl, q2⟩, q3, q4⟩) (fun t => sb_and (fun ht => ?_))
  subst ht
  refine sb_ofb (fun a9 b9 => ?_)
  refine sm_iload cx 1 dL_law__857 rfl ?_
  refine sb_gob ?_ a9 b9
  refine sb_icmp_eq (tgt := 864) cx dL_law__859 (by decide) (fun _ => ?_) (fun hne => absurd rfl hne)
  refine sb_ofb (fun a9 b9 => ?_)
  refine sm_iload cx 1 dL_law__864 rfl ?_
  refine sb_gob ?_ a9 b9
  refine sb_if_ne (tgt := 881) cx dL_law__866 (by decide) (fun hne => ?_) (fun h0 => ?_)
  · refine sb_imp (fun _ _ _ hp => hp.2) ?_
    refine sb_ofb (fun a9 b9 => ?_)
    refine sm_goto (tgt := 1996) cx dL_law__881 (by decide) ?_
    refine sb_gob ?_ a9 b9
    exact sb_lv [2, 3, 4, 5, 6] rfl hex
  refine sb_room (sb_imp (Ψ := StepR (xR X) (aL (some ao) 0) (Int32.toInt64 bb) J') (fun _ _ _ hp => ⟨hp.1.1 h0, hp.1.2, hp.2⟩) ?_)
  refine sb_ofb (fun a9 b9 => ?_)
  refine sm_aload_n cx 5 dL_law__869 rfl rfl ?_
  refine sm_iconst (v := 0) cx dL_law__870 (by decide) ?_
  refine sb_gob ?_ a9 b9
  refine sb_run (pc' := 872) (lv' := fun _ => [(6, .int bb), (5, .int v), (0, va_rf (some b)), (1, va_rf (some ax)), (2, va_rf (some am)), (3, va_rf (some ao)), (4, .int x4)]) (st' := fun w => .long w :: []) (Ψ := fun w h c n => w = (Int32.toInt64 bb) ∧ J' h c n) (fun K hK => sm_lald cx dL_law__871 hK) (fun h c0 n0 hp => ⟨(Int32.toInt64 bb), h, 0, 0, hp.1, ⟨rfl, hp.2.1⟩, hp.2.2.1, hp.2.2.2⟩) (fun w => sb_and (fun hw => ?_))
  subst hw
  refine sb_ofb (fun a9 b9 => ?_)
  refine sm_iload cx 0 dL_law__872 rfl ?_
  refine sm_i2l cx dL_law__874 ?_
  refine sm_lcmp cx dL_law__875 ?_
  refine sb_gob ?_ a9 b9
  refine sb_if_eq (tgt := 881) cx dL_law__876 (by decide) (fun _ => ?_) (fun hne => absurd (lg_self _) hne)
  refine sb_ofb (fun a9 b9 => ?_)
  refine sm_goto (tgt := 1996) cx dL_law__881 (by decide) ?_
  refine sb_gob ?_ a9 b9
  exact sb_lv [2, 3, 4, 5, 6] rfl hex
theorem dL_law__884 : decode cL_law_ 884 = .ok (.aload_n 1, 1) := by decide +kernel
theorem dL_law__885 : decode cL_law_ 885 = .ok (.aload_n 0, 1) := by decide +kernel
theorem dL_law__886 : decode cL_law_ 886 = .ok (.iload 4, 2) := by decide +kernel
theorem dL_law__888 : decode cL_law_ 888 = .ok (.iconst 1, 1) := by decide +kernel
theorem dL_law__889 : decode cL_law_ 889 = .ok (.iadd, 1) := by decide +kernel
theorem dL_law__890 : decode cL_law_ 890 = .ok (.iaload, 1) := by decide +kernel
theorem dL_law__891 : decode cL_law_ 891 = .ok (.aload_n 0, 1) := by decide +kernel
theorem dL_law__892 : decode cL_law_ 892 = .ok (.iload 4, 2) := by decide +kernel
theorem dL_law__894 : decode cL_law_ 894 = .ok (.iconst 2, 1) := by decide +kernel
theorem dL_law__895 : decode cL_law_ 895 = .ok (.iadd, 1) := by decide +kernel
theorem dL_law__896 : decode cL_law_ 896 = .ok (.iaload, 1) := by decide +kernel
theorem dL_law__897 : decode cL_law_ 897 = .ok (.aload_n 0, 1) := by decide +kernel
theorem dL_law__898 : decode cL_law_ 898 = .ok (.iload 4, 2) := by decide +kernel
theorem dL_law__900 : decode cL_law_ 900 = .ok (.iconst 3, 1) := by decide +kernel
theorem dL_law__901 : decode cL_law_ 901 = .ok (.iadd, 1) := by decide +kernel
theorem dL_law__902 : decode cL_law_ 902 = .ok (.iaload, 1) := by decide +kernel
theorem dL_law__903 : decode cL_law_ 903 = .ok (.aload_n 3, 1) := by decide +kernel
theorem dL_law__904 : decode cL_law_ 904 = .ok (.invokestatic 139, 3) := by decide +kernel
theorem dL_law__907 : decode cL_law_ 907 = .ok (.istore 5, 2) := by decide +kernel
theorem dL_law__909 : decode cL_law_ 909 = .ok (.aload_n 2, 1) := by decide +kernel
theorem dL_law__910 : decode cL_law_ 910 = .ok (.aload_n 0, 1) := by decide +kernel
theorem dL_law__911 : decode cL_law_ 911 = .ok (.iload 4, 2) := by decide +kernel
theorem dL_law__913 : decode cL_law_ 913 = .ok (.iconst 1, 1) := by decide +kernel
theorem dL_law__914 : decode cL_law_ 914 = .ok (.iadd, 1) := by decide +kernel
theorem dL_law__915 : decode cL_law_ 915 = .ok (.iaload, 1) := by decide +kernel
theorem dL_law__916 : decode cL_law_ 916 = .ok (.aload_n 0, 1) := by decide +kernel
theorem dL_law__917 : decode cL_law_ 917 = .ok (.iload 4, 2) := by decide +kernel
theorem dL_law__919 : decode cL_law_ 919 = .ok (.iconst 2, 1) := by decide +kernel
theorem dL_law__920 : decode cL_law_ 920 = .ok (.iadd, 1) := by decide +kernel
theorem dL_law__921 : decode cL_law_ 921 = .ok (.iaload, 1) := by decide +kernel
theorem dL_law__922 : decode cL_law_ 922 = .ok (.aload_n 0, 1) := by decide +kernel
theorem dL_law__923 : decode cL_law_ 923 = .ok (.iload 4, 2) := by decide +kernel
theorem dL_law__925 : decode cL_law_ 925 = .ok (.iconst 3, 1) := by decide +kernel
theorem dL_law__926 : decode cL_law_ 926 = .ok (.iadd, 1) := by decide +kernel
theorem dL_law__927 : decode cL_law_ 927 = .ok (.iaload, 1) := by decide +kernel
theorem dL_law__928 : decode cL_law_ 928 = .ok (.invokevirtual 141, 3) := by decide +kernel
theorem dL_law__931 : decode cL_law_ 931 = .ok (.istore 6, 2) := by decide +kernel
theorem dL_law__933 : decode cL_law_ 933 = .ok (.aload_n 2, 1) := by decide +kernel
theorem dL_law__934 : decode cL_law_ 934 = .ok (.invokevirtual 104, 3) := by decide +kernel
theorem dL_law__937 : decode cL_law_ 937 = .ok (.iload 5, 2) := by decide +kernel
theorem dL_law__939 : decode cL_law_ 939 = .ok (.if_icmp .eq 5, 3) := by decide +kernel
theorem dL_law__942 : decode cL_law_ 942 = .ok (.iconst 0, 1) := by decide +kernel
theorem dL_law__943 : decode cL_law_ 943 = .ok (.ireturn, 1) := by decide +kernel
theorem dL_law__944 : decode cL_law_ 944 = .ok (.iload 5, 2) := by decide +kernel
theorem dL_law__946 : decode cL_law_ 946 = .ok (.ifCond .ne 22, 3) := by decide +kernel
theorem dL_law__949 : decode cL_law_ 949 = .ok (.aload_n 3, 1) := by decide +kernel
theorem dL_law__950 : decode cL_law_ 950 = .ok (.iconst 0, 1) := by decide +kernel
theorem dL_law__951 : decode cL_law_ 951 = .ok (.laload, 1) := by decide +kernel
theorem dL_law__952 : decode cL_law_ 952 = .ok (.iload 6, 2) := by decide +kernel
theorem dL_law__954 : decode cL_law_ 954 = .ok (.ifCond .eq 7, 3) := by decide +kernel
theorem dL_law__957 : decode cL_law_ 957 = .ok (.lconst 1, 1) := by decide +kernel
theorem dL_law__958 : decode cL_law_ 958 = .ok (.goto 4, 3) := by decide +kernel
theorem dL_law__961 : decode cL_law_ 961 = .ok (.lconst 0, 1) := by decide +kernel
theorem dL_law__962 : decode cL_law_ 962 = .ok (.lcmp, 1) := by decide +kernel
theorem dL_law__963 : decode cL_law_ 963 = .ok (.ifCond .eq 5, 3) := by decide +kernel
theorem dL_law__966 : decode cL_law_ 966 = .ok (.iconst 0, 1) := by decide +kernel
theorem dL_law__967 : decode cL_law_ 967 = .ok (.ireturn, 1) := by decide +kernel
theorem dL_law__968 : decode cL_law_ 968 = .ok (.goto 1028, 3) := by decide +kernel
set_option maxRecDepth 100000 in
set_option maxHeartbeats 4000000 in
theorem lc_10 {X : Cg} (cx : Cx X cL_law_ RL 7) (htr : (xL X).stackTraces = false) (hfr : 74 ≤ (xR X).frames) (hlo : 1500 ≤ (xR X).locals) {Q : State → Prop} {b L : Nat} {xs : Nat → Int32} (hX : va_X b L xs (xS X) (xS X).heap) (hbl : b < (xS X).heap.size) (hbA : ¬ xA X b) (ax am ao : Nat) (x4 : Int32) (s1 : Int32) (e1 : xs (x4 + 1).toNatClampNeg = s1) (i1 : vp_in (x4 + 1) L) (s2 : Int32) (e2 : xs (x4 + 2).toNatClampNeg = s2) (i2 : vp_in (x4 + 2) L) (s3 : Int32) (e3 : xs (x4 + 3).toNatClampNeg = s3) (i3 : vp_in (x4 + 3) L) {J' : Hs → Nat → Nat → Prop} (hex : SimB X 7 Q 1996 [(0, va_rf (some b)), (1, va_rf (some ax)), (2, va_rf (some am)), (3, va_rf (some ao)), (4, .int x4)] [] J') : SimB X 7 Q 884 [(0, va_rf (some b)), (1, va_rf (some ax)), (2, va_rf (some am)), (3, va_rf (some ao)), (4, .int x4)] [] (StepA (xR X) (f_L_tell (some ax) s1 s2 s3 (some ao)) (mo 15 (some am) (f_X12_tell (some am) s1 s2 s3)) (mo 15 (some am) (f_X12_thrown (some am))) (aL (some ao) 0) bzL J') := by
  refine sb_ofb (fun a9 b9 => ?_)
  refine sm_aload_n cx 1 dL_law__884 rfl rfl ?_
  refine sm_aload_n cx 0 dL_law__885 rfl rfl ?_
  refine sm_iload cx 4 dL_law__886 rfl ?_
  refine sm_iconst (v := 1) cx dL_law__888 (by decide) ?_
  refine sm_iadd cx dL_law__889 ?_
  refine sm_sldE cx hX hbl hbA i1 e1 dL_law__890 ?_
  refine sm_aload_n cx 0 dL_law__891 rfl rfl ?_
  refine sm_iload cx 4 dL_law__892 rfl ?_
  refine sm_iconst (v := 2) cx dL_law__894 (by decide) ?_
  refine sm_iadd cx dL_law__895 ?_
  refine sm_sldE cx hX hbl hbA i2 e2 dL_law__896 ?_
  refine sm_aload_n cx 0 dL_law__897 rfl rfl ?_
  refine sm_iload cx 4 dL_law__898 rfl ?_
  refine sm_iconst (v := 3) cx dL_law__900 (by decide) ?_
  refine sm_iadd cx dL_law__901 ?_
  refine sm_sldE cx hX hbl hbA i3 e3 dL_law__902 ?_
  refine sm_aload_n cx 3 dL_law__903 rfl rfl ?_
  refine sb_gob ?_ a9 b9
  refine sb_help (toV := vI) (Ψ := StepM (xR X) (mo 15 (some am) (f_X12_tell (some am) s1 s2 s3)) (mo 15 (some am) (f_X12_thrown (some am))) (aL (some ao) 0) bzL J') cx htr [va_rf (some ax), .int s1, .int s2, .int s3, va_rf (some ao)] cw_L_139 (ct_L_tell (xZ X) (some ax) s1 s2 s3 (some ao)) (Nat.le_trans (by decide) hfr) (Nat.le_trans (by decide) hlo) rfl (cat_le _ (Nat.le_of_ble_eq_true rfl)) dL_law__904 (fun _ _ _ hp => hp) (fun v => ?_)
  refine sb_ofb (fun a9 b9 => ?_)
  refine sm_istore cx [(5, .int v), (0, va_rf (some b)), (1, va_rf (some ax)), (2, va_rf (some am)), (3, va_rf (some ao)), (4, .int x4)] dL_law__907 (by decide) rfl (nc1 rfl) rfl ?_
  refine sm_aload_n cx 3 dL_law__909 rfl rfl ?_
  refine sm_aload_n cx 1 dL_law__910 rfl rfl ?_
  refine sm_iload cx 5 dL_law__911 rfl ?_
  refine sm_iconst (v := 1) cx dL_law__913 (by decide) ?_
  refine sm_iadd cx dL_law__914 ?_
  refine sm_sldE cx hX hbl hbA i1 e1 dL_law__915 ?_
  refine sm_aload_n cx 1 dL_law__916 rfl rfl ?_
  refine sm_iload cx 5 dL_law__917 rfl ?_
  refine sm_iconst (v := 2) cx dL_law__919 (by decide) ?_
  refine sm_iadd cx dL_law__920 ?_
  refine sm_sldE cx hX hbl hbA i2 e2 dL_law__921 ?_
  refine sm_aload_n cx 1 dL_law__922 rfl rfl ?_
  refine sm_iload cx 5 dL_law__923 rfl ?_
  refine sm_iconst (v := 3) cx dL_law__925 (by decide) ?_
  refine sm_iadd cx dL_law__926 ?_
  refine sm_sldE cx hX hbl hbA i3 e3 dL_law__927 ?_
  refine sb_gob ?_ a9 b9
  refine sb_run (pc' := 931) (lv' := fun _ => [(5, .int v), (0, va_rf (some b)), (1, va_rf (some ax)), (2, va_rf (some am)), (3, va_rf (some ao)), (4, .int x4)]) (st' := fun w => .int w :: []) (Ψ := fun w => StepT (xR X) (mo 15 (some am) (f_X12_thrown (some am))) (aL (some ao) 0) bzL J' v w) (fun K hK => sm_callV (T := TX12) (N := 47) (toV := vI) cx [.int s1, .int s2, .int s3] rfl cv_L_141_ (fun a h => ct_X12_tell (xZ X) a h s1 s2 s3) (Nat.le_trans (by decide) hfr) (Nat.le_trans (by decide) hlo) rfl (cat_le _ (Nat.le_of_ble_eq_true rfl)) dL_law__928 hK) (fun _ _ _ hp => hp) (fun bb => ?_)
  refine sb_ofb (fun a9 b9 => ?_)
  refine sm_istore cx [(6, .int bb), (5, .int v), (0, va_rf (some b)), (1, va_rf (some ax)), (2, va_rf (some am)), (3, va_rf (some ao)), (4, .int x4)] dL_law__931 (by decide) rfl (nc1 rfl) rfl ?_
  refine sm_aload_n cx 4 dL_law__933 rfl rfl ?_
  refine sb_gob ?_ a9 b9
  refine sb_run (pc' := 937) (lv' := fun _ => [(6, .int bb), (5, .int v), (0, va_rf (some b)), (1, va_rf (some ax)), (2, va_rf (some am)), (3, va_rf (some ao)), (4, .int x4)]) (st' := fun w => .int w :: []) (Ψ := fun w h c n => v = w ∧ StepO (aL (some ao) 0) bzL J' v bb h c n) (fun K hK => sm_callV (T := TX12) (N := 47) (toV := vI) cx [] rfl cv_L_104_ (fun a h => ct_X12_thrown (xZ X) a h) (Nat.le_trans (by decide) hfr) (Nat.le_trans (by decide) hlo) rfl (cat_le _ (Nat.le_of_ble_eq_true rfl)) dL_law__934 hK) (fun _ _ _ hp => by obtain ⟨h1, c1, n1, q1, q2, q3, q4⟩ := hp; exact ⟨v, h1, c1, n1, q1, ⟨rfl, q2⟩, q3, q4⟩) (fun t => sb_and (fun ht => ?_))
  subst ht
  refine sb_ofb (fun a9 b9 => ?_)
  refine sm_iload cx 1 dL_law__937 rfl ?_
  refine sb_gob ?_ a9 b9
  refine sb_icmp_eq (tgt := 944) cx dL_law__939 (by decide) (fun _ => ?_) (fun hne => absurd rfl hne)
  refine sb_ofb (fun a9 b9 => ?_)
  refine sm_iload cx 1 dL_law__944 rfl ?_
  refine sb_gob ?_ a9 b9
  refine sb_if_ne (tgt := 968) cx dL_law__946 (by decide) (fun hne => ?_) (fun h0 => ?_)
  · refine sb_imp (fun _ _ _ hp => hp.2) ?_
    refine sb_ofb (fun a9 b9 => ?_)
    refine sm_goto (tgt := 1996) cx dL_law__968 (by decide) ?_
    refine sb_gob ?_ a9 b9
    exact sb_lv [2, 3, 4, 5, 6] rfl hex
  refine sb_room (sb_imp (Ψ := StepR (xR X) (aL (some ao) 0) (bzL bb) J') (fun _ _ _ hp => ⟨hp.1.1 h0, hp.1.2, hp.2⟩) ?_)
  refine sb_ofb (fun a9 b9 => ?_)
  refine sm_aload_n cx 5 dL_law__949 rfl rfl ?_
  refine sm_iconst (v := 0) cx dL_law__950 (by decide) ?_
  refine sb_gob ?_ a9 b9
  refine sb_run (pc' := 952) (lv' := fun _ => [(6, .int bb), (5, .int v), (0, va_rf (some b)), (1, va_rf (some ax)), (2, va_rf (some am)), (3, va_rf (some ao)), (4, .int x4)]) (st' := fun w => .long w :: []) (Ψ := fun w h c n => w = (bzL bb) ∧ J' h c n) (fun K hK => sm_lald cx dL_law__951 hK) (fun h c0 n0 hp => ⟨(bzL bb), h, 0, 0, hp.1, ⟨rfl, hp.2.1⟩, hp.2.2.1, hp.2.2.2⟩) (fun w => sb_and (fun hw => ?_))
  subst hw
  refine sb_ofb (fun a9 b9 => ?_)
  refine sm_iload cx 0 dL_law__952 rfl ?_
  refine sb_gob ?_ a9 b9
  refine sb_boolL cx dL_law__954 dL_law__957 dL_law__958 dL_law__961 ?_
  refine sb_ofb (fun a9 b9 => ?_)
  refine sm_lcmp cx dL_law__962 ?_
  refine sb_gob ?_ a9 b9
  refine sb_if_eq (tgt := 968) cx dL_law__963 (by decide) (fun _ => ?_) (fun hne => absurd (lg_self _) hne)
  refine sb_ofb (fun a9 b9 => ?_)
  refine sm_goto (tgt := 1996) cx dL_law__968 (by decide) ?_
  refine sb_gob ?_ a9 b9
  exact sb_lv [2, 3, 4, 5, 6] rfl hex
theorem dL_law__971 : decode cL_law_ 971 = .ok (.aload_n 1, 1) := by decide +kernel
theorem dL_law__972 : decode cL_law_ 972 = .ok (.aload_n 0, 1) := by decide +kernel
theorem dL_law__973 : decode cL_law_ 973 = .ok (.iload 4, 2) := by decide +kernel
theorem dL_law__975 : decode cL_law_ 975 = .ok (.iconst 1, 1) := by decide +kernel
theorem dL_law__976 : decode cL_law_ 976 = .ok (.iadd, 1) := by decide +kernel
theorem dL_law__977 : decode cL_law_ 977 = .ok (.iaload, 1) := by decide +kernel
theorem dL_law__978 : decode cL_law_ 978 = .ok (.aload_n 0, 1) := by decide +kernel
theorem dL_law__979 : decode cL_law_ 979 = .ok (.iload 4, 2) := by decide +kernel
theorem dL_law__981 : decode cL_law_ 981 = .ok (.iconst 2, 1) := by decide +kernel
theorem dL_law__982 : decode cL_law_ 982 = .ok (.iadd, 1) := by decide +kernel
theorem dL_law__983 : decode cL_law_ 983 = .ok (.iaload, 1) := by decide +kernel
theorem dL_law__984 : decode cL_law_ 984 = .ok (.aload_n 3, 1) := by decide +kernel
theorem dL_law__985 : decode cL_law_ 985 = .ok (.invokestatic 142, 3) := by decide +kernel
theorem dL_law__988 : decode cL_law_ 988 = .ok (.istore 5, 2) := by decide +kernel
theorem dL_law__990 : decode cL_law_ 990 = .ok (.aload_n 2, 1) := by decide +kernel
theorem dL_law__991 : decode cL_law_ 991 = .ok (.aload_n 0, 1) := by decide +kernel
theorem dL_law__992 : decode cL_law_ 992 = .ok (.iload 4, 2) := by decide +kernel
theorem dL_law__994 : decode cL_law_ 994 = .ok (.iconst 1, 1) := by decide +kernel
theorem dL_law__995 : decode cL_law_ 995 = .ok (.iadd, 1) := by decide +kernel
theorem dL_law__996 : decode cL_law_ 996 = .ok (.iaload, 1) := by decide +kernel
theorem dL_law__997 : decode cL_law_ 997 = .ok (.aload_n 0, 1) := by decide +kernel
theorem dL_law__998 : decode cL_law_ 998 = .ok (.iload 4, 2) := by decide +kernel
theorem dL_law__1000 : decode cL_law_ 1000 = .ok (.iconst 2, 1) := by decide +kernel
theorem dL_law__1001 : decode cL_law_ 1001 = .ok (.iadd, 1) := by decide +kernel
theorem dL_law__1002 : decode cL_law_ 1002 = .ok (.iaload, 1) := by decide +kernel
theorem dL_law__1003 : decode cL_law_ 1003 = .ok (.invokevirtual 144, 3) := by decide +kernel
theorem dL_law__1006 : decode cL_law_ 1006 = .ok (.istore 6, 2) := by decide +kernel
theorem dL_law__1008 : decode cL_law_ 1008 = .ok (.aload_n 2, 1) := by decide +kernel
theorem dL_law__1009 : decode cL_law_ 1009 = .ok (.invokevirtual 104, 3) := by decide +kernel
theorem dL_law__1012 : decode cL_law_ 1012 = .ok (.iload 5, 2) := by decide +kernel
theorem dL_law__1014 : decode cL_law_ 1014 = .ok (.if_icmp .eq 5, 3) := by decide +kernel
theorem dL_law__1017 : decode cL_law_ 1017 = .ok (.iconst 0, 1) := by decide +kernel
theorem dL_law__1018 : decode cL_law_ 1018 = .ok (.ireturn, 1) := by decide +kernel
theorem dL_law__1019 : decode cL_law_ 1019 = .ok (.iload 5, 2) := by decide +kernel
theorem dL_law__1021 : decode cL_law_ 1021 = .ok (.ifCond .ne 22, 3) := by decide +kernel
theorem dL_law__1024 : decode cL_law_ 1024 = .ok (.aload_n 3, 1) := by decide +kernel
theorem dL_law__1025 : decode cL_law_ 1025 = .ok (.iconst 0, 1) := by decide +kernel
theorem dL_law__1026 : decode cL_law_ 1026 = .ok (.laload, 1) := by decide +kernel
theorem dL_law__1027 : decode cL_law_ 1027 = .ok (.iload 6, 2) := by decide +kernel
theorem dL_law__1029 : decode cL_law_ 1029 = .ok (.ifCond .eq 7, 3) := by decide +kernel
theorem dL_law__1032 : decode cL_law_ 1032 = .ok (.lconst 1, 1) := by decide +kernel
theorem dL_law__1033 : decode cL_law_ 1033 = .ok (.goto 4, 3) := by decide +kernel
theorem dL_law__1036 : decode cL_law_ 1036 = .ok (.lconst 0, 1) := by decide +kernel
theorem dL_law__1037 : decode cL_law_ 1037 = .ok (.lcmp, 1) := by decide +kernel
theorem dL_law__1038 : decode cL_law_ 1038 = .ok (.ifCond .eq 5, 3) := by decide +kernel
theorem dL_law__1041 : decode cL_law_ 1041 = .ok (.iconst 0, 1) := by decide +kernel
theorem dL_law__1042 : decode cL_law_ 1042 = .ok (.ireturn, 1) := by decide +kernel
theorem dL_law__1043 : decode cL_law_ 1043 = .ok (.goto 953, 3) := by decide +kernel
set_option maxRecDepth 100000 in
set_option maxHeartbeats 4000000 in
theorem lc_11 {X : Cg} (cx : Cx X cL_law_ RL 7) (htr : (xL X).stackTraces = false) (hfr : 74 ≤ (xR X).frames) (hlo : 1500 ≤ (xR X).locals) {Q : State → Prop} {b L : Nat} {xs : Nat → Int32} (hX : va_X b L xs (xS X) (xS X).heap) (hbl : b < (xS X).heap.size) (hbA : ¬ xA X b) (ax am ao : Nat) (x4 : Int32) (s1 : Int32) (e1 : xs (x4 + 1).toNatClampNeg = s1) (i1 : vp_in (x4 + 1) L) (s2 : Int32) (e2 : xs (x4 + 2).toNatClampNeg = s2) (i2 : vp_in (x4 + 2) L) {J' : Hs → Nat → Nat → Prop} (hex : SimB X 7 Q 1996 [(0, va_rf (some b)), (1, va_rf (some ax)), (2, va_rf (some am)), (3, va_rf (some ao)), (4, .int x4)] [] J') : SimB X 7 Q 971 [(0, va_rf (some b)), (1, va_rf (some ax)), (2, va_rf (some am)), (3, va_rf (some ao)), (4, .int x4)] [] (StepA (xR X) (f_L_untell (some ax) s1 s2 (some ao)) (mo 15 (some am) (f_X12_untell (some am) s1 s2)) (mo 15 (some am) (f_X12_thrown (some am))) (aL (some ao) 0) bzL J') := by
  refine sb_ofb (fun a9 b9 => ?_)
  refine sm_aload_n cx 1 dL_law__971 rfl rfl ?_
  refine sm_aload_n cx 0 dL_law__972 rfl rfl ?_
  refine sm_iload cx 4 dL_law__973 rfl ?_
  refine sm_iconst (v := 1) cx dL_law__975 (by decide) ?_
  refine sm_iadd cx dL_law__976 ?_
  refine sm_sldE cx hX hbl hbA i1 e1 dL_law__977 ?_
  refine sm_aload_n cx 0 dL_law__978 rfl rfl ?_
  refine sm_iload cx 4 dL_law__979 rfl ?_
  refine sm_iconst (v := 2) cx dL_law__981 (by decide) ?_
  refine sm_iadd cx dL_law__982 ?_
  refine sm_sldE cx hX hbl hbA i2 e2 dL_law__983 ?_
  refine sm_aload_n cx 3 dL_law__984 rfl rfl ?_
  refine sb_gob ?_ a9 b9
  refine sb_help (toV := vI) (Ψ := StepM (xR X) (mo 15 (some am) (f_X12_untell (some am) s1 s2)) (mo 15 (some am) (f_X12_thrown (some am))) (aL (some ao) 0) bzL J') cx htr [va_rf (some ax), .int s1, .int s2, va_rf (some ao)] cw_L_142 (ct_L_untell (xZ X) (some ax) s1 s2 (some ao)) (Nat.le_trans (by decide) hfr) (Nat.le_trans (by decide) hlo) rfl (cat_le _ (Nat.le_of_ble_eq_true rfl)) dL_law__985 (fun _ _ _ hp => hp) (fun v => ?_)
  refine sb_ofb (fun a9 b9 => ?_)
  refine sm_istore cx [(5, .int v), (0, va_rf (some b)), (1, va_rf (some ax)), (2, va_rf (some am)), (3, va_rf (some ao)), (4, .int x4)] dL_law__988 (by decide) rfl (nc1 rfl) rfl ?_
  refine sm_aload_n cx 3 dL_law__990 rfl rfl ?_
  refine sm_aload_n cx 1 dL_law__991 rfl rfl ?_
  refine sm_iload cx 5 dL_law__992 rfl ?_
  refine sm_iconst (v := 1) cx dL_law__994 (by decide) ?_
  refine sm_iadd cx dL_law__995 ?_
  refine sm_sldE cx hX hbl hbA i1 e1 dL_law__996 ?_
  refine sm_aload_n cx 1 dL_law__997 rfl rfl ?_
  refine sm_iload cx 5 dL_law__998 rfl ?_
  refine sm_iconst (v := 2) cx dL_law__1000 (by decide) ?_
  refine sm_iadd cx dL_law__1001 ?_
  refine sm_sldE cx hX hbl hbA i2 e2 dL_law__1002 ?_
  refine sb_gob ?_ a9 b9
  refine sb_run (pc' := 1006) (lv' := fun _ => [(5, .int v), (0, va_rf (some b)), (1, va_rf (some ax)), (2, va_rf (some am)), (3, va_rf (some ao)), (4, .int x4)]) (st' := fun w => .int w :: []) (Ψ := fun w => StepT (xR X) (mo 15 (some am) (f_X12_thrown (some am))) (aL (some ao) 0) bzL J' v w) (fun K hK => sm_callV (T := TX12) (N := 47) (toV := vI) cx [.int s1, .int s2] rfl cv_L_144_ (fun a h => ct_X12_untell (xZ X) a h s1 s2) (Nat.le_trans (by decide) hfr) (Nat.le_trans (by decide) hlo) rfl (cat_le _ (Nat.le_of_ble_eq_true rfl)) dL_law__1003 hK) (fun _ _ _ hp => hp) (fun bb => ?_)
  refine sb_ofb (fun a9 b9 => ?_)
  refine sm_istore cx [(6, .int bb), (5, .int v), (0, va_rf (some b)), (1, va_rf (some ax)), (2, va_rf (some am)), (3, va_rf (some ao)), (4, .int x4)] dL_law__1006 (by decide) rfl (nc1 rfl) rfl ?_
  refine sm_aload_n cx 4 dL_law__1008 rfl rfl ?_
  refine sb_gob ?_ a9 b9
  refine sb_run (pc' := 1012) (lv' := fun _ => [(6, .int bb), (5, .int v), (0, va_rf (some b)), (1, va_rf (some ax)), (2, va_rf (some am)), (3, va_rf (some ao)), (4, .int x4)]) (st' := fun w => .int w :: []) (Ψ := fun w h c n => v = w ∧ StepO (aL (some ao) 0) bzL J' v bb h c n) (fun K hK => sm_callV (T := TX12) (N := 47) (toV := vI) cx [] rfl cv_L_104_ (fun a h => ct_X12_thrown (xZ X) a h) (Nat.le_trans (by decide) hfr) (Nat.le_trans (by decide) hlo) rfl (cat_le _ (Nat.le_of_ble_eq_true rfl)) dL_law__1009 hK) (fun _ _ _ hp => by obtain ⟨h1, c1, n1, q1, q2, q3, q4⟩ := hp; exact ⟨v, h1, c1, n1, q1, ⟨rfl, q2⟩, q3, q4⟩) (fun t => sb_and (fun ht => ?_))
  subst ht
  refine sb_ofb (fun a9 b9 => ?_)
  refine sm_iload cx 1 dL_law__1012 rfl ?_
  refine sb_gob ?_ a9 b9
  refine sb_icmp_eq (tgt := 1019) cx dL_law__1014 (by decide) (fun _ => ?_) (fun hne => absurd rfl hne)
  refine sb_ofb (fun a9 b9 => ?_)
  refine sm_iload cx 1 dL_law__1019 rfl ?_
  refine sb_gob ?_ a9 b9
  refine sb_if_ne (tgt := 1043) cx dL_law__1021 (by decide) (fun hne => ?_) (fun h0 => ?_)
  · refine sb_imp (fun _ _ _ hp => hp.2) ?_
    refine sb_ofb (fun a9 b9 => ?_)
    refine sm_goto (tgt := 1996) cx dL_law__1043 (by decide) ?_
    refine sb_gob ?_ a9 b9
    exact sb_lv [2, 3, 4, 5, 6] rfl hex
  refine sb_room (sb_imp (Ψ := StepR (xR X) (aL (some ao) 0) (bzL bb) J') (fun _ _ _ hp => ⟨hp.1.1 h0, hp.1.2, hp.2⟩) ?_)
  refine sb_ofb (fun a9 b9 => ?_)
  refine sm_aload_n cx 5 dL_law__1024 rfl rfl ?_
  refine sm_iconst (v := 0) cx dL_law__1025 (by decide) ?_
  refine sb_gob ?_ a9 b9
  refine sb_run (pc' := 1027) (lv' := fun _ => [(6, .int bb), (5, .int v), (0, va_rf (some b)), (1, va_rf (some ax)), (2, va_rf (some am)), (3, va_rf (some ao)), (4, .int x4)]) (st' := fun w => .long w :: []) (Ψ := fun w h c n => w = (bzL bb) ∧ J' h c n) (fun K hK => sm_lald cx dL_law__1026 hK) (fun h c0 n0 hp => ⟨(bzL bb), h, 0, 0, hp.1, ⟨rfl, hp.2.1⟩, hp.2.2.1, hp.2.2.2⟩) (fun w => sb_and (fun hw => ?_))
  subst hw
  refine sb_ofb (fun a9 b9 => ?_)
  refine sm_iload cx 0 dL_law__1027 rfl ?_
  refine sb_gob ?_ a9 b9
  refine sb_boolL cx dL_law__1029 dL_law__1032 dL_law__1033 dL_law__1036 ?_
  refine sb_ofb (fun a9 b9 => ?_)
  refine sm_lcmp cx dL_law__1037 ?_
  refine sb_gob ?_ a9 b9
  refine sb_if_eq (tgt := 1043) cx dL_law__1038 (by decide) (fun _ => ?_) (fun hne => absurd (lg_self _) hne)
  refine sb_ofb (fun a9 b9 => ?_)
  refine sm_goto (tgt := 1996) cx dL_law__1043 (by decide) ?_
  refine sb_gob ?_ a9 b9
  exact sb_lv [2, 3, 4, 5, 6] rfl hex
theorem dL_law__1046 : decode cL_law_ 1046 = .ok (.aload_n 1, 1) := by decide +kernel
theorem dL_law__1047 : decode cL_law_ 1047 = .ok (.aload_n 0, 1) := by decide +kernel
theorem dL_law__1048 : decode cL_law_ 1048 = .ok (.iload 4, 2) := by decide +kernel
theorem dL_law__1050 : decode cL_law_ 1050 = .ok (.iconst 1, 1) := by decide +kernel
theorem dL_law__1051 : decode cL_law_ 1051 = .ok (.iadd, 1) := by decide +kernel
theorem dL_law__1052 : decode cL_law_ 1052 = .ok (.iaload, 1) := by decide +kernel
theorem dL_law__1053 : decode cL_law_ 1053 = .ok (.aload_n 0, 1) := by decide +kernel
theorem dL_law__1054 : decode cL_law_ 1054 = .ok (.iload 4, 2) := by decide +kernel
theorem dL_law__1056 : decode cL_law_ 1056 = .ok (.iconst 2, 1) := by decide +kernel
theorem dL_law__1057 : decode cL_law_ 1057 = .ok (.iadd, 1) := by decide +kernel
theorem dL_law__1058 : decode cL_law_ 1058 = .ok (.iaload, 1) := by decide +kernel
theorem dL_law__1059 : decode cL_law_ 1059 = .ok (.aload_n 3, 1) := by decide +kernel
theorem dL_law__1060 : decode cL_law_ 1060 = .ok (.invokestatic 145, 3) := by decide +kernel
theorem dL_law__1063 : decode cL_law_ 1063 = .ok (.istore 5, 2) := by decide +kernel
theorem dL_law__1065 : decode cL_law_ 1065 = .ok (.aload_n 2, 1) := by decide +kernel
theorem dL_law__1066 : decode cL_law_ 1066 = .ok (.aload_n 0, 1) := by decide +kernel
theorem dL_law__1067 : decode cL_law_ 1067 = .ok (.iload 4, 2) := by decide +kernel
theorem dL_law__1069 : decode cL_law_ 1069 = .ok (.iconst 1, 1) := by decide +kernel
theorem dL_law__1070 : decode cL_law_ 1070 = .ok (.iadd, 1) := by decide +kernel
theorem dL_law__1071 : decode cL_law_ 1071 = .ok (.iaload, 1) := by decide +kernel
theorem dL_law__1072 : decode cL_law_ 1072 = .ok (.aload_n 0, 1) := by decide +kernel
theorem dL_law__1073 : decode cL_law_ 1073 = .ok (.iload 4, 2) := by decide +kernel
theorem dL_law__1075 : decode cL_law_ 1075 = .ok (.iconst 2, 1) := by decide +kernel
theorem dL_law__1076 : decode cL_law_ 1076 = .ok (.iadd, 1) := by decide +kernel
theorem dL_law__1077 : decode cL_law_ 1077 = .ok (.iaload, 1) := by decide +kernel
theorem dL_law__1078 : decode cL_law_ 1078 = .ok (.invokevirtual 147, 3) := by decide +kernel
theorem dL_law__1081 : decode cL_law_ 1081 = .ok (.istore 6, 2) := by decide +kernel
theorem dL_law__1083 : decode cL_law_ 1083 = .ok (.aload_n 2, 1) := by decide +kernel
theorem dL_law__1084 : decode cL_law_ 1084 = .ok (.invokevirtual 104, 3) := by decide +kernel
theorem dL_law__1087 : decode cL_law_ 1087 = .ok (.iload 5, 2) := by decide +kernel
theorem dL_law__1089 : decode cL_law_ 1089 = .ok (.if_icmp .eq 5, 3) := by decide +kernel
theorem dL_law__1092 : decode cL_law_ 1092 = .ok (.iconst 0, 1) := by decide +kernel
theorem dL_law__1093 : decode cL_law_ 1093 = .ok (.ireturn, 1) := by decide +kernel
theorem dL_law__1094 : decode cL_law_ 1094 = .ok (.iload 5, 2) := by decide +kernel
theorem dL_law__1096 : decode cL_law_ 1096 = .ok (.ifCond .ne 15, 3) := by decide +kernel
theorem dL_law__1099 : decode cL_law_ 1099 = .ok (.aload_n 3, 1) := by decide +kernel
theorem dL_law__1100 : decode cL_law_ 1100 = .ok (.iconst 0, 1) := by decide +kernel
theorem dL_law__1101 : decode cL_law_ 1101 = .ok (.laload, 1) := by decide +kernel
theorem dL_law__1102 : decode cL_law_ 1102 = .ok (.iload 6, 2) := by decide +kernel
theorem dL_law__1104 : decode cL_law_ 1104 = .ok (.i2l, 1) := by decide +kernel
theorem dL_law__1105 : decode cL_law_ 1105 = .ok (.lcmp, 1) := by decide +kernel
theorem dL_law__1106 : decode cL_law_ 1106 = .ok (.ifCond .eq 5, 3) := by decide +kernel
theorem dL_law__1109 : decode cL_law_ 1109 = .ok (.iconst 0, 1) := by decide +kernel
theorem dL_law__1110 : decode cL_law_ 1110 = .ok (.ireturn, 1) := by decide +kernel
theorem dL_law__1111 : decode cL_law_ 1111 = .ok (.goto 885, 3) := by decide +kernel
set_option maxRecDepth 100000 in
set_option maxHeartbeats 4000000 in
theorem lc_12 {X : Cg} (cx : Cx X cL_law_ RL 7) (htr : (xL X).stackTraces = false) (hfr : 74 ≤ (xR X).frames) (hlo : 1500 ≤ (xR X).locals) {Q : State → Prop} {b L : Nat} {xs : Nat → Int32} (hX : va_X b L xs (xS X) (xS X).heap) (hbl : b < (xS X).heap.size) (hbA : ¬ xA X b) (ax am ao : Nat) (x4 : Int32) (s1 : Int32) (e1 : xs (x4 + 1).toNatClampNeg = s1) (i1 : vp_in (x4 + 1) L) (s2 : Int32) (e2 : xs (x4 + 2).toNatClampNeg = s2) (i2 : vp_in (x4 + 2) L) {J' : Hs → Nat → Nat → Prop} (hex : SimB X 7 Q 1996 [(0, va_rf (some b)), (1, va_rf (some ax)), (2, va_rf (some am)), (3, va_rf (some ao)), (4, .int x4)] [] J') : SimB X 7 Q 1046 [(0, va_rf (some b)), (1, va_rf (some ax)), (2, va_rf (some am)), (3, va_rf (some ao)), (4, .int x4)] [] (StepA (xR X) (f_L_law (some ax) s1 s2 (some ao)) (mo 15 (some am) (f_X12_law (some am) s1 s2)) (mo 15 (some am) (f_X12_thrown (some am))) (aL (some ao) 0) Int32.toInt64 J') := by
  refine sb_ofb (fun a9 b9 => ?_)
  refine sm_aload_n cx 1 dL_law__1046 rfl rfl ?_
  refine sm_aload_n cx 0 dL_law__1047 rfl rfl ?_
  refine sm_iload cx 4 dL_law__1048 rfl ?_
  refine sm_iconst (v := 1) cx dL_law__1050 (by decide) ?_
  refine sm_iadd cx dL_law__1051 ?_
  refine sm_sldE cx hX hbl hbA i1 e1 dL_law__1052 ?_
  refine sm_aload_n cx 0 dL_law__1053 rfl rfl ?_
  refine sm_iload cx 4 dL_law__1054 rfl ?_
  refine sm_iconst (v := 2) cx dL_law__1056 (by decide) ?_
  refine sm_iadd cx dL_law__1057 ?_
  refine sm_sldE cx hX hbl hbA i2 e2 dL_law__1058 ?_
  refine sm_aload_n cx 3 dL_law__1059 rfl rfl ?_
  refine sb_gob ?_ a9 b9
  refine sb_help (toV := vI) (Ψ := StepM (xR X) (mo 15 (some am) (f_X12_law (some am) s1 s2)) (mo 15 (some am) (f_X12_thrown (some am))) (aL (some ao) 0) Int32.toInt64 J') cx htr [va_rf (some ax), .int s1, .int s2, va_rf (some ao)] cw_L_145 (ct_L_law (xZ X) (some ax) s1 s2 (some ao)) (Nat.le_trans (by decide) hfr) (Nat.le_trans (by decide) hlo) rfl (cat_le _ (Nat.le_of_ble_eq_true rfl)) dL_law__1060 (fun _ _ _ hp => hp) (fun v => ?_)
  refine sb_ofb (fun a9 b9 => ?_)
  refine sm_istore cx [(5, .int v), (0, va_rf (some b)), (1, va_rf (some ax)), (2, va_rf (some am)), (3, va_rf (some ao)), (4, .int x4)] dL_law__1063 (by decide) rfl (nc1 rfl) rfl ?_
  refine sm_aload_n cx 3 dL_law__1065 rfl rfl ?_
  refine sm_aload_n cx 1 dL_law__1066 rfl rfl ?_
  refine sm_iload cx 5 dL_law__1067 rfl ?_
  refine sm_iconst (v := 1) cx dL_law__1069 (by decide) ?_
  refine sm_iadd cx dL_law__1070 ?_
  refine sm_sldE cx hX hbl hbA i1 e1 dL_law__1071 ?_
  refine sm_aload_n cx 1 dL_law__1072 rfl rfl ?_
  refine sm_iload cx 5 dL_law__1073 rfl ?_
  refine sm_iconst (v := 2) cx dL_law__1075 (by decide) ?_
  refine sm_iadd cx dL_law__1076 ?_
  refine sm_sldE cx hX hbl hbA i2 e2 dL_law__1077 ?_
  refine sb_gob ?_ a9 b9
  refine sb_run (pc' := 1081) (lv' := fun _ => [(5, .int v), (0, va_rf (some b)), (1, va_rf (some ax)), (2, va_rf (some am)), (3, va_rf (some ao)), (4, .int x4)]) (st' := fun w => .int w :: []) (Ψ := fun w => StepT (xR X) (mo 15 (some am) (f_X12_thrown (some am))) (aL (some ao) 0) Int32.toInt64 J' v w) (fun K hK => sm_callV (T := TX12) (N := 47) (toV := vI) cx [.int s1, .int s2] rfl cv_L_147_ (fun a h => ct_X12_law (xZ X) a h s1 s2) (Nat.le_trans (by decide) hfr) (Nat.le_trans (by decide) hlo) rfl (cat_le _ (Nat.le_of_ble_eq_true rfl)) dL_law__1078 hK) (fun _ _ _ hp => hp) (fun bb => ?_)
  refine sb_ofb (fun a9 b9 => ?_)
  refine sm_istore cx [(6, .int bb), (5, .int v), (0, va_rf (some b)), (1, va_rf (some ax)), (2, va_rf (some am)), (3, va_rf (some ao)), (4, .int x4)] dL_law__1081 (by decide) rfl (nc1 rfl) rfl ?_
  refine sm_aload_n cx 4 dL_law__1083 rfl rfl ?_
  refine sb_gob ?_ a9 b9
  refine sb_run (pc' := 1087) (lv' := fun _ => [(6, .int bb), (5, .int v), (0, va_rf (some b)), (1, va_rf (some ax)), (2, va_rf (some am)), (3, va_rf (some ao)), (4, .int x4)]) (st' := fun w => .int w :: []) (Ψ := fun w h c n => v = w ∧ StepO (aL (some ao) 0) Int32.toInt64 J' v bb h c n) (fun K hK => sm_callV (T := TX12) (N := 47) (toV := vI) cx [] rfl cv_L_104_ (fun a h => ct_X12_thrown (xZ X) a h) (Nat.le_trans (by decide) hfr) (Nat.le_trans (by decide) hlo) rfl (cat_le _ (Nat.le_of_ble_eq_true rfl)) dL_law__1084 hK) (fun _ _ _ hp => by obtain ⟨h1, c1, n1, q1, q2, q3, q4⟩ := hp; exact ⟨v, h1, c1, n1, q1, ⟨rfl, q2⟩, q3, q4⟩) (fun t => sb_and (fun ht => ?_))
  subst ht
  refine sb_ofb (fun a9 b9 => ?_)
  refine sm_iload cx 1 dL_law__1087 rfl ?_
  refine sb_gob ?_ a9 b9
  refine sb_icmp_eq (tgt := 1094) cx dL_law__1089 (by decide) (fun _ => ?_) (fun hne => absurd rfl hne)
  refine sb_ofb (fun a9 b9 => ?_)
  refine sm_iload cx 1 dL_law__1094 rfl ?_
  refine sb_gob ?_ a9 b9
  refine sb_if_ne (tgt := 1111) cx dL_law__1096 (by decide) (fun hne => ?_) (fun h0 => ?_)
  · refine sb_imp (fun _ _ _ hp => hp.2) ?_
    refine sb_ofb (fun a9 b9 => ?_)
    refine sm_goto (tgt := 1996) cx dL_law__1111 (by decide) ?_
    refine sb_gob ?_ a9 b9
    exact sb_lv [2, 3, 4, 5, 6] rfl hex
  refine sb_room (sb_imp (Ψ := StepR (xR X) (aL (some ao) 0) (Int32.toInt64 bb) J') (fun _ _ _ hp => ⟨hp.1.1 h0, hp.1.2, hp.2⟩) ?_)
  refine sb_ofb (fun a9 b9 => ?_)
  refine sm_aload_n cx 5 dL_law__1099 rfl rfl ?_
  refine sm_iconst (v := 0) cx dL_law__1100 (by decide) ?_
  refine sb_gob ?_ a9 b9
  refine sb_run (pc' := 1102) (lv' := fun _ => [(6, .int bb), (5, .int v), (0, va_rf (some b)), (1, va_rf (some ax)), (2, va_rf (some am)), (3, va_rf (some ao)), (4, .int x4)]) (st' := fun w => .long w :: []) (Ψ := fun w h c n => w = (Int32.toInt64 bb) ∧ J' h c n) (fun K hK => sm_lald cx dL_law__1101 hK) (fun h c0 n0 hp => ⟨(Int32.toInt64 bb), h, 0, 0, hp.1, ⟨rfl, hp.2.1⟩, hp.2.2.1, hp.2.2.2⟩) (fun w => sb_and (fun hw => ?_))
  subst hw
  refine sb_ofb (fun a9 b9 => ?_)
  refine sm_iload cx 0 dL_law__1102 rfl ?_
  refine sm_i2l cx dL_law__1104 ?_
  refine sm_lcmp cx dL_law__1105 ?_
  refine sb_gob ?_ a9 b9
  refine sb_if_eq (tgt := 1111) cx dL_law__1106 (by decide) (fun _ => ?_) (fun hne => absurd (lg_self _) hne)
  refine sb_ofb (fun a9 b9 => ?_)
  refine sm_goto (tgt := 1996) cx dL_law__1111 (by decide) ?_
  refine sb_gob ?_ a9 b9
  exact sb_lv [2, 3, 4, 5, 6] rfl hex
theorem dL_law__1114 : decode cL_law_ 1114 = .ok (.aload_n 1, 1) := by decide +kernel
theorem dL_law__1115 : decode cL_law_ 1115 = .ok (.aload_n 0, 1) := by decide +kernel
theorem dL_law__1116 : decode cL_law_ 1116 = .ok (.iload 4, 2) := by decide +kernel
theorem dL_law__1118 : decode cL_law_ 1118 = .ok (.iconst 1, 1) := by decide +kernel
theorem dL_law__1119 : decode cL_law_ 1119 = .ok (.iadd, 1) := by decide +kernel
theorem dL_law__1120 : decode cL_law_ 1120 = .ok (.iaload, 1) := by decide +kernel
theorem dL_law__1121 : decode cL_law_ 1121 = .ok (.aload_n 0, 1) := by decide +kernel
theorem dL_law__1122 : decode cL_law_ 1122 = .ok (.iload 4, 2) := by decide +kernel
theorem dL_law__1124 : decode cL_law_ 1124 = .ok (.iconst 2, 1) := by decide +kernel
theorem dL_law__1125 : decode cL_law_ 1125 = .ok (.iadd, 1) := by decide +kernel
theorem dL_law__1126 : decode cL_law_ 1126 = .ok (.iaload, 1) := by decide +kernel
theorem dL_law__1127 : decode cL_law_ 1127 = .ok (.aload_n 0, 1) := by decide +kernel
theorem dL_law__1128 : decode cL_law_ 1128 = .ok (.iload 4, 2) := by decide +kernel
theorem dL_law__1130 : decode cL_law_ 1130 = .ok (.iconst 3, 1) := by decide +kernel
theorem dL_law__1131 : decode cL_law_ 1131 = .ok (.iadd, 1) := by decide +kernel
theorem dL_law__1132 : decode cL_law_ 1132 = .ok (.iaload, 1) := by decide +kernel
theorem dL_law__1133 : decode cL_law_ 1133 = .ok (.aload_n 0, 1) := by decide +kernel
theorem dL_law__1134 : decode cL_law_ 1134 = .ok (.iload 4, 2) := by decide +kernel
theorem dL_law__1136 : decode cL_law_ 1136 = .ok (.iconst 4, 1) := by decide +kernel
theorem dL_law__1137 : decode cL_law_ 1137 = .ok (.iadd, 1) := by decide +kernel
theorem dL_law__1138 : decode cL_law_ 1138 = .ok (.iaload, 1) := by decide +kernel
theorem dL_law__1139 : decode cL_law_ 1139 = .ok (.aload_n 0, 1) := by decide +kernel
theorem dL_law__1140 : decode cL_law_ 1140 = .ok (.iload 4, 2) := by decide +kernel
theorem dL_law__1142 : decode cL_law_ 1142 = .ok (.iconst 5, 1) := by decide +kernel
theorem dL_law__1143 : decode cL_law_ 1143 = .ok (.iadd, 1) := by decide +kernel
theorem dL_law__1144 : decode cL_law_ 1144 = .ok (.iaload, 1) := by decide +kernel
theorem dL_law__1145 : decode cL_law_ 1145 = .ok (.invokevirtual 148, 3) := by decide +kernel
theorem dL_law__1148 : decode cL_law_ 1148 = .ok (.aload_n 2, 1) := by decide +kernel
theorem dL_law__1149 : decode cL_law_ 1149 = .ok (.aload_n 0, 1) := by decide +kernel
theorem dL_law__1150 : decode cL_law_ 1150 = .ok (.iload 4, 2) := by decide +kernel
theorem dL_law__1152 : decode cL_law_ 1152 = .ok (.iconst 1, 1) := by decide +kernel
theorem dL_law__1153 : decode cL_law_ 1153 = .ok (.iadd, 1) := by decide +kernel
theorem dL_law__1154 : decode cL_law_ 1154 = .ok (.iaload, 1) := by decide +kernel
theorem dL_law__1155 : decode cL_law_ 1155 = .ok (.aload_n 0, 1) := by decide +kernel
theorem dL_law__1156 : decode cL_law_ 1156 = .ok (.iload 4, 2) := by decide +kernel
theorem dL_law__1158 : decode cL_law_ 1158 = .ok (.iconst 2, 1) := by decide +kernel
theorem dL_law__1159 : decode cL_law_ 1159 = .ok (.iadd, 1) := by decide +kernel
theorem dL_law__1160 : decode cL_law_ 1160 = .ok (.iaload, 1) := by decide +kernel
theorem dL_law__1161 : decode cL_law_ 1161 = .ok (.aload_n 0, 1) := by decide +kernel
theorem dL_law__1162 : decode cL_law_ 1162 = .ok (.iload 4, 2) := by decide +kernel
theorem dL_law__1164 : decode cL_law_ 1164 = .ok (.iconst 3, 1) := by decide +kernel
theorem dL_law__1165 : decode cL_law_ 1165 = .ok (.iadd, 1) := by decide +kernel
theorem dL_law__1166 : decode cL_law_ 1166 = .ok (.iaload, 1) := by decide +kernel
theorem dL_law__1167 : decode cL_law_ 1167 = .ok (.aload_n 0, 1) := by decide +kernel
theorem dL_law__1168 : decode cL_law_ 1168 = .ok (.iload 4, 2) := by decide +kernel
theorem dL_law__1170 : decode cL_law_ 1170 = .ok (.iconst 4, 1) := by decide +kernel
theorem dL_law__1171 : decode cL_law_ 1171 = .ok (.iadd, 1) := by decide +kernel
theorem dL_law__1172 : decode cL_law_ 1172 = .ok (.iaload, 1) := by decide +kernel
theorem dL_law__1173 : decode cL_law_ 1173 = .ok (.aload_n 0, 1) := by decide +kernel
theorem dL_law__1174 : decode cL_law_ 1174 = .ok (.iload 4, 2) := by decide +kernel
theorem dL_law__1176 : decode cL_law_ 1176 = .ok (.iconst 5, 1) := by decide +kernel
theorem dL_law__1177 : decode cL_law_ 1177 = .ok (.iadd, 1) := by decide +kernel
theorem dL_law__1178 : decode cL_law_ 1178 = .ok (.iaload, 1) := by decide +kernel
theorem dL_law__1179 : decode cL_law_ 1179 = .ok (.invokevirtual 152, 3) := by decide +kernel
theorem dL_law__1182 : decode cL_law_ 1182 = .ok (.if_icmp .eq 814, 3) := by decide +kernel
theorem dL_law__1185 : decode cL_law_ 1185 = .ok (.iconst 0, 1) := by decide +kernel
theorem dL_law__1186 : decode cL_law_ 1186 = .ok (.ireturn, 1) := by decide +kernel
set_option maxRecDepth 100000 in
set_option maxHeartbeats 4000000 in
theorem lc_13 {X : Cg} (cx : Cx X cL_law_ RL 7) (htr : (xL X).stackTraces = false) (hfr : 74 ≤ (xR X).frames) (hlo : 1500 ≤ (xR X).locals) {Q : State → Prop} {b L : Nat} {xs : Nat → Int32} (hX : va_X b L xs (xS X) (xS X).heap) (hbl : b < (xS X).heap.size) (hbA : ¬ xA X b) (ax am ao : Nat) (x4 : Int32) (s1 : Int32) (e1 : xs (x4 + 1).toNatClampNeg = s1) (i1 : vp_in (x4 + 1) L) (s2 : Int32) (e2 : xs (x4 + 2).toNatClampNeg = s2) (i2 : vp_in (x4 + 2) L) (s3 : Int32) (e3 : xs (x4 + 3).toNatClampNeg = s3) (i3 : vp_in (x4 + 3) L) (s4 : Int32) (e4 : xs (x4 + 4).toNatClampNeg = s4) (i4 : vp_in (x4 + 4) L) (s5 : Int32) (e5 : xs (x4 + 5).toNatClampNeg = s5) (i5 : vp_in (x4 + 5) L) {J' : Hs → Nat → Nat → Prop} (hex : SimB X 7 Q 1996 [(0, va_rf (some b)), (1, va_rf (some ax)), (2, va_rf (some am)), (3, va_rf (some ao)), (4, .int x4)] [] J') : SimB X 7 Q 1114 [(0, va_rf (some b)), (1, va_rf (some ax)), (2, va_rf (some am)), (3, va_rf (some ao)), (4, .int x4)] [] (StepD (xR X) (mo 14 (some ax) (f_X11_feed (some ax) s1 s2 s3 s4 s5)) (mo 15 (some am) (f_X12_feed (some am) s1 s2 s3 s4 s5)) J') := by
  refine sb_ofb (fun a9 b9 => ?_)
  refine sm_aload_n cx 1 dL_law__1114 rfl rfl ?_
  refine sm_aload_n cx 0 dL_law__1115 rfl rfl ?_
  refine sm_iload cx 4 dL_law__1116 rfl ?_
  refine sm_iconst (v := 1) cx dL_law__1118 (by decide) ?_
  refine sm_iadd cx dL_law__1119 ?_
  refine sm_sldE cx hX hbl hbA i1 e1 dL_law__1120 ?_
  refine sm_aload_n cx 0 dL_law__1121 rfl rfl ?_
  refine sm_iload cx 4 dL_law__1122 rfl ?_
  refine sm_iconst (v := 2) cx dL_law__1124 (by decide) ?_
  refine sm_iadd cx dL_law__1125 ?_
  refine sm_sldE cx hX hbl hbA i2 e2 dL_law__1126 ?_
  refine sm_aload_n cx 0 dL_law__1127 rfl rfl ?_
  refine sm_iload cx 4 dL_law__1128 rfl ?_
  refine sm_iconst (v := 3) cx dL_law__1130 (by decide) ?_
  refine sm_iadd cx dL_law__1131 ?_
  refine sm_sldE cx hX hbl hbA i3 e3 dL_law__1132 ?_
  refine sm_aload_n cx 0 dL_law__1133 rfl rfl ?_
  refine sm_iload cx 4 dL_law__1134 rfl ?_
  refine sm_iconst (v := 4) cx dL_law__1136 (by decide) ?_
  refine sm_iadd cx dL_law__1137 ?_
  refine sm_sldE cx hX hbl hbA i4 e4 dL_law__1138 ?_
  refine sm_aload_n cx 0 dL_law__1139 rfl rfl ?_
  refine sm_iload cx 4 dL_law__1140 rfl ?_
  refine sm_iconst (v := 5) cx dL_law__1142 (by decide) ?_
  refine sm_iadd cx dL_law__1143 ?_
  refine sm_sldE cx hX hbl hbA i5 e5 dL_law__1144 ?_
  refine sb_gob ?_ a9 b9
  refine sb_run (pc' := 1148) (lv' := fun _ => [(0, va_rf (some b)), (1, va_rf (some ax)), (2, va_rf (some am)), (3, va_rf (some ao)), (4, .int x4)]) (st' := fun w => .int w :: []) (Ψ := fun w => StepE (xR X) (mo 15 (some am) (f_X12_feed (some am) s1 s2 s3 s4 s5)) J' w) (fun K hK => sm_callV (T := TX11) (N := 14) (toV := vI) cx [.int s1, .int s2, .int s3, .int s4, .int s5] rfl cv_L_148_ (fun a h => ct_X11_feed (xZ X) a h s1 s2 s3 s4 s5) (Nat.le_trans (by decide) hfr) (Nat.le_trans (by decide) hlo) rfl (cat_le _ (Nat.le_of_ble_eq_true rfl)) dL_law__1145 hK) (fun _ _ _ hp => hp) (fun v => ?_)
  refine sb_ofb (fun a9 b9 => ?_)
  refine sm_aload_n cx 2 dL_law__1148 rfl rfl ?_
  refine sm_aload_n cx 0 dL_law__1149 rfl rfl ?_
  refine sm_iload cx 4 dL_law__1150 rfl ?_
  refine sm_iconst (v := 1) cx dL_law__1152 (by decide) ?_
  refine sm_iadd cx dL_law__1153 ?_
  refine sm_sldE cx hX hbl hbA i1 e1 dL_law__1154 ?_
  refine sm_aload_n cx 0 dL_law__1155 rfl rfl ?_
  refine sm_iload cx 4 dL_law__1156 rfl ?_
  refine sm_iconst (v := 2) cx dL_law__1158 (by decide) ?_
  refine sm_iadd cx dL_law__1159 ?_
  refine sm_sldE cx hX hbl hbA i2 e2 dL_law__1160 ?_
  refine sm_aload_n cx 0 dL_law__1161 rfl rfl ?_
  refine sm_iload cx 4 dL_law__1162 rfl ?_
  refine sm_iconst (v := 3) cx dL_law__1164 (by decide) ?_
  refine sm_iadd cx dL_law__1165 ?_
  refine sm_sldE cx hX hbl hbA i3 e3 dL_law__1166 ?_
  refine sm_aload_n cx 0 dL_law__1167 rfl rfl ?_
  refine sm_iload cx 4 dL_law__1168 rfl ?_
  refine sm_iconst (v := 4) cx dL_law__1170 (by decide) ?_
  refine sm_iadd cx dL_law__1171 ?_
  refine sm_sldE cx hX hbl hbA i4 e4 dL_law__1172 ?_
  refine sm_aload_n cx 0 dL_law__1173 rfl rfl ?_
  refine sm_iload cx 4 dL_law__1174 rfl ?_
  refine sm_iconst (v := 5) cx dL_law__1176 (by decide) ?_
  refine sm_iadd cx dL_law__1177 ?_
  refine sm_sldE cx hX hbl hbA i5 e5 dL_law__1178 ?_
  refine sb_gob ?_ a9 b9
  refine sb_run (pc' := 1182) (lv' := fun _ => [(0, va_rf (some b)), (1, va_rf (some ax)), (2, va_rf (some am)), (3, va_rf (some ao)), (4, .int x4)]) (st' := fun w => .int w :: [.int v]) (Ψ := fun w h c n => v = w ∧ J' h c n) (fun K hK => sm_callV (T := TX12) (N := 47) (toV := vI) cx [.int s1, .int s2, .int s3, .int s4, .int s5] rfl cv_L_152_ (fun a h => ct_X12_feed (xZ X) a h s1 s2 s3 s4 s5) (Nat.le_trans (by decide) hfr) (Nat.le_trans (by decide) hlo) rfl (cat_le _ (Nat.le_of_ble_eq_true rfl)) dL_law__1179 hK) (fun _ _ _ hp => by obtain ⟨h1, c1, n1, q1, q2, q3, q4⟩ := hp; exact ⟨v, h1, c1, n1, q1, ⟨rfl, q2⟩, q3, q4⟩) (fun t => sb_and (fun ht => ?_))
  subst ht
  refine sb_icmp_eq (tgt := 1996) cx dL_law__1182 (by decide) (fun _ => ?_) (fun hne => absurd rfl hne)
  exact sb_lv [0, 1, 2, 3, 4] rfl hex
theorem dL_law__1187 : decode cL_law_ 1187 = .ok (.aload_n 1, 1) := by decide +kernel
theorem dL_law__1188 : decode cL_law_ 1188 = .ok (.aload_n 0, 1) := by decide +kernel
theorem dL_law__1189 : decode cL_law_ 1189 = .ok (.iload 4, 2) := by decide +kernel
theorem dL_law__1191 : decode cL_law_ 1191 = .ok (.iconst 1, 1) := by decide +kernel
theorem dL_law__1192 : decode cL_law_ 1192 = .ok (.iadd, 1) := by decide +kernel
theorem dL_law__1193 : decode cL_law_ 1193 = .ok (.iaload, 1) := by decide +kernel
theorem dL_law__1194 : decode cL_law_ 1194 = .ok (.aload_n 0, 1) := by decide +kernel
theorem dL_law__1195 : decode cL_law_ 1195 = .ok (.iload 4, 2) := by decide +kernel
theorem dL_law__1197 : decode cL_law_ 1197 = .ok (.iconst 2, 1) := by decide +kernel
theorem dL_law__1198 : decode cL_law_ 1198 = .ok (.iadd, 1) := by decide +kernel
theorem dL_law__1199 : decode cL_law_ 1199 = .ok (.iaload, 1) := by decide +kernel
theorem dL_law__1200 : decode cL_law_ 1200 = .ok (.aload_n 0, 1) := by decide +kernel
theorem dL_law__1201 : decode cL_law_ 1201 = .ok (.iload 4, 2) := by decide +kernel
theorem dL_law__1203 : decode cL_law_ 1203 = .ok (.iconst 3, 1) := by decide +kernel
theorem dL_law__1204 : decode cL_law_ 1204 = .ok (.iadd, 1) := by decide +kernel
theorem dL_law__1205 : decode cL_law_ 1205 = .ok (.iaload, 1) := by decide +kernel
theorem dL_law__1206 : decode cL_law_ 1206 = .ok (.aload_n 0, 1) := by decide +kernel
theorem dL_law__1207 : decode cL_law_ 1207 = .ok (.iload 4, 2) := by decide +kernel
theorem dL_law__1209 : decode cL_law_ 1209 = .ok (.iconst 4, 1) := by decide +kernel
theorem dL_law__1210 : decode cL_law_ 1210 = .ok (.iadd, 1) := by decide +kernel
theorem dL_law__1211 : decode cL_law_ 1211 = .ok (.iaload, 1) := by decide +kernel
theorem dL_law__1212 : decode cL_law_ 1212 = .ok (.ifCond .eq 7, 3) := by decide +kernel
theorem dL_law__1215 : decode cL_law_ 1215 = .ok (.iconst 1, 1) := by decide +kernel
theorem dL_law__1216 : decode cL_law_ 1216 = .ok (.goto 4, 3) := by decide +kernel
theorem dL_law__1219 : decode cL_law_ 1219 = .ok (.iconst 0, 1) := by decide +kernel
theorem dL_law__1220 : decode cL_law_ 1220 = .ok (.aload_n 0, 1) := by decide +kernel
theorem dL_law__1221 : decode cL_law_ 1221 = .ok (.iload 4, 2) := by decide +kernel
theorem dL_law__1223 : decode cL_law_ 1223 = .ok (.iconst 5, 1) := by decide +kernel
theorem dL_law__1224 : decode cL_law_ 1224 = .ok (.iadd, 1) := by decide +kernel
theorem dL_law__1225 : decode cL_law_ 1225 = .ok (.iaload, 1) := by decide +kernel
theorem dL_law__1226 : decode cL_law_ 1226 = .ok (.aload_n 3, 1) := by decide +kernel
theorem dL_law__1227 : decode cL_law_ 1227 = .ok (.invokestatic 153, 3) := by decide +kernel
theorem dL_law__1230 : decode cL_law_ 1230 = .ok (.istore 5, 2) := by decide +kernel
theorem dL_law__1232 : decode cL_law_ 1232 = .ok (.aload_n 2, 1) := by decide +kernel
theorem dL_law__1233 : decode cL_law_ 1233 = .ok (.aload_n 0, 1) := by decide +kernel
theorem dL_law__1234 : decode cL_law_ 1234 = .ok (.iload 4, 2) := by decide +kernel
theorem dL_law__1236 : decode cL_law_ 1236 = .ok (.iconst 1, 1) := by decide +kernel
theorem dL_law__1237 : decode cL_law_ 1237 = .ok (.iadd, 1) := by decide +kernel
theorem dL_law__1238 : decode cL_law_ 1238 = .ok (.iaload, 1) := by decide +kernel
theorem dL_law__1239 : decode cL_law_ 1239 = .ok (.aload_n 0, 1) := by decide +kernel
theorem dL_law__1240 : decode cL_law_ 1240 = .ok (.iload 4, 2) := by decide +kernel
theorem dL_law__1242 : decode cL_law_ 1242 = .ok (.iconst 2, 1) := by decide +kernel
theorem dL_law__1243 : decode cL_law_ 1243 = .ok (.iadd, 1) := by decide +kernel
theorem dL_law__1244 : decode cL_law_ 1244 = .ok (.iaload, 1) := by decide +kernel
theorem dL_law__1245 : decode cL_law_ 1245 = .ok (.aload_n 0, 1) := by decide +kernel
theorem dL_law__1246 : decode cL_law_ 1246 = .ok (.iload 4, 2) := by decide +kernel
theorem dL_law__1248 : decode cL_law_ 1248 = .ok (.iconst 3, 1) := by decide +kernel
theorem dL_law__1249 : decode cL_law_ 1249 = .ok (.iadd, 1) := by decide +kernel
theorem dL_law__1250 : decode cL_law_ 1250 = .ok (.iaload, 1) := by decide +kernel
theorem dL_law__1251 : decode cL_law_ 1251 = .ok (.aload_n 0, 1) := by decide +kernel
theorem dL_law__1252 : decode cL_law_ 1252 = .ok (.iload 4, 2) := by decide +kernel
theorem dL_law__1254 : decode cL_law_ 1254 = .ok (.iconst 4, 1) := by decide +kernel
theorem dL_law__1255 : decode cL_law_ 1255 = .ok (.iadd, 1) := by decide +kernel
theorem dL_law__1256 : decode cL_law_ 1256 = .ok (.iaload, 1) := by decide +kernel
theorem dL_law__1257 : decode cL_law_ 1257 = .ok (.ifCond .eq 7, 3) := by decide +kernel
theorem dL_law__1260 : decode cL_law_ 1260 = .ok (.iconst 1, 1) := by decide +kernel
theorem dL_law__1261 : decode cL_law_ 1261 = .ok (.goto 4, 3) := by decide +kernel
theorem dL_law__1264 : decode cL_law_ 1264 = .ok (.iconst 0, 1) := by decide +kernel
theorem dL_law__1265 : decode cL_law_ 1265 = .ok (.aload_n 0, 1) := by decide +kernel
theorem dL_law__1266 : decode cL_law_ 1266 = .ok (.iload 4, 2) := by decide +kernel
theorem dL_law__1268 : decode cL_law_ 1268 = .ok (.iconst 5, 1) := by decide +kernel
theorem dL_law__1269 : decode cL_law_ 1269 = .ok (.iadd, 1) := by decide +kernel
theorem dL_law__1270 : decode cL_law_ 1270 = .ok (.iaload, 1) := by decide +kernel
theorem dL_law__1271 : decode cL_law_ 1271 = .ok (.invokevirtual 156, 3) := by decide +kernel
theorem dL_law__1274 : decode cL_law_ 1274 = .ok (.istore 6, 2) := by decide +kernel
theorem dL_law__1276 : decode cL_law_ 1276 = .ok (.aload_n 2, 1) := by decide +kernel
theorem dL_law__1277 : decode cL_law_ 1277 = .ok (.invokevirtual 104, 3) := by decide +kernel
theorem dL_law__1280 : decode cL_law_ 1280 = .ok (.iload 5, 2) := by decide +kernel
theorem dL_law__1282 : decode cL_law_ 1282 = .ok (.if_icmp .eq 5, 3) := by decide +kernel
theorem dL_law__1285 : decode cL_law_ 1285 = .ok (.iconst 0, 1) := by decide +kernel
theorem dL_law__1286 : decode cL_law_ 1286 = .ok (.ireturn, 1) := by decide +kernel
theorem dL_law__1287 : decode cL_law_ 1287 = .ok (.iload 5, 2) := by decide +kernel
theorem dL_law__1289 : decode cL_law_ 1289 = .ok (.ifCond .ne 15, 3) := by decide +kernel
theorem dL_law__1292 : decode cL_law_ 1292 = .ok (.aload_n 3, 1) := by decide +kernel
theorem dL_law__1293 : decode cL_law_ 1293 = .ok (.iconst 0, 1) := by decide +kernel
theorem dL_law__1294 : decode cL_law_ 1294 = .ok (.laload, 1) := by decide +kernel
theorem dL_law__1295 : decode cL_law_ 1295 = .ok (.iload 6, 2) := by decide +kernel
theorem dL_law__1297 : decode cL_law_ 1297 = .ok (.i2l, 1) := by decide +kernel
theorem dL_law__1298 : decode cL_law_ 1298 = .ok (.lcmp, 1) := by decide +kernel
theorem dL_law__1299 : decode cL_law_ 1299 = .ok (.ifCond .eq 5, 3) := by decide +kernel
theorem dL_law__1302 : decode cL_law_ 1302 = .ok (.iconst 0, 1) := by decide +kernel
theorem dL_law__1303 : decode cL_law_ 1303 = .ok (.ireturn, 1) := by decide +kernel
theorem dL_law__1304 : decode cL_law_ 1304 = .ok (.goto 692, 3) := by decide +kernel
set_option maxRecDepth 100000 in
set_option maxHeartbeats 4000000 in
theorem lc_14 {X : Cg} (cx : Cx X cL_law_ RL 7) (htr : (xL X).stackTraces = false) (hfr : 74 ≤ (xR X).frames) (hlo : 1500 ≤ (xR X).locals) {Q : State → Prop} {b L : Nat} {xs : Nat → Int32} (hX : va_X b L xs (xS X) (xS X).heap) (hbl : b < (xS X).heap.size) (hbA : ¬ xA X b) (ax am ao : Nat) (x4 : Int32) (s1 : Int32) (e1 : xs (x4 + 1).toNatClampNeg = s1) (i1 : vp_in (x4 + 1) L) (s2 : Int32) (e2 : xs (x4 + 2).toNatClampNeg = s2) (i2 : vp_in (x4 + 2) L) (s3 : Int32) (e3 : xs (x4 + 3).toNatClampNeg = s3) (i3 : vp_in (x4 + 3) L) (s4 : Int32) (e4 : xs (x4 + 4).toNatClampNeg = s4) (i4 : vp_in (x4 + 4) L) (s5 : Int32) (e5 : xs (x4 + 5).toNatClampNeg = s5) (i5 : vp_in (x4 + 5) L) {J' : Hs → Nat → Nat → Prop} (hex : SimB X 7 Q 1996 [(0, va_rf (some b)), (1, va_rf (some ax)), (2, va_rf (some am)), (3, va_rf (some ao)), (4, .int x4)] [] J') : SimB X 7 Q 1187 [(0, va_rf (some b)), (1, va_rf (some ax)), (2, va_rf (some am)), (3, va_rf (some ao)), (4, .int x4)] [] (StepA (xR X) (f_L_link (xZ X) (some ax) s1 s2 s3 (bz s4) s5 (some ao)) (mo 15 (some am) (f_X12_link (xZ X) (some am) s1 s2 s3 (bz s4) s5)) (mo 15 (some am) (f_X12_thrown (some am))) (aL (some ao) 0) Int32.toInt64 J') := by
  refine sb_ofb (fun a9 b9 => ?_)
  refine sm_aload_n cx 1 dL_law__1187 rfl rfl ?_
  refine sm_aload_n cx 0 dL_law__1188 rfl rfl ?_
  refine sm_iload cx 4 dL_law__1189 rfl ?_
  refine sm_iconst (v := 1) cx dL_law__1191 (by decide) ?_
  refine sm_iadd cx dL_law__1192 ?_
  refine sm_sldE cx hX hbl hbA i1 e1 dL_law__1193 ?_
  refine sm_aload_n cx 0 dL_law__1194 rfl rfl ?_
  refine sm_iload cx 4 dL_law__1195 rfl ?_
  refine sm_iconst (v := 2) cx dL_law__1197 (by decide) ?_
  refine sm_iadd cx dL_law__1198 ?_
  refine sm_sldE cx hX hbl hbA i2 e2 dL_law__1199 ?_
  refine sm_aload_n cx 0 dL_law__1200 rfl rfl ?_
  refine sm_iload cx 4 dL_law__1201 rfl ?_
  refine sm_iconst (v := 3) cx dL_law__1203 (by decide) ?_
  refine sm_iadd cx dL_law__1204 ?_
  refine sm_sldE cx hX hbl hbA i3 e3 dL_law__1205 ?_
  refine sm_aload_n cx 0 dL_law__1206 rfl rfl ?_
  refine sm_iload cx 4 dL_law__1207 rfl ?_
  refine sm_iconst (v := 4) cx dL_law__1209 (by decide) ?_
  refine sm_iadd cx dL_law__1210 ?_
  refine sm_sldE cx hX hbl hbA i4 e4 dL_law__1211 ?_
  refine sb_gob ?_ a9 b9
  refine sb_bool cx dL_law__1212 dL_law__1215 dL_law__1216 dL_law__1219 ?_
  refine sb_ofb (fun a9 b9 => ?_)
  refine sm_aload_n cx 0 dL_law__1220 rfl rfl ?_
  refine sm_iload cx 4 dL_law__1221 rfl ?_
  refine sm_iconst (v := 5) cx dL_law__1223 (by decide) ?_
  refine sm_iadd cx dL_law__1224 ?_
  refine sm_sldE cx hX hbl hbA i5 e5 dL_law__1225 ?_
  refine sm_aload_n cx 3 dL_law__1226 rfl rfl ?_
  refine sb_gob ?_ a9 b9
  refine sb_help (toV := vI) (Ψ := StepM (xR X) (mo 15 (some am) (f_X12_link (xZ X) (some am) s1 s2 s3 (bz s4) s5)) (mo 15 (some am) (f_X12_thrown (some am))) (aL (some ao) 0) Int32.toInt64 J') cx htr [va_rf (some ax), .int s1, .int s2, .int s3, .int (bz s4), .int s5, va_rf (some ao)] cw_L_153 (ct_L_link (xZ X) (some ax) s1 s2 s3 (bz s4) s5 (some ao)) (Nat.le_trans (by decide) hfr) (Nat.le_trans (by decide) hlo) rfl (cat_le _ (Nat.le_of_ble_eq_true rfl)) dL_law__1227 (fun _ _ _ hp => hp) (fun v => ?_)
  refine sb_ofb (fun a9 b9 => ?_)
  refine sm_istore cx [(5, .int v), (0, va_rf (some b)), (1, va_rf (some ax)), (2, va_rf (some am)), (3, va_rf (some ao)), (4, .int x4)] dL_law__1230 (by decide) rfl (nc1 rfl) rfl ?_
  refine sm_aload_n cx 3 dL_law__1232 rfl rfl ?_
  refine sm_aload_n cx 1 dL_law__1233 rfl rfl ?_
  refine sm_iload cx 5 dL_law__1234 rfl ?_
  refine sm_iconst (v := 1) cx dL_law__1236 (by decide) ?_
  refine sm_iadd cx dL_law__1237 ?_
  refine sm_sldE cx hX hbl hbA i1 e1 dL_law__1238 ?_
  refine sm_aload_n cx 1 dL_law__1239 rfl rfl ?_
  refine sm_iload cx 5 dL_law__1240 rfl ?_
  refine sm_iconst (v := 2) cx dL_law__1242 (by decide) ?_
  refine sm_iadd cx dL_law__1243 ?_
  refine sm_sldE cx hX hbl hbA i2 e2 dL_law__1244 ?_
  refine sm_aload_n cx 1 dL_law__1245 rfl rfl ?_
  refine sm_iload cx 5 dL_law__1246 rfl ?_
  refine sm_iconst (v := 3) cx dL_law__1248 (by decide) ?_
  refine sm_iadd cx dL_law__1249 ?_
  refine sm_sldE cx hX hbl hbA i3 e3 dL_law__1250 ?_
  refine sm_aload_n cx 1 dL_law__1251 rfl rfl ?_
  refine sm_iload cx 5 dL_law__1252 rfl ?_
  refine sm_iconst (v := 4) cx dL_law__1254 (by decide) ?_
  refine sm_iadd cx dL_law__1255 ?_
  refine sm_sldE cx hX hbl hbA i4 e4 dL_law__1256 ?_
  refine sb_gob ?_ a9 b9
  refine sb_bool cx dL_law__1257 dL_law__1260 dL_law__1261 dL_law__1264 ?_
  refine sb_ofb (fun a9 b9 => ?_)
  refine sm_aload_n cx 1 dL_law__1265 rfl rfl ?_
  refine sm_iload cx 5 dL_law__1266 rfl ?_
  refine sm_iconst (v := 5) cx dL_law__1268 (by decide) ?_
  refine sm_iadd cx dL_law__1269 ?_
  refine sm_sldE cx hX hbl hbA i5 e5 dL_law__1270 ?_
  refine sb_gob ?_ a9 b9
  refine sb_run (pc' := 1274) (lv' := fun _ => [(5, .int v), (0, va_rf (some b)), (1, va_rf (some ax)), (2, va_rf (some am)), (3, va_rf (some ao)), (4, .int x4)]) (st' := fun w => .int w :: []) (Ψ := fun w => StepT (xR X) (mo 15 (some am) (f_X12_thrown (some am))) (aL (some ao) 0) Int32.toInt64 J' v w) (fun K hK => sm_callV (T := TX12) (N := 47) (toV := vI) cx [.int s1, .int s2, .int s3, .int (bz s4), .int s5] rfl cv_L_156_ (fun a h => ct_X12_link (xZ X) a h s1 s2 s3 (bz s4) s5) (Nat.le_trans (by decide) hfr) (Nat.le_trans (by decide) hlo) rfl (cat_le _ (Nat.le_of_ble_eq_true rfl)) dL_law__1271 hK) (fun _ _ _ hp => hp) (fun bb => ?_)
  refine sb_ofb (fun a9 b9 => ?_)
  refine sm_istore cx [(6, .int bb), (5, .int v), (0, va_rf (some b)), (1, va_rf (some ax)), (2, va_rf (some am)), (3, va_rf (some ao)), (4, .int x4)] dL_law__1274 (by decide) rfl (nc1 rfl) rfl ?_
  refine sm_aload_n cx 4 dL_law__1276 rfl rfl ?_
  refine sb_gob ?_ a9 b9
  refine sb_run (pc' := 1280) (lv' := fun _ => [(6, .int bb), (5, .int v), (0, va_rf (some b)), (1, va_rf (some ax)), (2, va_rf (some am)), (3, va_rf (some ao)), (4, .int x4)]) (st' := fun w => .int w :: []) (Ψ := fun w h c n => v = w ∧ StepO (aL (some ao) 0) Int32.toInt64 J' v bb h c n) (fun K hK => sm_callV (T := TX12) (N := 47) (toV := vI) cx [] rfl cv_L_104_ (fun a h => ct_X12_thrown (xZ X) a h) (Nat.le_trans (by decide) hfr) (Nat.le_trans (by decide) hlo) rfl (cat_le _ (Nat.le_of_ble_eq_true rfl)) dL_law__1277 hK) (fun _ _ _ hp => by obtain ⟨h1, c1, n1, q1, q2, q3, q4⟩ := hp; exact ⟨v, h1, c1, n1, q1, ⟨rfl, q2⟩, q3, q4⟩) (fun t => sb_and (fun ht => ?_))
  subst ht
  refine sb_ofb (fun a9 b9 => ?_)
  refine sm_iload cx 1 dL_law__1280 rfl ?_
  refine sb_gob ?_ a9 b9
  refine sb_icmp_eq (tgt := 1287) cx dL_law__1282 (by decide) (fun _ => ?_) (fun hne => absurd rfl hne)
  refine sb_ofb (fun a9 b9 => ?_)
  refine sm_iload cx 1 dL_law__1287 rfl ?_
  refine sb_gob ?_ a9 b9
  refine sb_if_ne (tgt := 1304) cx dL_law__1289 (by decide) (fun hne => ?_) (fun h0 => ?_)
  · refine sb_imp (fun _ _ _ hp => hp.2) ?_
    refine sb_ofb (fun a9 b9 => ?_)
    refine sm_goto (tgt := 1996) cx dL_law__1304 (by decide) ?_
    refine sb_gob ?_ a9 b9
    exact sb_lv [2, 3, 4, 5, 6] rfl hex
  refine sb_room (sb_imp (Ψ := StepR (xR X) (aL (some ao) 0) (Int32.toInt64 bb) J') (fun _ _ _ hp => ⟨hp.1.1 h0, hp.1.2, hp.2⟩) ?_)
  refine sb_ofb (fun a9 b9 => ?_)
  refine sm_aload_n cx 5 dL_law__1292 rfl rfl ?_
  refine sm_iconst (v := 0) cx dL_law__1293 (by decide) ?_
  refine sb_gob ?_ a9 b9
  refine sb_run (pc' := 1295) (lv' := fun _ => [(6, .int bb), (5, .int v), (0, va_rf (some b)), (1, va_rf (some ax)), (2, va_rf (some am)), (3, va_rf (some ao)), (4, .int x4)]) (st' := fun w => .long w :: []) (Ψ := fun w h c n => w = (Int32.toInt64 bb) ∧ J' h c n) (fun K hK => sm_lald cx dL_law__1294 hK) (fun h c0 n0 hp => ⟨(Int32.toInt64 bb), h, 0, 0, hp.1, ⟨rfl, hp.2.1⟩, hp.2.2.1, hp.2.2.2⟩) (fun w => sb_and (fun hw => ?_))
  subst hw
  refine sb_ofb (fun a9 b9 => ?_)
  refine sm_iload cx 0 dL_law__1295 rfl ?_
  refine sm_i2l cx dL_law__1297 ?_
  refine sm_lcmp cx dL_law__1298 ?_
  refine sb_gob ?_ a9 b9
  refine sb_if_eq (tgt := 1304) cx dL_law__1299 (by decide) (fun _ => ?_) (fun hne => absurd (lg_self _) hne)
  refine sb_ofb (fun a9 b9 => ?_)
  refine sm_goto (tgt := 1996) cx dL_law__1304 (by decide) ?_
  refine sb_gob ?_ a9 b9
  exact sb_lv [2, 3, 4, 5, 6] rfl hex
theorem dL_law__1307 : decode cL_law_ 1307 = .ok (.aload_n 1, 1) := by decide +kernel
theorem dL_law__1308 : decode cL_law_ 1308 = .ok (.invokevirtual 157, 3) := by decide +kernel
theorem dL_law__1311 : decode cL_law_ 1311 = .ok (.aload_n 2, 1) := by decide +kernel
theorem dL_law__1312 : decode cL_law_ 1312 = .ok (.invokevirtual 160, 3) := by decide +kernel
theorem dL_law__1315 : decode cL_law_ 1315 = .ok (.if_icmp .eq 681, 3) := by decide +kernel
theorem dL_law__1318 : decode cL_law_ 1318 = .ok (.iconst 0, 1) := by decide +kernel
theorem dL_law__1319 : decode cL_law_ 1319 = .ok (.ireturn, 1) := by decide +kernel
set_option maxRecDepth 100000 in
set_option maxHeartbeats 4000000 in
theorem lc_15 {X : Cg} (cx : Cx X cL_law_ RL 7) (htr : (xL X).stackTraces = false) (hfr : 74 ≤ (xR X).frames) (hlo : 1500 ≤ (xR X).locals) {Q : State → Prop} {b L : Nat} {xs : Nat → Int32} (hX : va_X b L xs (xS X) (xS X).heap) (hbl : b < (xS X).heap.size) (hbA : ¬ xA X b) (ax am ao : Nat) (x4 : Int32) {J' : Hs → Nat → Nat → Prop} (hex : SimB X 7 Q 1996 [(0, va_rf (some b)), (1, va_rf (some ax)), (2, va_rf (some am)), (3, va_rf (some ao)), (4, .int x4)] [] J') : SimB X 7 Q 1307 [(0, va_rf (some b)), (1, va_rf (some ax)), (2, va_rf (some am)), (3, va_rf (some ao)), (4, .int x4)] [] (StepD (xR X) (mo 14 (some ax) (f_X11_fault (some ax))) (mo 15 (some am) (f_X12_fault (some am))) J') := by
  refine sb_ofb (fun a9 b9 => ?_)
  refine sm_aload_n cx 1 dL_law__1307 rfl rfl ?_
  refine sb_gob ?_ a9 b9
  refine sb_run (pc' := 1311) (lv' := fun _ => [(0, va_rf (some b)), (1, va_rf (some ax)), (2, va_rf (some am)), (3, va_rf (some ao)), (4, .int x4)]) (st' := fun w => .int w :: []) (Ψ := fun w => StepE (xR X) (mo 15 (some am) (f_X12_fault (some am))) J' w) (fun K hK => sm_callV (T := TX11) (N := 14) (toV := vI) cx [] rfl cv_L_157_ (fun a h => ct_X11_fault (xZ X) a h) (Nat.le_trans (by decide) hfr) (Nat.le_trans (by decide) hlo) rfl (cat_le _ (Nat.le_of_ble_eq_true rfl)) dL_law__1308 hK) (fun _ _ _ hp => hp) (fun v => ?_)
  refine sb_ofb (fun a9 b9 => ?_)
  refine sm_aload_n cx 2 dL_law__1311 rfl rfl ?_
  refine sb_gob ?_ a9 b9
  refine sb_run (pc' := 1315) (lv' := fun _ => [(0, va_rf (some b)), (1, va_rf (some ax)), (2, va_rf (some am)), (3, va_rf (some ao)), (4, .int x4)]) (st' := fun w => .int w :: [.int v]) (Ψ := fun w h c n => v = w ∧ J' h c n) (fun K hK => sm_callV (T := TX12) (N := 47) (toV := vI) cx [] rfl cv_L_160_ (fun a h => ct_X12_fault (xZ X) a h) (Nat.le_trans (by decide) hfr) (Nat.le_trans (by decide) hlo) rfl (cat_le _ (Nat.le_of_ble_eq_true rfl)) dL_law__1312 hK) (fun _ _ _ hp => by obtain ⟨h1, c1, n1, q1, q2, q3, q4⟩ := hp; exact ⟨v, h1, c1, n1, q1, ⟨rfl, q2⟩, q3, q4⟩) (fun t => sb_and (fun ht => ?_))
  subst ht
  refine sb_icmp_eq (tgt := 1996) cx dL_law__1315 (by decide) (fun _ => ?_) (fun hne => absurd rfl hne)
  exact sb_lv [0, 1, 2, 3, 4] rfl hex
theorem dL_law__1320 : decode cL_law_ 1320 = .ok (.aload_n 1, 1) := by decide +kernel
theorem dL_law__1321 : decode cL_law_ 1321 = .ok (.aload_n 0, 1) := by decide +kernel
theorem dL_law__1322 : decode cL_law_ 1322 = .ok (.iload 4, 2) := by decide +kernel
theorem dL_law__1324 : decode cL_law_ 1324 = .ok (.iconst 1, 1) := by decide +kernel
theorem dL_law__1325 : decode cL_law_ 1325 = .ok (.iadd, 1) := by decide +kernel
theorem dL_law__1326 : decode cL_law_ 1326 = .ok (.iaload, 1) := by decide +kernel
theorem dL_law__1327 : decode cL_law_ 1327 = .ok (.aload_n 3, 1) := by decide +kernel
theorem dL_law__1328 : decode cL_law_ 1328 = .ok (.invokestatic 161, 3) := by decide +kernel
theorem dL_law__1331 : decode cL_law_ 1331 = .ok (.istore 5, 2) := by decide +kernel
theorem dL_law__1333 : decode cL_law_ 1333 = .ok (.aload_n 2, 1) := by decide +kernel
theorem dL_law__1334 : decode cL_law_ 1334 = .ok (.aload_n 0, 1) := by decide +kernel
theorem dL_law__1335 : decode cL_law_ 1335 = .ok (.iload 4, 2) := by decide +kernel
theorem dL_law__1337 : decode cL_law_ 1337 = .ok (.iconst 1, 1) := by decide +kernel
theorem dL_law__1338 : decode cL_law_ 1338 = .ok (.iadd, 1) := by decide +kernel
theorem dL_law__1339 : decode cL_law_ 1339 = .ok (.iaload, 1) := by decide +kernel
theorem dL_law__1340 : decode cL_law_ 1340 = .ok (.invokevirtual 163, 3) := by decide +kernel
theorem dL_law__1343 : decode cL_law_ 1343 = .ok (.istore 6, 2) := by decide +kernel
theorem dL_law__1345 : decode cL_law_ 1345 = .ok (.aload_n 2, 1) := by decide +kernel
theorem dL_law__1346 : decode cL_law_ 1346 = .ok (.invokevirtual 104, 3) := by decide +kernel
theorem dL_law__1349 : decode cL_law_ 1349 = .ok (.iload 5, 2) := by decide +kernel
theorem dL_law__1351 : decode cL_law_ 1351 = .ok (.if_icmp .eq 5, 3) := by decide +kernel
theorem dL_law__1354 : decode cL_law_ 1354 = .ok (.iconst 0, 1) := by decide +kernel
theorem dL_law__1355 : decode cL_law_ 1355 = .ok (.ireturn, 1) := by decide +kernel
theorem dL_law__1356 : decode cL_law_ 1356 = .ok (.iload 5, 2) := by decide +kernel
theorem dL_law__1358 : decode cL_law_ 1358 = .ok (.ifCond .ne 22, 3) := by decide +kernel
theorem dL_law__1361 : decode cL_law_ 1361 = .ok (.aload_n 3, 1) := by decide +kernel
theorem dL_law__1362 : decode cL_law_ 1362 = .ok (.iconst 0, 1) := by decide +kernel
theorem dL_law__1363 : decode cL_law_ 1363 = .ok (.laload, 1) := by decide +kernel
theorem dL_law__1364 : decode cL_law_ 1364 = .ok (.iload 6, 2) := by decide +kernel
theorem dL_law__1366 : decode cL_law_ 1366 = .ok (.ifCond .eq 7, 3) := by decide +kernel
theorem dL_law__1369 : decode cL_law_ 1369 = .ok (.lconst 1, 1) := by decide +kernel
theorem dL_law__1370 : decode cL_law_ 1370 = .ok (.goto 4, 3) := by decide +kernel
theorem dL_law__1373 : decode cL_law_ 1373 = .ok (.lconst 0, 1) := by decide +kernel
theorem dL_law__1374 : decode cL_law_ 1374 = .ok (.lcmp, 1) := by decide +kernel
theorem dL_law__1375 : decode cL_law_ 1375 = .ok (.ifCond .eq 5, 3) := by decide +kernel
theorem dL_law__1378 : decode cL_law_ 1378 = .ok (.iconst 0, 1) := by decide +kernel
theorem dL_law__1379 : decode cL_law_ 1379 = .ok (.ireturn, 1) := by decide +kernel
theorem dL_law__1380 : decode cL_law_ 1380 = .ok (.goto 616, 3) := by decide +kernel
set_option maxRecDepth 100000 in
set_option maxHeartbeats 4000000 in
theorem lc_16 {X : Cg} (cx : Cx X cL_law_ RL 7) (htr : (xL X).stackTraces = false) (hfr : 74 ≤ (xR X).frames) (hlo : 1500 ≤ (xR X).locals) {Q : State → Prop} {b L : Nat} {xs : Nat → Int32} (hX : va_X b L xs (xS X) (xS X).heap) (hbl : b < (xS X).heap.size) (hbA : ¬ xA X b) (ax am ao : Nat) (x4 : Int32) (s1 : Int32) (e1 : xs (x4 + 1).toNatClampNeg = s1) (i1 : vp_in (x4 + 1) L) {J' : Hs → Nat → Nat → Prop} (hex : SimB X 7 Q 1996 [(0, va_rf (some b)), (1, va_rf (some ax)), (2, va_rf (some am)), (3, va_rf (some ao)), (4, .int x4)] [] J') : SimB X 7 Q 1320 [(0, va_rf (some b)), (1, va_rf (some ax)), (2, va_rf (some am)), (3, va_rf (some ao)), (4, .int x4)] [] (StepA (xR X) (f_L_end (some ax) s1 (some ao)) (mo 15 (some am) (f_X12_end (some am) s1)) (mo 15 (some am) (f_X12_thrown (some am))) (aL (some ao) 0) bzL J') := by
  refine sb_ofb (fun a9 b9 => ?_)
  refine sm_aload_n cx 1 dL_law__1320 rfl rfl ?_
  refine sm_aload_n cx 0 dL_law__1321 rfl rfl ?_
  refine sm_iload cx 4 dL_law__1322 rfl ?_
  refine sm_iconst (v := 1) cx dL_law__1324 (by decide) ?_
  refine sm_iadd cx dL_law__1325 ?_
  refine sm_sldE cx hX hbl hbA i1 e1 dL_law__1326 ?_
  refine sm_aload_n cx 3 dL_law__1327 rfl rfl ?_
  refine sb_gob ?_ a9 b9
  refine sb_help (toV := vI) (Ψ := StepM (xR X) (mo 15 (some am) (f_X12_end (some am) s1)) (mo 15 (some am) (f_X12_thrown (some am))) (aL (some ao) 0) bzL J') cx htr [va_rf (some ax), .int s1, va_rf (some ao)] cw_L_161 (ct_L_end (xZ X) (some ax) s1 (some ao)) (Nat.le_trans (by decide) hfr) (Nat.le_trans (by decide) hlo) rfl (cat_le _ (Nat.le_of_ble_eq_true rfl)) dL_law__1328 (fun _ _ _ hp => hp) (fun v => ?_)
  refine sb_ofb (fun a9 b9 => ?_)
  refine sm_istore cx [(5, .int v), (0, va_rf (some b)), (1, va_rf (some ax)), (2, va_rf (some am)), (3, va_rf (some ao)), (4, .int x4)] dL_law__1331 (by decide) rfl (nc1 rfl) rfl ?_
  refine sm_aload_n cx 3 dL_law__1333 rfl rfl ?_
  refine sm_aload_n cx 1 dL_law__1334 rfl rfl ?_
  refine sm_iload cx 5 dL_law__1335 rfl ?_
  refine sm_iconst (v := 1) cx dL_law__1337 (by decide) ?_
  refine sm_iadd cx dL_law__1338 ?_
  refine sm_sldE cx hX hbl hbA i1 e1 dL_law__1339 ?_
  refine sb_gob ?_ a9 b9
  refine sb_run (pc' := 1343) (lv' := fun _ => [(5, .int v), (0, va_rf (some b)), (1, va_rf (some ax)), (2, va_rf (some am)), (3, va_rf (some ao)), (4, .int x4)]) (st' := fun w => .int w :: []) (Ψ := fun w => StepT (xR X) (mo 15 (some am) (f_X12_thrown (some am))) (aL (some ao) 0) bzL J' v w) (fun K hK => sm_callV (T := TX12) (N := 47) (toV := vI) cx [.int s1] rfl cv_L_163_ (fun a h => ct_X12_end (xZ X) a h s1) (Nat.le_trans (by decide) hfr) (Nat.le_trans (by decide) hlo) rfl (cat_le _ (Nat.le_of_ble_eq_true rfl)) dL_law__1340 hK) (fun _ _ _ hp => hp) (fun bb => ?_)
  refine sb_ofb (fun a9 b9 => ?_)
  refine sm_istore cx [(6, .int bb), (5, .int v), (0, va_rf (some b)), (1, va_rf (some ax)), (2, va_rf (some am)), (3, va_rf (some ao)), (4, .int x4)] dL_law__1343 (by decide) rfl (nc1 rfl) rfl ?_
  refine sm_aload_n cx 4 dL_law__1345 rfl rfl ?_
  refine sb_gob ?_ a9 b9
  refine sb_run (pc' := 1349) (lv' := fun _ => [(6, .int bb), (5, .int v), (0, va_rf (some b)), (1, va_rf (some ax)), (2, va_rf (some am)), (3, va_rf (some ao)), (4, .int x4)]) (st' := fun w => .int w :: []) (Ψ := fun w h c n => v = w ∧ StepO (aL (some ao) 0) bzL J' v bb h c n) (fun K hK => sm_callV (T := TX12) (N := 47) (toV := vI) cx [] rfl cv_L_104_ (fun a h => ct_X12_thrown (xZ X) a h) (Nat.le_trans (by decide) hfr) (Nat.le_trans (by decide) hlo) rfl (cat_le _ (Nat.le_of_ble_eq_true rfl)) dL_law__1346 hK) (fun _ _ _ hp => by obtain ⟨h1, c1, n1, q1, q2, q3, q4⟩ := hp; exact ⟨v, h1, c1, n1, q1, ⟨rfl, q2⟩, q3, q4⟩) (fun t => sb_and (fun ht => ?_))
  subst ht
  refine sb_ofb (fun a9 b9 => ?_)
  refine sm_iload cx 1 dL_law__1349 rfl ?_
  refine sb_gob ?_ a9 b9
  refine sb_icmp_eq (tgt := 1356) cx dL_law__1351 (by decide) (fun _ => ?_) (fun hne => absurd rfl hne)
  refine sb_ofb (fun a9 b9 => ?_)
  refine sm_iload cx 1 dL_law__1356 rfl ?_
  refine sb_gob ?_ a9 b9
  refine sb_if_ne (tgt := 1380) cx dL_law__1358 (by decide) (fun hne => ?_) (fun h0 => ?_)
  · refine sb_imp (fun _ _ _ hp => hp.2) ?_
    refine sb_ofb (fun a9 b9 => ?_)
    refine sm_goto (tgt := 1996) cx dL_law__1380 (by decide) ?_
    refine sb_gob ?_ a9 b9
    exact sb_lv [2, 3, 4, 5, 6] rfl hex
  refine sb_room (sb_imp (Ψ := StepR (xR X) (aL (some ao) 0) (bzL bb) J') (fun _ _ _ hp => ⟨hp.1.1 h0, hp.1.2, hp.2⟩) ?_)
  refine sb_ofb (fun a9 b9 => ?_)
  refine sm_aload_n cx 5 dL_law__1361 rfl rfl ?_
  refine sm_iconst (v := 0) cx dL_law__1362 (by decide) ?_
  refine sb_gob ?_ a9 b9
  refine sb_run (pc' := 1364) (lv' := fun _ => [(6, .int bb), (5, .int v), (0, va_rf (some b)), (1, va_rf (some ax)), (2, va_rf (some am)), (3, va_rf (some ao)), (4, .int x4)]) (st' := fun w => .long w :: []) (Ψ := fun w h c n => w = (bzL bb) ∧ J' h c n) (fun K hK => sm_lald cx dL_law__1363 hK) (fun h c0 n0 hp => ⟨(bzL bb), h, 0, 0, hp.1, ⟨rfl, hp.2.1⟩, hp.2.2.1, hp.2.2.2⟩) (fun w => sb_and (fun hw => ?_))
  subst hw
  refine sb_ofb (fun a9 b9 => ?_)
  refine sm_iload cx 0 dL_law__1364 rfl ?_
  refine sb_gob ?_ a9 b9
  refine sb_boolL cx dL_law__1366 dL_law__1369 dL_law__1370 dL_law__1373 ?_
  refine sb_ofb (fun a9 b9 => ?_)
  refine sm_lcmp cx dL_law__1374 ?_
  refine sb_gob ?_ a9 b9
  refine sb_if_eq (tgt := 1380) cx dL_law__1375 (by decide) (fun _ => ?_) (fun hne => absurd (lg_self _) hne)
  refine sb_ofb (fun a9 b9 => ?_)
  refine sm_goto (tgt := 1996) cx dL_law__1380 (by decide) ?_
  refine sb_gob ?_ a9 b9
  exact sb_lv [2, 3, 4, 5, 6] rfl hex
theorem dL_law__1383 : decode cL_law_ 1383 = .ok (.aload_n 1, 1) := by decide +kernel
theorem dL_law__1384 : decode cL_law_ 1384 = .ok (.aload_n 0, 1) := by decide +kernel
theorem dL_law__1385 : decode cL_law_ 1385 = .ok (.iload 4, 2) := by decide +kernel
theorem dL_law__1387 : decode cL_law_ 1387 = .ok (.iconst 1, 1) := by decide +kernel
theorem dL_law__1388 : decode cL_law_ 1388 = .ok (.iadd, 1) := by decide +kernel
theorem dL_law__1389 : decode cL_law_ 1389 = .ok (.iaload, 1) := by decide +kernel
theorem dL_law__1390 : decode cL_law_ 1390 = .ok (.aload_n 0, 1) := by decide +kernel
theorem dL_law__1391 : decode cL_law_ 1391 = .ok (.iload 4, 2) := by decide +kernel
theorem dL_law__1393 : decode cL_law_ 1393 = .ok (.iconst 2, 1) := by decide +kernel
theorem dL_law__1394 : decode cL_law_ 1394 = .ok (.iadd, 1) := by decide +kernel
theorem dL_law__1395 : decode cL_law_ 1395 = .ok (.iaload, 1) := by decide +kernel
theorem dL_law__1396 : decode cL_law_ 1396 = .ok (.aload_n 3, 1) := by decide +kernel
theorem dL_law__1397 : decode cL_law_ 1397 = .ok (.invokestatic 164, 3) := by decide +kernel
theorem dL_law__1400 : decode cL_law_ 1400 = .ok (.istore 5, 2) := by decide +kernel
theorem dL_law__1402 : decode cL_law_ 1402 = .ok (.aload_n 2, 1) := by decide +kernel
theorem dL_law__1403 : decode cL_law_ 1403 = .ok (.aload_n 0, 1) := by decide +kernel
theorem dL_law__1404 : decode cL_law_ 1404 = .ok (.iload 4, 2) := by decide +kernel
theorem dL_law__1406 : decode cL_law_ 1406 = .ok (.iconst 1, 1) := by decide +kernel
theorem dL_law__1407 : decode cL_law_ 1407 = .ok (.iadd, 1) := by decide +kernel
theorem dL_law__1408 : decode cL_law_ 1408 = .ok (.iaload, 1) := by decide +kernel
theorem dL_law__1409 : decode cL_law_ 1409 = .ok (.aload_n 0, 1) := by decide +kernel
theorem dL_law__1410 : decode cL_law_ 1410 = .ok (.iload 4, 2) := by decide +kernel
theorem dL_law__1412 : decode cL_law_ 1412 = .ok (.iconst 2, 1) := by decide +kernel
theorem dL_law__1413 : decode cL_law_ 1413 = .ok (.iadd, 1) := by decide +kernel
theorem dL_law__1414 : decode cL_law_ 1414 = .ok (.iaload, 1) := by decide +kernel
theorem dL_law__1415 : decode cL_law_ 1415 = .ok (.invokevirtual 166, 3) := by decide +kernel
theorem dL_law__1418 : decode cL_law_ 1418 = .ok (.istore 6, 2) := by decide +kernel
theorem dL_law__1420 : decode cL_law_ 1420 = .ok (.aload_n 2, 1) := by decide +kernel
theorem dL_law__1421 : decode cL_law_ 1421 = .ok (.invokevirtual 104, 3) := by decide +kernel
theorem dL_law__1424 : decode cL_law_ 1424 = .ok (.iload 5, 2) := by decide +kernel
theorem dL_law__1426 : decode cL_law_ 1426 = .ok (.if_icmp .eq 5, 3) := by decide +kernel
theorem dL_law__1429 : decode cL_law_ 1429 = .ok (.iconst 0, 1) := by decide +kernel
theorem dL_law__1430 : decode cL_law_ 1430 = .ok (.ireturn, 1) := by decide +kernel
theorem dL_law__1431 : decode cL_law_ 1431 = .ok (.iload 5, 2) := by decide +kernel
theorem dL_law__1433 : decode cL_law_ 1433 = .ok (.ifCond .ne 15, 3) := by decide +kernel
theorem dL_law__1436 : decode cL_law_ 1436 = .ok (.aload_n 3, 1) := by decide +kernel
theorem dL_law__1437 : decode cL_law_ 1437 = .ok (.iconst 0, 1) := by decide +kernel
theorem dL_law__1438 : decode cL_law_ 1438 = .ok (.laload, 1) := by decide +kernel
theorem dL_law__1439 : decode cL_law_ 1439 = .ok (.iload 6, 2) := by decide +kernel
theorem dL_law__1441 : decode cL_law_ 1441 = .ok (.i2l, 1) := by decide +kernel
theorem dL_law__1442 : decode cL_law_ 1442 = .ok (.lcmp, 1) := by decide +kernel
theorem dL_law__1443 : decode cL_law_ 1443 = .ok (.ifCond .eq 5, 3) := by decide +kernel
theorem dL_law__1446 : decode cL_law_ 1446 = .ok (.iconst 0, 1) := by decide +kernel
theorem dL_law__1447 : decode cL_law_ 1447 = .ok (.ireturn, 1) := by decide +kernel
theorem dL_law__1448 : decode cL_law_ 1448 = .ok (.goto 548, 3) := by decide +kernel
set_option maxRecDepth 100000 in
set_option maxHeartbeats 4000000 in
theorem lc_17 {X : Cg} (cx : Cx X cL_law_ RL 7) (htr : (xL X).stackTraces = false) (hfr : 74 ≤ (xR X).frames) (hlo : 1500 ≤ (xR X).locals) {Q : State → Prop} {b L : Nat} {xs : Nat → Int32} (hX : va_X b L xs (xS X) (xS X).heap) (hbl : b < (xS X).heap.size) (hbA : ¬ xA X b) (ax am ao : Nat) (x4 : Int32) (s1 : Int32) (e1 : xs (x4 + 1).toNatClampNeg = s1) (i1 : vp_in (x4 + 1) L) (s2 : Int32) (e2 : xs (x4 + 2).toNatClampNeg = s2) (i2 : vp_in (x4 + 2) L) {J' : Hs → Nat → Nat → Prop} (hex : SimB X 7 Q 1996 [(0, va_rf (some b)), (1, va_rf (some ax)), (2, va_rf (some am)), (3, va_rf (some ao)), (4, .int x4)] [] J') : SimB X 7 Q 1383 [(0, va_rf (some b)), (1, va_rf (some ax)), (2, va_rf (some am)), (3, va_rf (some ao)), (4, .int x4)] [] (StepA (xR X) (f_L_outcome (xZ X) (some ax) s1 s2 (some ao)) (mo 15 (some am) (f_X12_outcome (some am) s1 s2)) (mo 15 (some am) (f_X12_thrown (some am))) (aL (some ao) 0) Int32.toInt64 J') := by
  refine sb_ofb (fun a9 b9 => ?_)
  refine sm_aload_n cx 1 dL_law__1383 rfl rfl ?_
  refine sm_aload_n cx 0 dL_law__1384 rfl rfl ?_
  refine sm_iload cx 4 dL_law__1385 rfl ?_
  refine sm_iconst (v := 1) cx dL_law__1387 (by decide) ?_
  refine sm_iadd cx dL_law__1388 ?_
  refine sm_sldE cx hX hbl hbA i1 e1 dL_law__1389 ?_
  refine sm_aload_n cx 0 dL_law__1390 rfl rfl ?_
  refine sm_iload cx 4 dL_law__1391 rfl ?_
  refine sm_iconst (v := 2) cx dL_law__1393 (by decide) ?_
  refine sm_iadd cx dL_law__1394 ?_
  refine sm_sldE cx hX hbl hbA i2 e2 dL_law__1395 ?_
  refine sm_aload_n cx 3 dL_law__1396 rfl rfl ?_
  refine sb_gob ?_ a9 b9
  refine sb_help (toV := vI) (Ψ := StepM (xR X) (mo 15 (some am) (f_X12_outcome (some am) s1 s2)) (mo 15 (some am) (f_X12_thrown (some am))) (aL (some ao) 0) Int32.toInt64 J') cx htr [va_rf (some ax), .int s1, .int s2, va_rf (some ao)] cw_L_164 (ct_L_outcome (xZ X) (some ax) s1 s2 (some ao)) (Nat.le_trans (by decide) hfr) (Nat.le_trans (by decide) hlo) rfl (cat_le _ (Nat.le_of_ble_eq_true rfl)) dL_law__1397 (fun _ _ _ hp => hp) (fun v => ?_)
  refine sb_ofb (fun a9 b9 => ?_)
  refine sm_istore cx [(5, .int v), (0, va_rf (some b)), (1, va_rf (some ax)), (2, va_rf (some am)), (3, va_rf (some ao)), (4, .int x4)] dL_law__1400 (by decide) rfl (nc1 rfl) rfl ?_
  refine sm_aload_n cx 3 dL_law__1402 rfl rfl ?_
  refine sm_aload_n cx 1 dL_law__1403 rfl rfl ?_
  refine sm_iload cx 5 dL_law__1404 rfl ?_
  refine sm_iconst (v := 1) cx dL_law__1406 (by decide) ?_
  refine sm_iadd cx dL_law__1407 ?_
  refine sm_sldE cx hX hbl hbA i1 e1 dL_law__1408 ?_
  refine sm_aload_n cx 1 dL_law__1409 rfl rfl ?_
  refine sm_iload cx 5 dL_law__1410 rfl ?_
  refine sm_iconst (v := 2) cx dL_law__1412 (by decide) ?_
  refine sm_iadd cx dL_law__1413 ?_
  refine sm_sldE cx hX hbl hbA i2 e2 dL_law__1414 ?_
  refine sb_gob ?_ a9 b9
  refine sb_run (pc' := 1418) (lv' := fun _ => [(5, .int v), (0, va_rf (some b)), (1, va_rf (some ax)), (2, va_rf (some am)), (3, va_rf (some ao)), (4, .int x4)]) (st' := fun w => .int w :: []) (Ψ := fun w => StepT (xR X) (mo 15 (some am) (f_X12_thrown (some am))) (aL (some ao) 0) Int32.toInt64 J' v w) (fun K hK => sm_callV (T := TX12) (N := 47) (toV := vI) cx [.int s1, .int s2] rfl cv_L_166_ (fun a h => ct_X12_outcome (xZ X) a h s1 s2) (Nat.le_trans (by decide) hfr) (Nat.le_trans (by decide) hlo) rfl (cat_le _ (Nat.le_of_ble_eq_true rfl)) dL_law__1415 hK) (fun _ _ _ hp => hp) (fun bb => ?_)
  refine sb_ofb (fun a9 b9 => ?_)
  refine sm_istore cx [(6, .int bb), (5, .int v), (0, va_rf (some b)), (1, va_rf (some ax)), (2, va_rf (some am)), (3, va_rf (some ao)), (4, .int x4)] dL_law__1418 (by decide) rfl (nc1 rfl) rfl ?_
  refine sm_aload_n cx 4 dL_law__1420 rfl rfl ?_
  refine sb_gob ?_ a9 b9
  refine sb_run (pc' := 1424) (lv' := fun _ => [(6, .int bb), (5, .int v), (0, va_rf (some b)), (1, va_rf (some ax)), (2, va_rf (some am)), (3, va_rf (some ao)), (4, .int x4)]) (st' := fun w => .int w :: []) (Ψ := fun w h c n => v = w ∧ StepO (aL (some ao) 0) Int32.toInt64 J' v bb h c n) (fun K hK => sm_callV (T := TX12) (N := 47) (toV := vI) cx [] rfl cv_L_104_ (fun a h => ct_X12_thrown (xZ X) a h) (Nat.le_trans (by decide) hfr) (Nat.le_trans (by decide) hlo) rfl (cat_le _ (Nat.le_of_ble_eq_true rfl)) dL_law__1421 hK) (fun _ _ _ hp => by obtain ⟨h1, c1, n1, q1, q2, q3, q4⟩ := hp; exact ⟨v, h1, c1, n1, q1, ⟨rfl, q2⟩, q3, q4⟩) (fun t => sb_and (fun ht => ?_))
  subst ht
  refine sb_ofb (fun a9 b9 => ?_)
  refine sm_iload cx 1 dL_law__1424 rfl ?_
  refine sb_gob ?_ a9 b9
  refine sb_icmp_eq (tgt := 1431) cx dL_law__1426 (by decide) (fun _ => ?_) (fun hne => absurd rfl hne)
  refine sb_ofb (fun a9 b9 => ?_)
  refine sm_iload cx 1 dL_law__1431 rfl ?_
  refine sb_gob ?_ a9 b9
  refine sb_if_ne (tgt := 1448) cx dL_law__1433 (by decide) (fun hne => ?_) (fun h0 => ?_)
  · refine sb_imp (fun _ _ _ hp => hp.2) ?_
    refine sb_ofb (fun a9 b9 => ?_)
    refine sm_goto (tgt := 1996) cx dL_law__1448 (by decide) ?_
    refine sb_gob ?_ a9 b9
    exact sb_lv [2, 3, 4, 5, 6] rfl hex
  refine sb_room (sb_imp (Ψ := StepR (xR X) (aL (some ao) 0) (Int32.toInt64 bb) J') (fun _ _ _ hp => ⟨hp.1.1 h0, hp.1.2, hp.2⟩) ?_)
  refine sb_ofb (fun a9 b9 => ?_)
  refine sm_aload_n cx 5 dL_law__1436 rfl rfl ?_
  refine sm_iconst (v := 0) cx dL_law__1437 (by decide) ?_
  refine sb_gob ?_ a9 b9
  refine sb_run (pc' := 1439) (lv' := fun _ => [(6, .int bb), (5, .int v), (0, va_rf (some b)), (1, va_rf (some ax)), (2, va_rf (some am)), (3, va_rf (some ao)), (4, .int x4)]) (st' := fun w => .long w :: []) (Ψ := fun w h c n => w = (Int32.toInt64 bb) ∧ J' h c n) (fun K hK => sm_lald cx dL_law__1438 hK) (fun h c0 n0 hp => ⟨(Int32.toInt64 bb), h, 0, 0, hp.1, ⟨rfl, hp.2.1⟩, hp.2.2.1, hp.2.2.2⟩) (fun w => sb_and (fun hw => ?_))
  subst hw
  refine sb_ofb (fun a9 b9 => ?_)
  refine sm_iload cx 0 dL_law__1439 rfl ?_
  refine sm_i2l cx dL_law__1441 ?_
  refine sm_lcmp cx dL_law__1442 ?_
  refine sb_gob ?_ a9 b9
  refine sb_if_eq (tgt := 1448) cx dL_law__1443 (by decide) (fun _ => ?_) (fun hne => absurd (lg_self _) hne)
  refine sb_ofb (fun a9 b9 => ?_)
  refine sm_goto (tgt := 1996) cx dL_law__1448 (by decide) ?_
  refine sb_gob ?_ a9 b9
  exact sb_lv [2, 3, 4, 5, 6] rfl hex
