/-! ===== the class: sets, groups, nodes ===== -/
section CA
variable {E : Es} {D : Nat → Nat → Int32} {I : Tg → Nat → Int32} {Z : Nat → Nat}
theorem c_told {Q : Int32 → Gh → Prop} {z a : Nat} (hS : SetC E I D z) (ha : eAd E (15, z, 0) = a) (kk : Q (D 10 z) (E, D, I)) : Wp (f_X0_toldSettings (some a)) (E, D, I) Q := by
  unfold f_X0_toldSettings
  refine wc_I ha rfl hS.1 rfl ?_
  rw [hS.2.2.2.2.1]
  exact wp_mp kk
theorem c_tells {Q : Int32 → Gh → Prop} {z a s : Nat} (hS : SetC E I D z) (ha : eAd E (15, z, 0) = a) (hs : s < 12) (kk : Q (b2i (bt (D 10 z) s)) (E, D, I)) : Wp (f_X0_tells (some a) (nI s)) (E, D, I) Q := by
  unfold f_X0_tells
  refine wc_I ha rfl hS.1 rfl ?_
  rw [hS.2.2.2.2.1, bt_shr _ (by omega)]
  cases hb : bt (D 10 z) s with
  | true => rw [hb] at kk; exact wp_neg (by decide) (wp_rz (.inr rfl) kk)
  | false => rw [hb] at kk; exact wp_pos rfl (wp_rz (.inl rfl) kk)
theorem c_valueOf {Q : Int32 → Gh → Prop} {z a s : Nat} (hS : SetC E I D z) (ha : eAd E (15, z, 0) = a) (hs : s < 12) (kk : Q (D 11 (12 * z + s)) (E, D, I)) : Wp (f_X0_valueOf (some a) (nI s)) (E, D, I) Q := by
  obtain ⟨s1, s2, s3, s4, s5, s6⟩ := hS
  unfold f_X0_valueOf
  refine wp_neg (nI_pos (by omega)) ?_
  refine wc_R ha s1 s2 rfl ?_
  refine wc_aN rfl s3 (by omega) ?_
  rw [s4]
  refine wp_neg (fun e => by have := (nI_leI (by omega) (by omega)).mp e; omega) ?_
  refine wc_R ha s1 s2 rfl ?_
  refine wc_a s rfl rfl s3 (.inr (.inl rfl)) rfl (by omega) (by rw [s4]; omega) ?_
  rw [s6 s hs]
  exact wp_mp kk
/-! groups -/
theorem mask20 : pcn 1048575 32 = 20 ∧ ∀ i, i < 32 → bt 1048575 i = decide (i < 20) := by decide
theorem pcn_full {x : Int32} (h : ∀ i, 20 ≤ i → bt x i = false) (h2 : 20 ≤ pcn x 32) : ∀ i, i < 20 → bt x i = true := by
  intro i hi
  cases hx : bt x i with
  | true => rfl
  | false =>
    have h3 := pcn_lt (x := x) (y := 1048575) (fun j hj hb => by
      rw [mask20.2 j hj]
      refine decide_eq_true (Nat.lt_of_not_le fun hle => ?_)
      rw [h j hle] at hb
      cases hb) hx (by rw [mask20.2 i (by omega)]; exact decide_eq_true hi) 32 (by omega) (by omega)
    rw [mask20.1] at h3
    omega
theorem c_around {Q : Int32 → Gh → Prop} {a : Nat} {inner : Int32} (hS : GrpS E) (hG : CGrp E I D) (ha : eAd E (4, 0, 0) = a) (kk : ∀ x, (∀ i, i < 32 → bt x i = decide (i < 20 ∧ ¬ (D 8 i &&& inner = 0))) → Q x (E, D, I)) : Wp (f_X3_groupsAround (some a) inner) (E, D, I) Q := by
  obtain ⟨s1, s2, s3, s4, s5, s6, s7⟩ := hS
  have key : ∀ (d i fu : Nat) (x : Int32), d + i = 20 → d < fu → (∀ j, j < 32 → bt x j = decide (j < i ∧ ¬ (D 8 j &&& inner = 0))) → Wp (f_X3_groupsAround_4 (some a) inner fu x (nI i)) (E, D, I) Q := by
    intro d
    induction d with
    | zero =>
      intro i fu x hi hf hx
      cases fu with
      | zero => exact absurd hf (Nat.not_lt_zero _)
      | succ fu =>
        rw [f_X3_groupsAround_4]
        refine wc_R ha s1 s3 rfl ?_
        refine wc_aN rfl s6 (by omega) ?_
        rw [s7]
        refine wp_pos ((nI_leI (by omega) (by omega)).mpr (by omega)) (wp_mp (kk x ?_))
        rw [show i = 20 by omega] at hx
        exact hx
    | succ d ih =>
      intro i fu x hi hf hx
      cases fu with
      | zero => exact absurd hf (Nat.not_lt_zero _)
      | succ fu =>
        rw [f_X3_groupsAround_4]
        refine wc_R ha s1 s3 rfl ?_
        refine wc_aN rfl s6 (by omega) ?_
        rw [s7]
        refine wp_neg (fun e => by have := (nI_leI (by omega) (by omega)).mp e; omega) ?_
        refine wc_R ha s1 s3 rfl ?_
        refine wc_a i rfl rfl s6 (.inr (.inl rfl)) rfl (by omega) (by rw [s7]; omega) ?_
        rw [hG.2.2 i (by omega)]
        refine wp_ite (fun c => ?_) (fun c => ?_)
        · unfold f_X3_groupsAround_30
          rw [nI_1]
          refine ih (i + 1) fu x (by omega) (by omega) (fun j hj => ?_)
          rw [hx j hj]
          by_cases e : j = i
          · subst e
            rw [decide_eq_false (fun q => by have := q.1; omega), decide_eq_false (fun q => q.2 c)]
          · have : (j < i ∧ ¬ (D 8 j &&& inner = 0)) ↔ (j < i + 1 ∧ ¬ (D 8 j &&& inner = 0)) := ⟨fun q => ⟨by omega, q.2⟩, fun q => ⟨by omega, q.2⟩⟩
            simp only [this]
        · unfold f_X3_groupsAround_30
          rw [nI_1]
          refine ih (i + 1) fu _ (by omega) (by omega) (fun j hj => ?_)
          rw [b_or, bt_sh (by omega) hj, hx j hj]
          by_cases e : j = i
          · subst e
            rw [decide_eq_true (p := j = j) rfl, decide_eq_true (p := j < j + 1 ∧ ¬ (D 8 j &&& inner = 0)) ⟨by omega, c⟩, Bool.or_true]
          · have : (j < i ∧ ¬ (D 8 j &&& inner = 0)) ↔ (j < i + 1 ∧ ¬ (D 8 j &&& inner = 0)) := ⟨fun q => ⟨by omega, q.2⟩, fun q => ⟨by omega, q.2⟩⟩
            simp only [this, decide_eq_false e, Bool.or_false]
  unfold f_X3_groupsAround
  exact key 20 0 fuL 0 (by omega) (fu_ok (by omega)) (fun j hj => by rw [b_0, decide_eq_false (fun q => by have := q.1; omega)])
theorem c_groupsOf {Q : Int32 → Gh → Prop} {a m nm ng : Nat} (hS : GrpS E) (hG : CGrp E I D) (hDG : DGrp D nm ng) (ha : eAd E (4, 0, 0) = a) (hm : m < 60) (kk : ∀ x, (∀ g, g < 32 → bt x g = (decide (g < 20) && memB (D 8) (D 6) g m)) → Q x (E, D, I)) : Wp (f_X3_groupsOf (some a) (nI m)) (E, D, I) Q := by
  obtain ⟨hng, -, g6, -, g8, -⟩ := hDG
  obtain ⟨s1, s2, s3, s4, s5, s6, s7⟩ := id hS
  -- the rounds
  have rounds : ∀ (d i fu : Nat) (x : Int32), d + i = 20 → d < fu → i ≤ pcn x 32 → (∀ g, 20 ≤ g → bt x g = false) → (∀ g, g < 20 → bt (D 6 m) g = true → bt x g = true) → (∀ g, bt x g = true → MemP (D 8) (D 6) g m) → Wp (f_X3_groupsOf_37 (some a) fu x (nI i)) (E, D, I) Q := by
    intro d
    induction d with
    | zero =>
      intro i fu x hi hf hp h20 hb hM
      cases fu with
      | zero => exact absurd hf (Nat.not_lt_zero _)
      | succ fu =>
        rw [f_X3_groupsOf_37]
        refine wc_R ha s1 s3 rfl ?_
        refine wc_aN rfl s6 (by omega) ?_
        rw [s7]
        refine wp_pos ((nI_leI (by omega) (by omega)).mpr (by omega)) (wp_mp (kk x (fun g hg => ?_)))
        by_cases hg20 : g < 20
        · have := pcn_full h20 (by omega) g hg20
          rw [this, decide_eq_true hg20, memB_t (hM g this)]
          rfl
        · rw [h20 g (by omega), decide_eq_false hg20]
          rfl
    | succ d ih =>
      intro i fu x hi hf hp h20 hb hM
      cases fu with
      | zero => exact absurd hf (Nat.not_lt_zero _)
      | succ fu =>
        rw [f_X3_groupsOf_37]
        refine wc_R ha s1 s3 rfl ?_
        refine wc_aN rfl s6 (by omega) ?_
        rw [s7]
        refine wp_neg (fun e => by have := (nI_leI (by omega) (by omega)).mp e; omega) ?_
        refine wc_call ha s1 (c_around hS hG ha (fun y hy => ?_))
        have hsub : ∀ j, j < 32 → bt x j = true → bt (x ||| y) j = true := fun j _ h => by rw [b_or, h]; rfl
        refine wp_ite (fun c => wp_mp (kk x (fun g hg => ?_))) (fun c => ?_)
        · by_cases hg20 : g < 20
          · rw [decide_eq_true hg20, Bool.true_and]
            by_cases hmm : MemP (D 8) (D 6) g m
            · rw [memB_t hmm]
              refine hmm (fun z => bt x z = true) (fun z hz => ?_) (fun z o hz20 ho hox => ?_)
              · by_cases hz20 : z < 20
                · exact hb z hz20 hz
                · rw [g6 m z (by omega)] at hz
                  cases hz
              · have hz32 : z < 32 := by omega
                have hnz : ¬ (D 8 z &&& x = 0) := fun h0 => by
                  by_cases ho32 : o < 32
                  · exact (bt_az.mp h0) o ho32 ⟨ho, hox⟩
                  · rw [b_big (by omega)] at ho
                    cases ho
                have : bt (x ||| y) z = true := by
                  rw [b_or, hy z hz32, decide_eq_true ⟨hz20, hnz⟩, Bool.or_true]
                rw [c] at this
                exact this
            · rw [memB_f hmm]
              cases hx : bt x g with
              | false => rfl
              | true => exact absurd (hM g hx) hmm
          · rw [h20 g (by omega), decide_eq_false hg20]
            rfl
        · rw [nI_1]
          have hgr := pcn_grow hsub c
          refine ih (i + 1) fu _ (by omega) (by omega) (by omega) (fun g hg => ?_) (fun g hg hd => hsub g (by omega) (hb g hg hd)) (fun g hg => ?_)
          · by_cases hg32 : g < 32
            · rw [b_or, h20 g hg, hy g hg32, decide_eq_false (fun q => by have := q.1; omega)]
              rfl
            · exact b_big (by omega)
          · rw [b_or, Bool.or_eq_true] at hg
            rcases hg with hg | hg
            · exact hM g hg
            · by_cases hg32 : g < 32
              · rw [hy g hg32] at hg
                obtain ⟨hg20, hne⟩ := of_decide_eq_true hg
                obtain ⟨o, ho32, hob⟩ := bt_z hne
                rw [b_and, Bool.and_eq_true] at hob
                exact fun S q1 q2 => q2 g o hg20 hob.1 (hM o hob.2 S q1 q2)
              · rw [b_big (by omega)] at hg
                cases hg
  -- the first row
  have first : ∀ (d i fu : Nat) (x : Int32), d + i = 20 → d < fu → (∀ j, j < 32 → bt x j = (decide (j < i) && bt (D 6 m) j)) → Wp (f_X3_groupsOf_4 (some a) (nI m) fu x (nI i)) (E, D, I) Q := by
    intro d
    induction d with
    | zero =>
      intro i fu x hi hf hx
      cases fu with
      | zero => exact absurd hf (Nat.not_lt_zero _)
      | succ fu =>
        rw [f_X3_groupsOf_4]
        refine wc_R ha s1 s2 rfl ?_
        refine wc_aN rfl s4 (by omega) ?_
        rw [s5]
        refine wp_pos ((nI_leI (by omega) (by omega)).mpr (by omega)) ?_
        rw [show i = 20 by omega] at hx
        refine rounds 20 0 fuL x (by omega) (fu_ok (by omega)) (Nat.zero_le _) (fun g hg => ?_) (fun g hg hd => ?_) (fun g hg => ?_)
        · by_cases hg32 : g < 32
          · rw [hx g hg32, decide_eq_false (by omega)]; rfl
          · exact b_big (by omega)
        · rw [hx g (by omega), hd, decide_eq_true hg]; rfl
        · by_cases hg32 : g < 32
          · rw [hx g hg32, Bool.and_eq_true] at hg
            exact fun S q1 _ => q1 g hg.2
          · rw [b_big (by omega)] at hg
            cases hg
    | succ d ih =>
      intro i fu x hi hf hx
      cases fu with
      | zero => exact absurd hf (Nat.not_lt_zero _)
      | succ fu =>
        rw [f_X3_groupsOf_4]
        refine wc_R ha s1 s2 rfl ?_
        refine wc_aN rfl s4 (by omega) ?_
        rw [s5]
        refine wp_neg (fun e => by have := (nI_leI (by omega) (by omega)).mp e; omega) ?_
        refine wc_R ha s1 s2 rfl ?_
        refine wc_aL i rfl s4 rfl (by omega) (by rw [s5]; omega) ?_
        rw [lb_shr _ (by omega), hG.2.1 i m (by omega) hm, nI_1]
        refine ih (i + 1) fu _ (by omega) (by omega) (fun j hj => ?_)
        rw [b_or, hx j hj]
        cases hb : bt (D 6 m) i with
        | false =>
          have e0 : Int64.toInt32 (if false = true then 1 else 0) <<< (nI i &&& 31) = 0 := by
            have : ∀ i, i < 20 → (0 : Int32) <<< (nI i &&& 31) = 0 := by decide
            exact this i (by omega)
          rw [e0, b_0, Bool.or_false]
          by_cases e : j = i
          · subst e; rw [hb, Bool.and_false, Bool.and_false]
          · have : (j < i) ↔ (j < i + 1) := by omega
            simp only [this]
        | true =>
          have e1 : Int64.toInt32 (if true = true then 1 else 0) <<< (nI i &&& 31) = (1 : Int32) <<< (nI i &&& 31) := rfl
          rw [e1, bt_sh (by omega) hj]
          by_cases e : j = i
          · subst e; rw [hb, decide_eq_true (p := j = j) rfl, decide_eq_true (p := j < j + 1) (by omega), Bool.or_true]; rfl
          · have : (j < i) ↔ (j < i + 1) := by omega
            simp only [this, decide_eq_false e, Bool.or_false]
  unfold f_X3_groupsOf
  exact first 20 0 fuL 0 (by omega) (fu_ok (by omega)) (fun j hj => by rw [b_0, decide_eq_false (by omega)]; rfl)
/-! nodes -/
def NodA (E : Es) (ab : Nat → Int32) (nn : Nat) : Prop := ∀ i, i < nn → eKd E (12, i, 0) = 109 ∧ eRf E (12, i, 0) 1 = upT (ab i)
theorem upT_nI {k : Nat} (h : k < 2 ^ 31) : upT (nI k) = some (12, k, 0) := by
  unfold upT
  rw [if_neg (nI_pos h), nI_clamp h]
theorem upT_m1 : upT (-1) = none := rfl
theorem wc_Rm {α : Type} {Q : α → Gh → Prop} {t : Tg} {a ci k : Nat} {K : Option Nat → Mo α} (ha : eAd E t = a) (hk : eKd E t = 100 + ci) (hty : (p_ty ci)[k]? = some 1) (kk : Wp (K ((eRf E t k).map (eAd E))) (E, D, I) Q) : Wp (mb (gR ci k (some a)) K) (E, D, I) Q := by
  subst ha
  exact wp_gR (g := (E, D, I)) hk hty kk
theorem c_isWithin_2 {Q : Int32 → Gh → Prop} {ab : Nat → Int32} {nn top : Nat} (hnn : nn ≤ 60) (hN : NodA E ab nn) (htop : top < nn) : ∀ (w : List Nat) (v : Int32) (fu : Nat), Chn ab nn w v → w.length < fu → Q (b2i (decide (top ∈ w))) (E, D, I) → Wp (f_X6_isWithin_2 (some (eAd E (12, top, 0))) fu ((upT v).map (eAd E))) (E, D, I) Q := by
  intro w
  induction w with
  | nil =>
    intro v fu hc hf kk
    cases fu with
    | zero => exact absurd hf (Nat.not_lt_zero _)
    | succ fu =>
      have hc : v = -1 := hc
      subst hc
      rw [f_X6_isWithin_2]
      exact wp_pos rfl (wp_rz (.inl rfl) kk)
  | cons k r ih =>
    intro v fu hc hf kk
    cases fu with
    | zero => exact absurd hf (Nat.not_lt_zero _)
    | succ fu =>
      obtain ⟨rfl, hk, hc⟩ := hc
      rw [List.length_cons] at hf
      rw [upT_nI (by omega), f_X6_isWithin_2]
      refine wp_neg (by simp) ?_
      by_cases e : k = top
      · subst e
        rw [decide_eq_true List.mem_cons_self] at kk
        exact wp_pos rfl (wp_rz (.inr rfl) kk)
      · refine wp_inj (fun inj _ _ => ?_)
        refine wp_neg (fun q => e ?_) ?_
        · have := inj (12, k, 0) (12, top, 0) (by show eKd E _ ≠ 0; rw [(hN k hk).1]; omega) (by show eKd E _ ≠ 0; rw [(hN top htop).1]; omega) (Option.some.inj q)
          exact congrArg (fun t : Tg => t.2.1) this
        · refine wc_Rm rfl (hN k hk).1 rfl ?_
          rw [(hN k hk).2]
          refine ih (ab k) fu hc (by omega) ?_
          have : (top ∈ k :: r) ↔ (top ∈ r) := by
            rw [List.mem_cons]
            exact ⟨fun h => h.elim (fun q => absurd q.symm e) id, .inr⟩
          simp only [this] at kk
          exact kk
theorem c_isWithin {Q : Int32 → Gh → Prop} {ab : Nat → Int32} {nn top i a b : Nat} {w : List Nat} (hnn : nn ≤ 60) (hN : NodA E ab nn) (htop : top < nn) (hw : Chn ab nn w (nI i)) (hi : i < nn) (ha : eAd E (12, i, 0) = a) (hb : eAd E (12, top, 0) = b) (kk : Q (b2i (decide (top ∈ w))) (E, D, I)) : Wp (f_X6_isWithin (some a) (some b)) (E, D, I) Q := by
  subst ha
  subst hb
  unfold f_X6_isWithin
  have := c_isWithin_2 (Q := Q) (D := D) (I := I) hnn hN htop w (nI i) fuL hw (fu_ok (by have := chn_len hnn hw; omega)) kk
  rw [upT_nI (by omega)] at this
  exact this
end CA
