/-! ===== the class: one part of a text, a whole text ===== -/
section RG
variable {E : Es} {I I' I'' : Tg → Nat → Int32} {D : Nat → Nat → Int32} {B : Nat → Int32} {n ng nn a : Nat} {Z : Nat → Nat}
theorem c_may {Q : Int32 → Gh → Prop} {d p pl : Nat} {cs : List Int32} (hS : RdS E B n ng nn a I p cs) (hd : d ≤ 10) (k1 : d = 10 → ∀ I', Fr6 I I' → RdF E B n ng nn a I' 3 pl → Q 0 (E, D, I')) (k2 : d < 10 → Q 1 (E, D, I)) : Wp (f_X2_mayOpen (some a) (nI d) (nI pl)) (E, D, I) Q := by
  unfold f_X2_mayOpen f_X2_mayOpen_12 f_X2_mayOpen_24
  by_cases h : d < 10
  · refine wp_pos ((nI_ltI (b := 10) (by omega) (by omega)).mpr h) ?_
    refine c_rI hS.1 rfl ?_
    rw [hS.2.2.1.1]
    exact wp_pos rfl (wp_rz (.inr rfl) (k2 h))
  · refine wp_neg (fun c => h ((nI_ltI (b := 10) (by omega) (by omega)).mp c)) ?_
    have hF := hS.bl (c := 3) (pl := pl) (.inr (.inr rfl))
    refine c_rC hS.1 (c_blame hS.1 hS.2.2.1.1 ?_)
    refine c_rI hF.1 rfl ?_
    exact wp_neg hF.ne (wp_rz (.inl rfl) (k1 (by omega) _ (Fr6.us.tr Fr6.us) hF))
theorem c_one (hZ : ZO Z) {d : Nat} {g1 g2 : Option Nat → Int32 → Mo Unit} {an on : Nat → Nat → PRes} (hd : d ≤ 10) (hO1 : d < 10 → RdO E D B n ng nn a (g1 (some a) (nI (d + 1))) (an (d + 1))) (hO2 : d < 10 → RdO E D B n ng nn a (g2 (some a) (nI (d + 1))) (on (d + 1))) (hG1 : d < 10 → GlO n (an (d + 1))) (hG2 : d < 10 → GlO n (on (d + 1))) : RdO E D B n ng nn a (f_X2_readOne Z g1 g2 (some a) (nI d)) (onA B n ng nn an on d) := by
  refine ⟨fun Q I p cs hS k1 k2 => ?_, fun Q I c pl hF kk => ?_⟩
  · have hn := hS.1.2.2.1
    have hz := hS.1.2.2.2.2.2.1
    have hsk := sk_le (B := B) (n := n) p hS.2.1.2
    have hsg := sk_ge (B := B) (n := n) p
    unfold f_X2_readOne
    refine c_rC hS.1 (c_blanks hS.1 hS.2.1.2 hS.2.1.1 ?_)
    have hS1 := hS.pos hsg hsk
    unfold onA at k1 k2
    have hlen := hS.2.2.2.1.2
    have hss : sk B n (sk B n p) = sk B n p := sk_sk
    have k1' : ∀ e cs' I', _ = _ → Fr6 (us I (6, 0, 0) 4 (nI (sk B n p))) I' → RdS E B n ng nn a I' e (cs ++ cs') → Q () (E, D, I') := fun e cs' I' h hf => k1 e cs' I' h (Fr6.us.tr hf)
    have k2' : ∀ c pl I', _ = _ → Fr6 (us I (6, 0, 0) 4 (nI (sk B n p))) I' → RdF E B n ng nn a I' c pl → Q () (E, D, I') := fun c pl I' h hf => k2 c pl I' h (Fr6.us.tr hf)
    have hlen2 : 2 * cs.length ≤ sk B n p := by omega
    clear k1 k2 hS hlen hsg
    generalize us I (6, 0, 0) 4 (nI (sk B n p)) = I at k1' k2' hS1 ⊢
    generalize sk B n p = q at k1' k2' hS1 hsk hss hlen2 ⊢
    refine c_rI hS1.1 rfl ?_
    rw [hS1.2.1.1]
    unfold f_X2_readOne_163
    refine c_rC hS1.1 (c_tkB hS1.1 (by decide) hS1.2.1.2 hS1.2.1.1 hS1.2.2.1.1 (fun hb => ?_) (fun hb => ?_))
    · -- a bracket
      have w0 : isW B 0 q = false := isW_ne (k := 0) (by decide) (by rw [Nat.add_zero, hb]; decide)
      have hlt : q < n := by
        refine Nat.lt_of_not_le fun hle => ?_
        rw [hz _ hle] at hb
        exact absurd hb (by decide)
      rw [if_neg (by rw [w0]; decide), if_pos hb] at k1' k2'
      have h2 := hS1.pos (q := q + 1) (by omega) hlt
      refine wp_neg (by decide) ?_
      refine c_rC h2.1 (c_may h2 hd (fun e10 I1 f1 h3 => ?_) (fun h10 => ?_))
      · rw [if_pos e10] at k2'
        exact wp_pos rfl (wp_mp (k2' 3 q I1 rfl (Fr6.us.tr f1) h3))
      rw [if_neg (by omega)] at k1' k2'
      refine wp_neg (by decide) ?_
      rw [nI_1]
      refine c_rC h2.1 ((hO1 h10).1 _ _ _ _ h2 (fun e cs2 I2 ho f2 h4 => ?_) (fun c pl I2 ho f2 h4 => ?_))
      · rw [ho] at k1' k2'
        dsimp only at k1' k2'
        have hs3 := sk_ge (B := B) (n := n) e
        have hs4 := sk_le (B := B) (n := n) e h4.2.1.2
        refine c_rC h4.1 (c_blanks h4.1 h4.2.1.2 h4.2.1.1 ?_)
        have h5 := h4.pos hs3 hs4
        refine c_rC h5.1 (c_tkB h5.1 (by decide) h5.2.1.2 h5.2.1.1 h5.2.2.1.1 (fun hb2 => ?_) (fun hb2 => ?_))
        · rw [if_pos hb2] at k1'
          have hlt2 : sk B n e < n := by
            refine Nat.lt_of_not_le fun hle => ?_
            rw [hz _ hle] at hb2
            exact absurd hb2 (by decide)
          refine wp_neg (by decide) (wp_mp ?_)
          exact k1' _ _ _ rfl (((Fr6.us.tr f2).tr Fr6.us).tr Fr6.us) (h5.pos (by omega) hlt2)
        · rw [if_neg hb2] at k2'
          refine wp_pos rfl ?_
          refine c_rI h5.1 rfl ?_
          rw [h5.2.1.1]
          refine c_rC h5.1 (c_blame h5.1 h5.2.2.1.1 (wp_mp ?_))
          exact k2' 1 _ _ rfl (((Fr6.us.tr f2).tr Fr6.us).tr (Fr6.us.tr Fr6.us)) (h5.bl (.inl rfl))
      · rw [ho] at k1' k2'
        refine c_rC h4.1 (f_blanks h4 (fun I3 f3 h5 => ?_))
        refine c_rC h5.1 (c_tkB1 h5.1 h5.ne ?_)
        refine wp_pos rfl ?_
        refine c_rI h5.1 rfl ?_
        refine c_rC h5.1 (c_blame1 h5.1 h5.ne (wp_mp ?_))
        exact k2' c pl I3 rfl ((Fr6.us.tr f2).tr f3) h5
    · refine wp_pos rfl ?_
      have same : us I (6, 0, 0) 4 (nI (sk B n q)) = I := by rw [hss]; exact us_id hS1.2.1.1
      have h0 := hS1.2.2.1.1
      refine c_rC hS1.1 (c_word (i := 0) hZ hS1.1 (by omega) hS1.2.1.2 hS1.2.1.1 (fun _ w0 => ?_) (fun w0 => ?_))
      · -- not
        rw [hss] at w0 ⊢
        rw [if_pos w0] at k1' k2'
        have hlt : q + 3 ≤ n := isW_lt hz (i := 0) (by omega) w0
        have h2 := hS1.pos (q := q + 3) (by omega) hlt
        refine wp_neg (by decide) ?_
        refine c_rC h2.1 (c_may h2 hd (fun e10 I1 f1 h3 => ?_) (fun h10 => ?_))
        · rw [if_pos e10] at k2'
          exact wp_pos rfl (wp_mp (k2' 3 q I1 rfl (Fr6.us.tr f1) h3))
        rw [if_neg (by omega)] at k1' k2'
        refine wp_neg (by decide) ?_
        rw [nI_1]
        refine c_rC h2.1 ((hO2 h10).1 _ _ _ _ h2 (fun e cs2 I2 ho f2 h4 => ?_) (fun c pl I2 ho f2 h4 => ?_))
        · obtain ⟨g1', g2', g3'⟩ := hG2 h10 _ hlt _ _ ho
          rw [ho] at k1'
          dsimp only at k1'
          have hb2 : 2 * (cs ++ cs2).length + 2 ≤ e := by
            rw [List.length_append]
            omega
          refine c_rC h4.1 (c_step h4.1 (by omega) h4.2.2.2.1.1 (wp_mp ?_))
          have h5 := h4.st (v := (3 : Int32) * 256 + 0) (y := 2) (by decide) hb2
          rw [List.append_assoc] at h5
          exact k1' _ _ _ rfl ((Fr6.us.tr f2).tr (Fr6.us.tr Fr6.us)) h5
        · rw [ho] at k2'
          refine c_rC h4.1 (f_step h4 (fun I3 f3 h5 => wp_mp ?_))
          exact k2' c pl I3 rfl ((Fr6.us.tr f2).tr f3) h5
      have w0 := w0 h0
      rw [hss] at w0
      rw [if_neg (by rw [w0]; decide), if_neg hb] at k1' k2'
      rw [same]
      refine wp_pos rfl ?_
      refine c_rC hS1.1 (c_word (i := 1) hZ hS1.1 (by omega) hS1.2.1.2 hS1.2.1.1 (fun _ w1 => ?_) (fun w1 => ?_))
      · -- group
        rw [hss] at w1 ⊢
        rw [if_pos w1] at k1' k2'
        have hlt : q + 5 ≤ n := isW_lt hz (i := 1) (by omega) w1
        have h2 := hS1.pos (q := q + 5) (by omega) hlt
        refine wp_neg (by decide) ?_
        refine c_rI h2.1 rfl ?_
        rw [h2.1.2.2.2.2.2.2.2.1]
        refine c_rC h2.1 (c_rdN (sort := 0) h2 (by omega) (by have := h2.1.2.2.2.2.2.2.2.2.2.1; omega) (by omega) (fun e cs' I' h hf h3 => wp_mp (k1' e cs' I' h (Fr6.us.tr hf) h3)) (fun c pl I' h hf h3 => wp_mp (k2' c pl I' h (Fr6.us.tr hf) h3)))
      have w1 := w1 h0
      rw [hss] at w1
      rw [if_neg (by rw [w1]; decide)] at k1' k2'
      rw [same]
      refine wp_pos rfl ?_
      refine c_rC hS1.1 (c_word (i := 2) hZ hS1.1 (by omega) hS1.2.1.2 hS1.2.1.1 (fun _ w2 => ?_) (fun w2 => ?_))
      · -- fact
        rw [hss] at w2 ⊢
        rw [if_pos w2] at k1' k2'
        have hlt : q + 4 ≤ n := isW_lt hz (i := 2) (by omega) w2
        have h2 := hS1.pos (q := q + 4) (by omega) hlt
        refine wp_neg (by decide) ?_
        refine c_rC h2.1 (c_rdN (sort := 1) (most := 8) h2 (by omega) (by omega) (by omega) (fun e cs' I' h hf h3 => wp_mp (k1' e cs' I' h (Fr6.us.tr hf) h3)) (fun c pl I' h hf h3 => wp_mp (k2' c pl I' h (Fr6.us.tr hf) h3)))
      have w2 := w2 h0
      rw [hss] at w2
      rw [if_neg (by rw [w2]; decide)] at k1' k2'
      rw [same]
      refine wp_pos rfl ?_
      refine c_rC hS1.1 (c_word (i := 3) hZ hS1.1 (by omega) hS1.2.1.2 hS1.2.1.1 (fun _ w3 => ?_) (fun w3 => ?_))
      · -- node
        rw [hss] at w3 ⊢
        rw [if_pos w3] at k1' k2'
        have hlt : q + 4 ≤ n := isW_lt hz (i := 3) (by omega) w3
        have h2 := hS1.pos (q := q + 4) (by omega) hlt
        refine wp_neg (by decide) ?_
        refine c_rI h2.1 rfl ?_
        rw [h2.1.2.2.2.2.2.2.2.2.1]
        refine c_rC h2.1 (c_rdN (sort := 2) h2 (by omega) h2.1.2.2.2.2.2.2.2.2.2.2 (by omega) (fun e cs' I' h hf h3 => wp_mp (k1' e cs' I' h (Fr6.us.tr hf) h3)) (fun c pl I' h hf h3 => wp_mp (k2' c pl I' h (Fr6.us.tr hf) h3)))
      have w3 := w3 h0
      rw [hss] at w3
      rw [if_neg (by rw [w3]; decide)] at k2'
      rw [same]
      refine wp_pos rfl ?_
      refine c_rI hS1.1 rfl ?_
      rw [hS1.2.1.1]
      refine c_rC hS1.1 (c_blame hS1.1 h0 (wp_mp ?_))
      exact k2' 1 q _ rfl (Fr6.us.tr Fr6.us) (hS1.bl (.inl rfl))
  · unfold f_X2_readOne f_X2_readOne_163
    refine c_rC hF.1 (f_blanks hF (fun I1 f1 h1 => ?_))
    refine c_rI h1.1 rfl ?_
    refine c_rC h1.1 (c_tkB1 h1.1 h1.ne (wp_pos rfl ?_))
    refine c_rC h1.1 (f_word (i := 0) hZ (by omega) h1 (fun I2 f2 h2 => wp_pos rfl ?_))
    refine c_rC h2.1 (f_word (i := 1) hZ (by omega) h2 (fun I3 f3 h3 => wp_pos rfl ?_))
    refine c_rC h3.1 (f_word (i := 2) hZ (by omega) h3 (fun I4 f4 h4 => wp_pos rfl ?_))
    refine c_rC h4.1 (f_word (i := 3) hZ (by omega) h4 (fun I5 f5 h5 => wp_pos rfl ?_))
    refine c_rI h5.1 rfl ?_
    refine c_rC h5.1 (c_blame1 h5.1 h5.ne (wp_mp ?_))
    exact kk I5 ((((f1.tr f2).tr f3).tr f4).tr f5) h5
theorem c_rOne (hZ : ZO Z) (hz : Bz B n) (hng : ng ≤ 20) (hnn : nn ≤ 60) : ∀ (f d : Nat), d ≤ 10 → 11 ≤ d + f → RdO E D B n ng nn a (r_X2_readOne Z f (some a) (nI d)) (pOne B n ng nn f d)
  | 0, d, hd, hf => absurd hf (by omega)
  | f + 1, d, hd, hf => by
    have ih : d < 10 → RdO E D B n ng nn a (r_X2_readOne Z f (some a) (nI (d + 1))) (pOne B n ng nn f (d + 1)) := fun h => c_rOne hZ hz hng hnn f (d + 1) (by omega) (by omega)
    have g : d < 10 → GlO n (pOne B n ng nn f (d + 1)) := fun h => Gd.gl (fun p hp => pOne_gd hz hng hnn f (d + 1) p (by omega) hp)
    have ga : d < 10 → GlO n (pAll B n ng nn f (d + 1)) := fun h => Gd.gl (fun p hp => pAll_gd hz hng hnn f (d + 1) p (by omega) hp)
    have gy : d < 10 → GlO n (pAny B n ng nn f (d + 1)) := fun h => Gd.gl (fun p hp => pAny_gd hz hng hnn f (d + 1) p (by omega) hp)
    have key := c_one (E := E) (D := D) (a := a) (ng := ng) (nn := nn) hZ (d := d) (g1 := fun r x1 => f_X2_readEither Z (fun r x1 => f_X2_readBoth Z (r_X2_readOne Z f) r x1) r x1) (g2 := r_X2_readOne Z f) (an := fun d => sqA B n 5 1 (sqA B n 4 0 (pOne B n ng nn f d))) (on := pOne B n ng nn f) hd (fun h => c_eith hZ (g1 := fun r x1 => f_X2_readBoth Z (r_X2_readOne Z f) r x1) (c_both hZ (ih h) (g h)) (ga h)) ih gy g
    exact key
end RG
