/-! ===== the class: a whole text is read ===== -/
section RH
variable {E : Es} {I : Tg → Nat → Int32} {D : Nat → Nat → Int32} {B : Nat → Int32} {n ng nn a : Nat} {Z : Nat → Nat}
theorem c_rTxt {Q : Int32 → Gh → Prop} {tp : Nat} (hZ : ZO Z) (hT : TapS E) (ha : eAd E (6, 0, 0) = a) (htp : n ≤ tp ∧ tp ≤ 200 ∧ I (5, 0, 0) 1 = nI tp) (hB : ∀ k, k < n → I (5, 1, 0) k &&& 255 = B k) (hz : Bz B n) (hng : ng ≤ 20) (hnn : nn ≤ 60) (k1 : ∀ e cs I', pTxt B n ng nn = .inl (e, cs) → Fr6 I I' → RdS E B n ng nn a I' e cs → Q 0 (E, D, I')) (k2 : ∀ c pl I', pTxt B n ng nn = .inr (c, pl) → Fr6 I I' → RdF E B n ng nn a I' c pl → Q (nI c) (E, D, I')) : Wp (f_X2_read Z (some a) (nI n) (nI ng) (nI nn)) (E, D, I) Q := by
  have s5 := hT.2.2.2.2.1
  unfold f_X2_read
  refine wc_P ha rfl s5 rfl rfl ?_
  refine wc_P ha rfl s5 rfl rfl ?_
  refine wc_P ha rfl s5 rfl rfl ?_
  refine wc_P ha rfl s5 rfl rfl ?_
  refine wc_P ha rfl s5 rfl rfl ?_
  refine wc_P ha rfl s5 rfl rfl ?_
  refine wc_P ha rfl s5 rfl rfl ?_
  have hfr : Fr6 I (us (us (us (us (us (us (us I (6, 0, 0) 1 (nI n)) (6, 0, 0) 2 (nI ng)) (6, 0, 0) 3 (nI nn)) (6, 0, 0) 4 0) (6, 0, 0) 5 0) (6, 0, 0) 6 (-1)) (6, 0, 0) 8 0) := (((((Fr6.us.tr Fr6.us).tr Fr6.us).tr Fr6.us).tr Fr6.us).tr Fr6.us).tr Fr6.us
  have hS : RdS E B n ng nn a (us (us (us (us (us (us (us I (6, 0, 0) 1 (nI n)) (6, 0, 0) 2 (nI ng)) (6, 0, 0) 3 (nI nn)) (6, 0, 0) 4 0) (6, 0, 0) 5 0) (6, 0, 0) 6 (-1)) (6, 0, 0) 8 0) 0 [] := by
    refine ⟨⟨hT, ha, by omega, ⟨tp, htp.1, htp.2.1, by rw [hfr _ _ (by simp)]; exact htp.2.2⟩, fun k hk => by rw [hfr _ _ (by simp)]; exact hB k hk, hz, ?_, ?_, ?_, hng, hnn⟩, ⟨?_, Nat.zero_le _⟩, ⟨?_, ?_⟩, ⟨?_, Nat.zero_le _⟩, fun i y h => (by simp at h)⟩
    · rw [us_ne (by simp), us_ne (by simp), us_ne (by simp), us_ne (by simp), us_ne (by simp), us_ne (by simp), us_eq]
    · rw [us_ne (by simp), us_ne (by simp), us_ne (by simp), us_ne (by simp), us_ne (by simp), us_eq]
    · rw [us_ne (by simp), us_ne (by simp), us_ne (by simp), us_ne (by simp), us_eq]
    · rw [us_ne (by simp), us_ne (by simp), us_ne (by simp), us_eq]; rfl
    · rw [us_ne (by simp), us_ne (by simp), us_eq]
    · rw [us_ne (by simp), us_eq]
    · rw [us_eq]; rfl
  generalize us (us (us (us (us (us (us I (6, 0, 0) 1 (nI n)) (6, 0, 0) 2 (nI ng)) (6, 0, 0) 3 (nI nn)) (6, 0, 0) 4 0) (6, 0, 0) 5 0) (6, 0, 0) 6 (-1)) (6, 0, 0) 8 0 = I0 at hfr hS ⊢
  have hn := hS.1.2.2.1
  have hsk := sk_le (B := B) (n := n) 0 (Nat.zero_le _)
  refine c_rC hS.1 (c_blanks hS.1 hS.2.1.2 hS.2.1.1 ?_)
  have h1 := hS.pos (Nat.zero_le (sk B n 0)) hsk
  unfold f_X2_read_79
  refine c_rI h1.1 rfl (c_rI h1.1 rfl ?_)
  rw [h1.2.1.1, h1.1.2.2.2.2.2.2.1]
  unfold pTxt at k1 k2
  by_cases hlt : sk B n 0 < n
  · rw [if_pos hlt] at k1 k2
    refine wp_neg (fun c => by have := (nI_leI (by omega) (by omega)).mp c; omega) ?_
    have hO : RdO E D B n ng nn a (f_X2_readEitherC Z (some a) 0) (pAny B n ng nn 16 0) := c_eith hZ (g1 := r_X2_readBoth Z 16) (c_both hZ (g1 := r_X2_readOne Z 16) (c_rOne hZ hz hng hnn 16 0 (by omega) (by omega)) (Gd.gl (fun p hp => pOne_gd hz hng hnn 16 0 p (by omega) hp))) (Gd.gl (fun p hp => pAll_gd hz hng hnn 16 0 p (by omega) hp))
    refine c_rC h1.1 (hO.1 _ _ _ _ h1 (fun e cs2 I2 ho f2 h4 => ?_) (fun c pl I2 ho f2 h4 => ?_))
    · rw [ho] at k1 k2
      dsimp only at k1 k2
      have hs3 := sk_ge (B := B) (n := n) e
      have hs4 := sk_le (B := B) (n := n) e h4.2.1.2
      refine c_rC h4.1 (c_blanks h4.1 h4.2.1.2 h4.2.1.1 ?_)
      have h5 := h4.pos hs3 hs4
      refine c_rI h5.1 rfl (c_rI h5.1 rfl ?_)
      rw [h5.2.1.1, h5.1.2.2.2.2.2.2.1]
      by_cases hl2 : sk B n e < n
      · rw [if_pos hl2] at k2
        refine wp_neg (fun c => by have := (nI_leI (by omega) (by omega)).mp c; omega) ?_
        refine c_rI h5.1 rfl ?_
        rw [h5.2.1.1]
        have h6 := h5.bl (c := 1) (pl := sk B n e) (.inl rfl)
        refine c_rC h5.1 (c_blame h5.1 h5.2.2.1.1 ?_)
        refine c_rI h6.1 rfl (wp_mp ?_)
        show Q (us (us (us I2 (6, 0, 0) 4 (nI (sk B n e))) (6, 0, 0) 5 (nI 1)) (6, 0, 0) 6 (nI (sk B n e)) (6, 0, 0) 5) _
        rw [h6.2.2.1.1]
        exact k2 1 _ _ rfl ((((hfr.tr Fr6.us).tr f2).tr Fr6.us).tr (Fr6.us.tr Fr6.us)) h6
      · rw [if_neg hl2] at k1
        refine wp_pos ((nI_leI (by omega) (by omega)).mpr (by omega)) ?_
        refine c_rI h5.1 rfl (wp_mp ?_)
        rw [h5.2.2.1.1]
        exact k1 _ _ _ rfl (((hfr.tr Fr6.us).tr f2).tr Fr6.us) h5
    · rw [ho] at k2
      have kk := fun I' f h => k2 c pl I' rfl f h
      refine c_rC h4.1 (f_blanks h4 (fun I3 f3 h5 => ?_))
      refine c_rI h5.1 rfl (c_rI h5.1 rfl ?_)
      have fin : Wp (mb (gI 5 5 (some a)) (fun v80 => mp v80)) (E, D, I3) Q := by
        refine c_rI h5.1 rfl (wp_mp ?_)
        rw [h5.2.2.1.1]
        exact kk I3 (((hfr.tr Fr6.us).tr f2).tr f3) h5
      refine wp_ite (fun _ => fin) (fun _ => ?_)
      refine c_rI h5.1 rfl ?_
      exact c_rC h5.1 (c_blame1 h5.1 h5.ne fin)
  · rw [if_neg hlt] at k1
    refine wp_pos ((nI_leI (by omega) (by omega)).mpr (by omega)) ?_
    refine c_rI h1.1 rfl (wp_mp ?_)
    rw [h1.2.2.1.1]
    exact k1 _ _ _ rfl (hfr.tr Fr6.us) h1
end RH
