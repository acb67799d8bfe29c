/-! ===== lists: adding, taking out, clearing ===== -/
section CM
variable {E : Es} {D : Nat → Nat → Int32} {I : Tg → Nat → Int32} {a b c ad : Nat} {xs : List Tg} {Z : Nat → Nat}
theorem Lst.us0 {v : Int32} (h : Lst E I a b c xs) : Lst E (us I (a, b, 0) 0 v) a b c xs := by
  obtain ⟨l1, l2, l3⟩ := h
  exact ⟨l1, by rw [us_ne (fun q => by cases q.2)]; exact l2, l3⟩
/-- the end of an adding: the new one at place j, the others as they should -/
theorem Lst.fin {E2 : Es} {I2 : Tg → Nat → Int32} {ys : List Tg} (h : Lst E I a b c xs) (hA : eAd E2 = eAd E) (hK : eKd E2 = eKd E) (hLn : eLn E2 = eLn E) (hc0 : c ≠ 0) (hR0 : ∀ k, eRf E2 (a, b, 0) k = eRf E (a, b, 0) k) (hy : ys.length ≤ c) (hi2 : I2 (a, b, 0) 2 = nI ys.length) (hel : ∀ i t, ys[i]? = some t → eRf E2 (a, b, c) i = some t) : Lst E2 I2 a b c ys := by
  obtain ⟨l1, l2, l3, l4, l5, l6, l7, l8⟩ := h
  obtain ⟨m0, m1, m2, m3⟩ := l6 hc0
  exact ⟨by rw [hK]; exact l1, hi2, hy, l4, fun q => absurd q hc0, fun _ => ⟨m0, by rw [hR0]; exact m1, by rw [hK]; exact m2, by rw [hLn]; exact m3⟩, hel, fun c' hc' => by rw [hK]; exact l8 c' hc'⟩
theorem l_add {Q : Int32 → Gh → Prop} {t : Tg} {ci bt : Nat} (hL : Lst E I a b c xs) (h1 : Nat.beq a 1 = false) (h0 : Nat.beq a 0 = false) (hz : eAd E (0, 0, 0) = Z 0) (ha : eAd E (a, b, 0) = ad) (hb : eAd E t = bt) (ht : eKd E t = 100 + ci) (htr : ¬ (t.1 = a ∧ t.2.1 = b)) (hc : xs.length ≤ 400) (hcl : ∀ t ∈ xs, 100 ≤ eKd E t) (hrg : ∀ t ∈ xs, ¬ (t.1 = a ∧ t.2.1 = b)) (kk : ∀ E' I' c', Lst E' I' a b c' (xs ++ [t]) → c' ≤ max c (xs.length + xs.length + 10) → Ag a b E I E' I' → Mk E E' c c' → eAd E' (a, b, 0) = eAd E (a, b, 0) → Q 1 (E', D, I')) : Wp (f_Jx4a65c_add_9ea2d Z (some ad) (some bt)) (E, D, I) Q := by
  have ha0 : a ≠ 0 := Nat.ne_of_beq_eq_false h0
  have hlen : (xs ++ [t]).length = xs.length + 1 := by rw [List.length_append, List.length_singleton]
  -- the end
  have fin : ∀ (E1 : Es) (I1 : Tg → Nat → Int32) (c1 : Nat), Lst E1 I1 a b c1 xs → xs.length < c1 → c1 ≤ max c (xs.length + xs.length + 10) → Ag a b E I E1 I1 → Mk E E1 c c1 → eAd E1 (a, b, 0) = eAd E (a, b, 0) → Wp (f_Jx4a65c_add_72be8_11 Z (some ad) (some bt) (some (eAd E1 (a, b, c1))) (nI xs.length)) (E1, D, I1) (fun r g' => Wp (rz .boolean 1) g' Q) := by
    intro E1 I1 c1 hL1 hlt hc1 hA hMk hA0
    obtain ⟨l1, l2, l3, l4, l5, l6, l7, l8⟩ := id hL1
    obtain ⟨m0, m1, m2, m3⟩ := l6 (by omega)
    obtain ⟨t1, t2, -⟩ := hA t htr
    unfold f_Jx4a65c_add_72be8_11
    refine wc_sR (v := t) (ci := ci) xs.length rfl (by rw [t1]; exact hb) m2 (by rw [t2]; exact ht) rfl (by omega) (by rw [m3]; exact hlt) ?_
    refine wc_P (t := (a, b, 0)) (by show eAd E1 (a, b, 0) = _; rw [hA0]; exact ha) h1 l1 rfl rfl ?_
    rw [nI_1]
    refine wp_mp (wp_rz (.inr rfl) (kk _ _ c1 (hL1.fin rfl rfl rfl (by omega) (fun k => eR_ne (fun q => by have : 0 = c1 := congrArg (fun t : Tg => t.2.2) q.1; omega)) (by rw [hlen]; omega) (by rw [us_eq, hlen]) (fun i u hu => ?_)) hc1 ((hA.tr Ag.eR).tr Ag.us) hMk hA0))
    by_cases hi : i < xs.length
    · rw [List.getElem?_append_left hi] at hu
      rw [eR_ne (fun q => by have := q.2; omega)]
      exact l7 i u hu
    · have hi2 : i = xs.length := by
        have := (List.getElem?_eq_some_iff.mp hu).1
        omega
      subst hi2
      rw [List.getElem?_append_right (Nat.le_refl _), Nat.sub_self] at hu
      cases hu
      exact eR_eq
  unfold f_Jx4a65c_add_9ea2d
  refine wc_I ha h1 hL.1 rfl ?_
  refine wc_P ha h1 hL.1 rfl rfl ?_
  have hL0 : Lst E (us I (a, b, 0) 0 (I (a, b, 0) 0 + 1)) a b c xs := hL.us0
  obtain ⟨l1, l2, l3, l4, l5, l6, l7, l8⟩ := id hL0
  by_cases hfull : xs.length = c
  · have grow : ∀ {r : Option Nat}, Wp (mb (mo 2 (some ad) (f_Jx4a65c_grow_d5877 Z (some ad))) (fun v7 => f_Jx4a65c_add_72be8_11 Z (some ad) (some bt) v7 (nI xs.length))) (E, D, us I (a, b, 0) 0 (I (a, b, 0) 0 + 1)) (fun r g' => Wp (rz .boolean 1) g' Q) := by
      intro r
      refine wc_call ha l1 (l_grow hL0 h1 h0 hz ha hfull (by omega) hcl (fun E1 I1 c1 q1 q2 q3 q4 q5 q6 => ?_))
      exact fin E1 I1 c1 q1 (by omega) (by omega) (Ag.us.tr q4) q5 q6
    by_cases hc0 : c = 0
    · refine wc_R ha l1 (l5 hc0) rfl ?_
      refine wc_I ha h1 l1 rfl ?_
      rw [l2]
      refine wc_call ha l1 ?_
      unfold f_Jx4a65c_add_72be8
      rw [hz]
      refine wp_aNz (wp_pos (by rw [hfull, hc0]; rfl) ?_)
      exact grow (r := none)
    · obtain ⟨m0, m1, m2, m3⟩ := l6 hc0
      refine wc_R ha l1 m1 rfl ?_
      refine wc_I ha h1 l1 rfl ?_
      rw [l2]
      refine wc_call ha l1 ?_
      unfold f_Jx4a65c_add_72be8
      refine wc_aNq hz rfl m2 ?_
      rw [m3]
      exact wp_pos (by rw [hfull]) (grow (r := none))
  · obtain ⟨m0, m1, m2, m3⟩ := l6 (by omega)
    refine wc_R ha l1 m1 rfl ?_
    refine wc_I ha h1 l1 rfl ?_
    rw [l2]
    refine wc_call ha l1 ?_
    unfold f_Jx4a65c_add_72be8
    refine wc_aNq hz rfl m2 ?_
    rw [m3]
    refine wp_neg (fun e => hfull ((nI_eq (by omega) (by omega)).mp e)) ?_
    exact fin E _ c hL0 (by omega) (by omega) Ag.us Mk.rf rfl
/-- put in at a place -/
theorem l_ins {Q : Unit → Gh → Prop} {t : Tg} {ci bt : Nat} (hL : Lst E I a b c xs) (h1 : Nat.beq a 1 = false) (h0 : Nat.beq a 0 = false) (hz : eAd E (0, 0, 0) = Z 0) (ha : eAd E (a, b, 0) = ad) (hb : eAd E t = bt) (ht : eKd E t = 100 + ci) (htr : ¬ (t.1 = a ∧ t.2.1 = b)) (hc : xs.length ≤ 400) (hcl : ∀ t ∈ xs, 100 ≤ eKd E t) (hrg : ∀ t ∈ xs, ¬ (t.1 = a ∧ t.2.1 = b)) {ys zs : List Tg} (hys : xs = ys ++ zs) (kk : ∀ E' I' c', Lst E' I' a b c' (ys ++ t :: zs) → c' ≤ max c (xs.length + xs.length + 10) → Ag a b E I E' I' → Mk E E' c c' → eAd E' (a, b, 0) = eAd E (a, b, 0) → Q () (E', D, I')) : Wp (f_Jx4a65c_add_7a177 Z (some ad) (nI ys.length) (some bt)) (E, D, I) Q := by
  have ha0 : a ≠ 0 := Nat.ne_of_beq_eq_false h0
  have hxl : xs.length = ys.length + zs.length := by rw [hys, List.length_append]
  have hlen : (ys ++ t :: zs).length = xs.length + 1 := by rw [List.length_append, List.length_cons, hxl]; omega
  have fin : ∀ (E1 : Es) (I1 : Tg → Nat → Int32) (c1 : Nat), Lst E1 I1 a b c1 xs → xs.length < c1 → c1 ≤ max c (xs.length + xs.length + 10) → Ag a b E I E1 I1 → Mk E E1 c c1 → eAd E1 (a, b, 0) = eAd E (a, b, 0) → Wp (f_Jx4a65c_add_7a177_38 Z (some ad) (nI ys.length) (some bt) (nI xs.length) (some (eAd E1 (a, b, c1)))) (E1, D, I1) Q := by
    intro E1 I1 c1 hL1 hlt hc1 hA hMk hA0
    obtain ⟨l1, l2, l3, l4, l5, l6, l7, l8⟩ := id hL1
    obtain ⟨m0, m1, m2, m3⟩ := l6 (by omega)
    obtain ⟨t1, t2, -⟩ := hA t htr
    unfold f_Jx4a65c_add_7a177_38
    rw [nI_1, pk_sub (by omega)]
    refine wc_cpR (s := (a, b, c1)) (t := (a, b, c1)) (ci := 0) rfl rfl m2 m2 (by rw [m3]; omega) (by rw [m3]; omega) (by omega) (fun i u hi hu => ?_) ?_
    · have hx : xs[ys.length + i]? = some xs[ys.length + i] := List.getElem?_eq_getElem (by omega)
      rw [l7 _ _ hx] at hu
      cases hu
      have hm : xs[ys.length + i] ∈ xs := List.getElem_mem _
      rw [(hA _ (hrg _ hm)).2.1]
      exact hcl _ hm
    refine wc_sR (t := (a, b, c1)) (v := t) (ci := ci) ys.length rfl (by show eAd E1 t = _; rw [t1]; exact hb) m2 (by show eKd E1 t = _; rw [t2]; exact ht) rfl (by omega) (by show _ < eLn E1 _; rw [m3]; omega) ?_
    refine wc_P (t := (a, b, 0)) (by show eAd E1 (a, b, 0) = _; rw [hA0]; exact ha) h1 l1 rfl rfl ?_
    rw [nI_1]
    have hn0 : ((a, b, 0) : Tg) ≠ (a, b, c1) := fun q => by have : 0 = c1 := congrArg (fun t : Tg => t.2.2) q; omega
    refine wp_mp (kk _ _ c1 (hL1.fin rfl rfl rfl (by omega) (fun k => ?_) (by rw [hlen]; omega) (by rw [us_eq, hlen]) (fun i u hu => ?_)) hc1 (((hA.tr Ag.eRs).tr Ag.eR).tr Ag.us) hMk hA0)
    · rw [eR_ne (fun q => hn0 q.1)]
      exact if_neg hn0
    · by_cases hi : i < ys.length
      · rw [List.getElem?_append_left hi] at hu
        rw [eR_ne (fun q => by have := q.2; omega)]
        show (if (a, b, c1) = (a, b, c1) then _ else _) = _
        rw [if_pos rfl, if_neg (fun q => by omega)]
        refine l7 i u ?_
        rw [hys, List.getElem?_append_left hi]
        exact hu
      · rw [List.getElem?_append_right (by omega)] at hu
        by_cases hi2 : i = ys.length
        · subst hi2
          rw [Nat.sub_self] at hu
          cases hu
          exact eR_eq
        · have hlt2 : i < xs.length + 1 := by
            rw [← hlen]
            refine Nat.lt_of_not_le fun hle => ?_
            rw [List.getElem?_eq_none (by rw [List.length_cons]; rw [hlen] at hle; omega)] at hu
            cases hu
          rw [eR_ne (fun q => hi2 q.2)]
          show (if (a, b, c1) = (a, b, c1) then _ else _) = _
          rw [if_pos rfl, if_pos (by omega)]
          refine l7 _ u ?_
          rw [hys, List.getElem?_append_right (by omega), show ys.length + (i - (ys.length + 1)) - ys.length = i - ys.length - 1 by omega]
          rw [show i - ys.length = (i - ys.length - 1) + 1 by omega, List.getElem?_cons_succ] at hu
          exact hu
  unfold f_Jx4a65c_add_7a177
  refine wc_call ha hL.1 ?_
  unfold f_Jx4a65c_rangeCheckForAdd_d00df
  refine wc_I ha h1 hL.1 rfl ?_
  rw [hL.2.1]
  refine wp_neg (fun e => by have := (nI_ltI (by omega) (by omega)).mp e; omega) (wp_pos (nI_pos' (by omega)) (wp_mp ?_))
  refine wc_I ha h1 hL.1 rfl ?_
  refine wc_P ha h1 hL.1 rfl rfl ?_
  have hL0 : Lst E (us I (a, b, 0) 0 (I (a, b, 0) 0 + 1)) a b c xs := hL.us0
  obtain ⟨l1, l2, l3, l4, l5, l6, l7, l8⟩ := id hL0
  refine wc_I ha h1 l1 rfl ?_
  rw [l2]
  by_cases hfull : xs.length = c
  · have grow : Wp (mb (mo 2 (some ad) (f_Jx4a65c_grow_d5877 Z (some ad))) (fun v33 => f_Jx4a65c_add_7a177_38 Z (some ad) (nI ys.length) (some bt) (nI xs.length) v33)) (E, D, us I (a, b, 0) 0 (I (a, b, 0) 0 + 1)) Q := by
      refine wc_call ha l1 (l_grow hL0 h1 h0 hz ha hfull (by omega) hcl (fun E1 I1 c1 q1 q2 q3 q4 q5 q6 => ?_))
      exact fin E1 I1 c1 q1 (by omega) (by omega) (Ag.us.tr q4) q5 q6
    by_cases hc0 : c = 0
    · refine wc_R ha l1 (l5 hc0) rfl ?_
      rw [hz]
      exact wp_aNz (wp_pos (by rw [hfull, hc0]; rfl) grow)
    · obtain ⟨m0, m1, m2, m3⟩ := l6 hc0
      refine wc_R ha l1 m1 rfl ?_
      refine wc_aNq hz rfl m2 ?_
      rw [m3]
      exact wp_pos (by rw [hfull]) grow
  · obtain ⟨m0, m1, m2, m3⟩ := l6 (by omega)
    refine wc_R ha l1 m1 rfl ?_
    refine wc_aNq hz rfl m2 ?_
    rw [m3]
    refine wp_neg (fun e => hfull ((nI_eq (by omega) (by omega)).mp e)) ?_
    exact fin E _ c hL0 (by omega) (by omega) Ag.us Mk.rf rfl
/-- take out -/
theorem l_rem {Q : Option Nat → Gh → Prop} (hL : Lst E I a b c xs) (h1 : Nat.beq a 1 = false) (ha : eAd E (a, b, 0) = ad) {ys zs : List Tg} {t : Tg} (hys : xs = ys ++ t :: zs) (hcl : ∀ t ∈ xs, 100 ≤ eKd E t) (kk : ∀ E' I' r, Lst E' I' a b c (ys ++ zs) → Ag a b E I E' I' → Mk E E' c c → eAd E' = eAd E → Q r (E', D, I')) : Wp (f_Jx4a65c_remove_915e3 (some ad) (nI ys.length)) (E, D, I) Q := by
  have hxl : xs.length = ys.length + (zs.length + 1) := by rw [hys, List.length_append, List.length_cons]
  have hget : xs[ys.length]? = some t := by rw [hys, List.getElem?_append_right (Nat.le_refl _), Nat.sub_self]; rfl
  obtain ⟨l1, l2, l3, l4, l5, l6, l7, l8⟩ := id hL
  obtain ⟨m0, m1, m2, m3⟩ := l6 (by omega)
  have hn0 : ((a, b, 0) : Tg) ≠ (a, b, c) := fun q => by have : 0 = c := congrArg (fun t : Tg => t.2.2) q; omega
  unfold f_Jx4a65c_remove_915e3
  refine wc_I ha h1 l1 rfl ?_
  rw [l2]
  refine wp_mb ?_
  unfold f_J15_checkIndex_7cf53
  refine wp_mb ?_
  unfold f_J3_checkIndex_8e157
  refine wp_neg (nI_pos (by omega)) (wp_pos ((nI_ltI (by omega) (by omega)).mpr (by omega)) (wp_mp (wp_mp ?_)))
  refine wc_R ha l1 m1 rfl ?_
  refine wc_aR ys.length rfl m2 rfl (by omega) (by rw [m3]; omega) (l7 _ _ hget) ?_
  refine wc_call ha l1 ?_
  unfold f_Jx4a65c_fastRemove_b59b0
  refine wc_I ha h1 l1 rfl ?_
  refine wc_P ha h1 l1 rfl rfl ?_
  refine wc_I ha h1 l1 rfl ?_
  rw [us_ne (fun q => by cases q.2), l2, hxl, show ys.length + (zs.length + 1) = (ys.length + zs.length) + 1 by omega, nI_pred]
  have fin : ∀ (E2 : Es), eAd E2 = eAd E → eKd E2 = eKd E → eLn E2 = eLn E → (∀ k, eRf E2 (a, b, 0) k = eRf E (a, b, 0) k) → Ag a b E I E2 I → Mk E E2 c c → (∀ i u, (ys ++ zs)[i]? = some u → eRf E2 (a, b, c) i = some u) → Wp (f_Jx4a65c_fastRemove_b59b0_34 (some ad) (some (eAd E (a, b, c))) (nI (ys.length + zs.length))) (E2, D, us I (a, b, 0) 0 (I (a, b, 0) 0 + 1)) (fun r g' => Wp (mp (some (eAd E t))) g' Q) := by
    intro E2 e1 e2 e3 e4 e5 e6 e7
    unfold f_Jx4a65c_fastRemove_b59b0_34
    refine wc_P (t := (a, b, 0)) (by rw [e1]; exact ha) h1 (by rw [e2]; exact l1) rfl rfl ?_
    refine wc_sRn (t := (a, b, c)) (ys.length + zs.length) (by rw [e1]) (by rw [e2]; exact m2) rfl (by omega) (by rw [e3, m3]; omega) ?_
    refine wp_mp (wp_mp (kk _ _ _ (hL.fin e1 e2 e3 (by omega) (fun k => by rw [eR_ne (fun q => hn0 q.1)]; exact e4 k) (by rw [List.length_append]; omega) (by rw [us_eq, List.length_append]) (fun i u hu => ?_)) (((e5.tr Ag.us).tr Ag.us).tr Ag.eR) e6 e1))
    have hlt := (List.getElem?_eq_some_iff.mp hu).1
    rw [List.length_append] at hlt
    rw [eR_ne (fun q => by have := q.2; omega)]
    exact e7 i u hu
  by_cases hz0 : zs.length = 0
  · have : zs = [] := List.eq_nil_of_length_eq_zero hz0
    subst this
    refine wp_pos ((nI_leI (by omega) (by omega)).mpr (by simp)) ?_
    refine fin E rfl rfl rfl (fun _ => rfl) Ag.rf Mk.rf (fun i u hu => l7 i u ?_)
    rw [List.append_nil] at hu
    have hlt := (List.getElem?_eq_some_iff.mp hu).1
    rw [hys, List.getElem?_append_left hlt]
    exact hu
  · refine wp_neg (fun e => by have := (nI_leI (by omega) (by omega)).mp e; omega) ?_
    rw [nI_1, pk_sub (by omega), show ys.length + zs.length - ys.length = zs.length by omega]
    refine wc_cpR (s := (a, b, c)) (t := (a, b, c)) (ci := 0) rfl rfl m2 m2 (by rw [m3]; omega) (by rw [m3]; omega) (by omega) (fun i u hi hu => ?_) ?_
    · have hx : xs[ys.length + 1 + i]? = some xs[ys.length + 1 + i] := List.getElem?_eq_getElem (by omega)
      rw [l7 _ _ hx] at hu
      cases hu
      exact hcl _ (List.getElem_mem _)
    refine fin _ rfl rfl rfl (fun k => if_neg hn0) Ag.eRs Mk.rf (fun i u hu => ?_)
    have hlt := (List.getElem?_eq_some_iff.mp hu).1
    rw [List.length_append] at hlt
    show (if (a, b, c) = (a, b, c) then _ else _) = _
    rw [if_pos rfl]
    by_cases hi : i < ys.length
    · rw [if_neg (fun q => by omega)]
      rw [List.getElem?_append_left hi] at hu
      refine l7 i u ?_
      rw [hys, List.getElem?_append_left hi]
      exact hu
    · rw [if_pos (by omega)]
      rw [List.getElem?_append_right (by omega)] at hu
      refine l7 _ u ?_
      rw [hys, List.getElem?_append_right (by omega), show ys.length + 1 + (i - ys.length) - ys.length = (i - ys.length) + 1 by omega, List.getElem?_cons_succ]
      exact hu
/-- clear -/
theorem l_clear {Q : Unit → Gh → Prop} (hL : Lst E I a b c xs) (h1 : Nat.beq a 1 = false) (ha : eAd E (a, b, 0) = ad) (kk : ∀ E' I', Lst E' I' a b c [] → Ag a b E I E' I' → Mk E E' c c → eAd E' = eAd E → Q () (E', D, I')) : Wp (f_Jx4a65c_clear_da8c8 (some ad)) (E, D, I) Q := by
  obtain ⟨l1, l2, l3, l4, l5, l6, l7, l8⟩ := id hL
  unfold f_Jx4a65c_clear_da8c8
  refine wc_I ha h1 l1 rfl ?_
  refine wc_P ha h1 l1 rfl rfl ?_
  have last : ∀ E2, eAd E2 = eAd E → eKd E2 = eKd E → eLn E2 = eLn E → (∀ k, eRf E2 (a, b, 0) k = eRf E (a, b, 0) k) → Ag a b E I E2 I → Mk E E2 c c → Q () (E2, D, us (us I (a, b, 0) 0 (I (a, b, 0) 0 + 1)) (a, b, 0) 2 0) := fun E2 e1 e2 e3 e4 e5 e6 =>
    kk E2 _ ⟨by rw [e2]; exact l1, us_eq, Nat.zero_le _, l4, fun q => by rw [e4]; exact l5 q, fun q => by
      obtain ⟨m0, m1, m2, m3⟩ := l6 q
      exact ⟨m0, by rw [e4]; exact m1, by rw [e2]; exact m2, by rw [e3]; exact m3⟩, fun i t hi => (by cases hi), fun c' hc' => by rw [e2]; exact l8 c' hc'⟩ ((e5.tr Ag.us).tr Ag.us) e6 e1
  by_cases hc0 : c = 0
  · have hx0 : xs.length = 0 := by omega
    refine wc_R ha l1 (l5 hc0) rfl ?_
    refine wc_I ha h1 l1 rfl ?_
    rw [us_ne (fun q => by cases q.2), l2, hx0]
    refine wc_P ha h1 l1 rfl rfl ?_
    show Wp (f_Jx4a65c_clear_da8c8_27 _ (nI 0) (99999 + 1) 0) _ Q
    rw [f_Jx4a65c_clear_da8c8_27]
    exact wp_pos (by decide) (wp_mp (last E rfl rfl rfl (fun _ => rfl) Ag.rf Mk.rf))
  · obtain ⟨m0, m1, m2, m3⟩ := l6 hc0
    have hn0 : ((a, b, 0) : Tg) ≠ (a, b, c) := fun q => by have : 0 = c := congrArg (fun t : Tg => t.2.2) q; omega
    refine wc_R ha l1 m1 rfl ?_
    refine wc_I ha h1 l1 rfl ?_
    rw [us_ne (fun q => by cases q.2), l2]
    refine wc_P ha h1 l1 rfl rfl ?_
    have key : ∀ (d i fu : Nat) (E2 : Es), d + i = xs.length → d < fu → eAd E2 = eAd E → eKd E2 = eKd E → eLn E2 = eLn E → (∀ k, eRf E2 (a, b, 0) k = eRf E (a, b, 0) k) → Ag a b E I E2 I → Mk E E2 c c → Wp (f_Jx4a65c_clear_da8c8_27 (some (eAd E (a, b, c))) (nI xs.length) fu (nI i)) (E2, D, us (us I (a, b, 0) 0 (I (a, b, 0) 0 + 1)) (a, b, 0) 2 0) Q := by
      intro d
      induction d with
      | zero =>
        intro i fu E2 hi hf e1 e2 e3 e4 e5 e6
        cases fu with
        | zero => exact absurd hf (Nat.not_lt_zero _)
        | succ fu =>
          rw [f_Jx4a65c_clear_da8c8_27]
          exact wp_pos ((nI_leI (by omega) (by omega)).mpr (by omega)) (wp_mp (last E2 e1 e2 e3 e4 e5 e6))
      | succ d ih =>
        intro i fu E2 hi hf e1 e2 e3 e4 e5 e6
        cases fu with
        | zero => exact absurd hf (Nat.not_lt_zero _)
        | succ fu =>
          rw [f_Jx4a65c_clear_da8c8_27]
          refine wp_neg (fun e => by have := (nI_leI (by omega) (by omega)).mp e; omega) ?_
          refine wc_sRn (t := (a, b, c)) i (by rw [e1]) (by rw [e2]; exact m2) rfl (by omega) (by rw [e3, m3]; omega) ?_
          rw [nI_1]
          exact ih (i + 1) fu _ (by omega) (by omega) e1 e2 e3 (fun k => by rw [eR_ne (fun q => hn0 q.1)]; exact e4 k) (e5.tr Ag.eR) e6
    exact key xs.length 0 fuL E (by omega) (fu_ok (by omega)) rfl rfl rfl (fun _ => rfl) Ag.rf Mk.rf
end CM
