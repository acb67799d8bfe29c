/-! ===== lists ===== -/
/-- what an adding makes -/
def Mk (E E' : Es) (c c' : Nat) : Prop := eMc E' + c ≤ eMc E + c' ∧ eMs E' + 4 * c ≤ eMs E + 4 * c' ∧ eCu E' = eCu E ∧ c ≤ c'
theorem Mk.rf {E : Es} {c : Nat} : Mk E E c c := ⟨Nat.le_refl _, Nat.le_refl _, rfl, Nat.le_refl _⟩
theorem Mk.tr {E E' E'' : Es} {c c' c'' : Nat} (h : Mk E E' c c') (h2 : Mk E' E'' c' c'') : Mk E E'' c c'' := by
  obtain ⟨a1, a2, a3, a4⟩ := h
  obtain ⟨b1, b2, b3, b4⟩ := h2
  exact ⟨by omega, by omega, b3.trans a3, by omega⟩
section CL
variable {E : Es} {D : Nat → Nat → Int32} {I : Tg → Nat → Int32} {a b c ad : Nat} {xs : List Tg} {Z : Nat → Nat}
theorem l_size {Q : Int32 → Gh → Prop} (hL : Lst E I a b c xs) (h1 : Nat.beq a 1 = false) (ha : eAd E (a, b, 0) = ad) (kk : Q (nI xs.length) (E, D, I)) : Wp (f_Jx4a65c_size_8abf5 (some ad)) (E, D, I) Q := by
  unfold f_Jx4a65c_size_8abf5
  refine wc_I ha h1 hL.1 rfl ?_
  rw [hL.2.1]
  exact wp_mp kk
theorem l_get {Q : Option Nat → Gh → Prop} (hL : Lst E I a b c xs) (h1 : Nat.beq a 1 = false) (ha : eAd E (a, b, 0) = ad) {i : Nat} {t : Tg} (hi : xs[i]? = some t) (kk : Q (some (eAd E t)) (E, D, I)) : Wp (f_Jx4a65c_get_915e3 (some ad) (nI i)) (E, D, I) Q := by
  have hlt := (List.getElem?_eq_some_iff.mp hi).1
  obtain ⟨l1, l2, l3, l4, l5, l6, l7, l8⟩ := hL
  obtain ⟨m0, m1, m2, m3⟩ := l6 (by omega)
  unfold f_Jx4a65c_get_915e3
  refine wc_I ha h1 l1 rfl ?_
  rw [l2]
  refine wp_mb ?_
  unfold f_J15_checkIndex_7cf53
  refine wp_mb ?_
  unfold f_J3_checkIndex_8e157
  refine wp_neg (nI_pos (by omega)) (wp_pos ((nI_ltI (by omega) (by omega)).mpr hlt) (wp_mp (wp_mp ?_)))
  refine wc_call ha l1 ?_
  unfold f_Jx4a65c_elementData_915e3
  refine wc_R ha l1 m1 rfl ?_
  refine wc_aR i rfl m2 rfl (by omega) (by rw [m3]; omega) (l7 i t hi) ?_
  exact wp_mp (wp_mp kk)
/-- a list with its row kept or grown -/
theorem Lst.cap {c2 : Nat} {E2 : Es} {I2 : Tg → Nat → Int32} (hL : Lst E I a b c xs) : xs.length ≤ c := hL.2.2.1
theorem jmx {x y : Nat} (hx : x < 2 ^ 31) (hy : y < 2 ^ 31) : jMx (nI x) (nI y) = nI (max x y) := by
  unfold jMx
  by_cases h : x < y
  · rw [if_pos ((nI_ltI hx hy).mpr h), Nat.max_eq_right (by omega)]
  · rw [if_neg (fun e => h ((nI_ltI hx hy).mp e)), Nat.max_eq_left (by omega)]
theorem jmn {x y : Nat} (hx : x < 2 ^ 31) (hy : y < 2 ^ 31) : jMn (nI x) (nI y) = nI (min x y) := by
  unfold jMn
  by_cases h : y < x
  · rw [if_pos ((nI_ltI hy hx).mpr h), Nat.min_eq_right (by omega)]
  · rw [if_neg (fun e => h ((nI_ltI hy hx).mp e)), Nat.min_eq_left (by omega)]
/-- the row grows: all as before, the capacity greater -/
theorem l_grow {Q : Option Nat → Gh → Prop} (hL : Lst E I a b c xs) (h1 : Nat.beq a 1 = false) (h0 : Nat.beq a 0 = false) (hz : eAd E (0, 0, 0) = Z 0) (ha : eAd E (a, b, 0) = ad) (hfull : xs.length = c) (hc : c ≤ 500) (hcl : ∀ t ∈ xs, 100 ≤ eKd E t) (kk : ∀ E' I' c', Lst E' I' a b c' xs → c < c' → c' ≤ c + c + 10 → Ag a b E I E' I' → Mk E E' c c' → eAd E' (a, b, 0) = eAd E (a, b, 0) → Q (some (eAd E' (a, b, c'))) (E', D, I')) : Wp (f_Jx4a65c_grow_d5877 Z (some ad)) (E, D, I) Q := by
  obtain ⟨l1, l2, l3, l4, l5, l6, l7, l8⟩ := id hL
  have ha1 : a ≠ 1 := Nat.ne_of_beq_eq_false h1
  have ha0 : a ≠ 0 := Nat.ne_of_beq_eq_false h0
  unfold f_Jx4a65c_grow_d5877
  refine wc_I ha h1 l1 rfl ?_
  rw [l2, hfull, nI_1]
  refine wc_call ha l1 ?_
  unfold f_Jx4a65c_grow_92f84
  by_cases hc0 : c = 0
  · subst hc0
    have hr := l5 rfl
    have hxs : xs = [] := List.eq_nil_of_length_eq_zero hfull
    subst hxs
    refine wc_R ha l1 hr rfl ?_
    rw [hz]
    refine wp_aNz (wp_neg (by decide) ?_)
    refine wc_R ha l1 hr rfl ?_
    rw [hz]
    refine wp_pos rfl ?_
    have e10 : jMx (10 : Int32) (nI (0 + 1)) = nI 10 := by decide
    rw [e10]
    have hcl10 : (nI 10).toNatClampNeg = 10 := nI_clamp (by omega)
    refine wp_nA (a, b, 10) ha1 (l8 10 (by omega)) (fun e => ha0 (congrArg Prod.fst e)) (by omega) (nI_pos (by omega)) (by rw [hcl10]; omega) ?_
    rw [hcl10]
    generalize hE1 : eNew E (a, b, 10) (4 + 1) 10 10 = E1
    have hne : ((a, b, 0) : Tg) ≠ (a, b, 10) := by simp
    have n1 : eAd E1 (a, b, 0) = eAd E (a, b, 0) ∧ eKd E1 (a, b, 0) = eKd E (a, b, 0) := by subst hE1; exact ⟨if_neg hne, if_neg hne⟩
    have n2 : eKd E1 (a, b, 10) = 5 ∧ eLn E1 (a, b, 10) = 10 := by subst hE1; exact ⟨if_pos rfl, if_pos rfl⟩
    have hA1 : Ag a b E I E1 (uI I (a, b, 10) (fun _ => 0)) := by subst hE1; exact Ag.nw
    refine wc_PR (t := (a, b, 0)) (u := (a, b, 10)) (by rw [n1.1]; exact ha) rfl (by rw [n1.2]; exact l1) rfl rfl (.inl (by rw [n2.1]; omega)) ?_
    refine wp_mp (wp_mp (kk _ _ 10 ⟨?_, ?_, by simp, by omega, fun h => absurd h (by omega), fun _ => ⟨by omega, eR_eq, n2.1, n2.2⟩, fun i t hi => (by cases hi), fun c' hc' => ?_⟩ (by omega) (by omega) (hA1.tr Ag.eR) ⟨?_, ?_, ?_, by omega⟩ n1.1))
    · show eKd E1 (a, b, 0) = _
      rw [n1.2]; exact l1
    · show uI I (a, b, 10) (fun _ => 0) (a, b, 0) 2 = _
      unfold uI
      rw [if_neg hne]
      exact l2
    · have hc' : 10 < c' := hc'
      have hne2 : ((a, b, c') : Tg) ≠ (a, b, 10) := fun q => by have : c' = 10 := congrArg (fun t : Tg => t.2.2) q; omega
      show eKd E1 (a, b, c') = 0
      rw [← hE1]
      exact (if_neg hne2).trans (l8 c' (by omega))
    · subst hE1
      show eMc E + 1 + 0 ≤ eMc E + 10
      omega
    · subst hE1
      show eMs E + 10 + 4 * 0 ≤ eMs E + 4 * 10
      omega
    · subst hE1
      rfl
  · obtain ⟨m0, m1, m2, m3⟩ := l6 hc0
    refine wc_R ha l1 m1 rfl ?_
    refine wc_aNq hz rfl m2 ?_
    rw [m3]
    refine wp_pos ((nI_ltI (a := 0) (by omega) (by omega)).mpr (by omega)) ?_
    unfold f_Jx4a65c_grow_92f84_20
    refine wp_mb ?_
    unfold f_J8_newLength_cabcc
    have e1 : nI (c + 1) - nI c = nI 1 := by rw [pk_sub (by omega), show c + 1 - c = 1 by omega]
    have e2 : nI c >>> ((1 : Int32) &&& 31) = nI (c / 2) := pk_shrN (by omega) _ 1 (by decide)
    have e3 : nI c + jMx (nI 1) (nI (c / 2)) = nI (c + c / 2) := by rw [jmx (by omega) (by omega), nI_add, Nat.max_eq_right (by omega)]
    rw [e1, e2, e3]
    refine wp_neg (nI_nle (by omega) (by omega)) (wp_neg (fun e => by have := (nI_ltI (a := 2147483639) (by omega) (by omega)).mp e; omega) (wp_mp ?_))
    refine wc_R ha l1 m1 rfl ?_
    refine wp_mb ?_
    unfold f_J7_copyOf_1904c
    refine wp_mb (fun h r => ⟨some (Z 2), h, 0, 0, (E, D, I), ?_, r, rfl, rfl, ?_⟩)
    · unfold gC
      rw [p_ar (g := (E, D, I)) (u := 4) r m2 (by omega)]
    unfold f_J7_copyOf_6403c
    refine wp_mb (wp_pos rfl ?_)
    have hcc : (nI (c + c / 2)).toNatClampNeg = c + c / 2 := nI_clamp (by omega)
    refine wp_nA (a, b, c + c / 2) ha1 (l8 _ (by omega)) (fun e => ha0 (congrArg Prod.fst e)) (by omega) (nI_pos (by omega)) (by rw [hcc]; omega) ?_
    rw [hcc]
    generalize hE1 : eNew E (a, b, c + c / 2) (4 + 1) (c + c / 2) (c + c / 2) = E1
    have hne : ∀ x, x ≠ c + c / 2 → ((a, b, x) : Tg) ≠ (a, b, c + c / 2) := fun x hx q => hx (congrArg (fun t : Tg => t.2.2) q)
    have n1 : ∀ u : Tg, u ≠ (a, b, c + c / 2) → eAd E1 u = eAd E u ∧ eKd E1 u = eKd E u ∧ eLn E1 u = eLn E u ∧ (∀ k, eRf E1 u k = eRf E u k) := fun u hu => by subst hE1; exact ⟨if_neg hu, if_neg hu, if_neg hu, fun _ => if_neg hu⟩
    have n2 : eKd E1 (a, b, c + c / 2) = 5 ∧ eLn E1 (a, b, c + c / 2) = c + c / 2 ∧ ∀ k, eRf E1 (a, b, c + c / 2) k = none := by subst hE1; exact ⟨if_pos rfl, if_pos rfl, fun _ => if_pos rfl⟩
    have n3 : eMc E1 = eMc E + 1 ∧ eMs E1 = eMs E + (c + c / 2) ∧ eCu E1 = eCu E := by subst hE1; exact ⟨rfl, rfl, rfl⟩
    have hA1 : Ag a b E I E1 (uI I (a, b, c + c / 2) (fun _ => 0)) := by subst hE1; exact Ag.nw
    have q0 := n1 (a, b, 0) (hne 0 (by omega))
    have qc := n1 (a, b, c) (hne c (by omega))
    unfold f_J7_copyOf_6403c_24
    refine wc_aNq (t := (a, b, c)) (by rw [(n1 (0, 0, 0) (fun e => ha0 (congrArg Prod.fst e).symm)).1]; exact hz) qc.1 (by rw [qc.2.1]; exact m2) ?_
    rw [qc.2.2.1, m3, jmn (by omega) (by omega), Nat.min_eq_left (by omega)]
    refine wc_cpR (s := (a, b, c)) (t := (a, b, c + c / 2)) (sp := 0) (dp := 0) (n := c) (ci := 0) qc.1 rfl (by rw [qc.2.1]; exact m2) n2.1 (by rw [qc.2.2.1, m3]; omega) (by rw [n2.2.1]; omega) (by omega) (fun i u hi hu => ?_) ?_
    · rw [qc.2.2.2, Nat.zero_add] at hu
      have hx : xs[i]? = some xs[i] := List.getElem?_eq_getElem (by omega)
      rw [l7 i _ hx] at hu
      cases hu
      have hk := hcl xs[i] (List.getElem_mem _)
      have hn9 : xs[i] ≠ (a, b, c + c / 2) := fun q => by
        rw [q, l8 _ (by omega)] at hk
        omega
      rw [(n1 _ hn9).2.1]
      exact hk
    generalize hE2 : eRs E1 (a, b, c + c / 2) (fun k => if 0 ≤ k ∧ k < 0 + c then eRf E1 (a, b, c) (0 + (k - 0)) else eRf E1 (a, b, c + c / 2) k) = E2
    refine wp_mp (wp_mp ?_)
    have s1 : eAd E2 = eAd E1 ∧ eKd E2 = eKd E1 ∧ eLn E2 = eLn E1 ∧ eMc E2 = eMc E1 ∧ eMs E2 = eMs E1 ∧ eCu E2 = eCu E1 := by subst hE2; exact ⟨rfl, rfl, rfl, rfl, rfl, rfl⟩
    have s2 : ∀ k, eRf E2 (a, b, c + c / 2) k = if k < c then eRf E (a, b, c) k else none := fun k => by
      subst hE2
      show (if (a, b, c + c / 2) = (a, b, c + c / 2) then _ else _) = _
      rw [if_pos rfl, n2.2.2, Nat.zero_add, Nat.sub_zero, Nat.zero_add, qc.2.2.2]
      by_cases q : k < c
      · rw [if_pos ⟨Nat.zero_le _, q⟩, if_pos q]
      · rw [if_neg (fun z => q z.2), if_neg q]
    have s3 : ∀ k, eRf E2 (a, b, 0) k = eRf E (a, b, 0) k := fun k => by
      subst hE2
      show (if (a, b, 0) = (a, b, c + c / 2) then _ else eRf E1 (a, b, 0) k) = _
      rw [if_neg (hne 0 (by omega))]
      exact q0.2.2.2 k
    have hA2 : Ag a b E I E2 (uI I (a, b, c + c / 2) (fun _ => 0)) := hA1.tr (by subst hE2; exact Ag.eRs)
    refine wc_PR (t := (a, b, 0)) (u := (a, b, c + c / 2)) (by rw [s1.1, q0.1]; exact ha) (by rw [s1.1]) (by rw [s1.2.1, q0.2.1]; exact l1) rfl rfl (.inl (by rw [s1.2.1, n2.1]; omega)) ?_
    rw [show eAd E1 (a, b, c + c / 2) = eAd (eR E2 (a, b, 0) 1 (some (a, b, c + c / 2))) (a, b, c + c / 2) from (congrFun s1.1 _).symm]
    refine wp_mp (wp_mp (kk _ _ (c + c / 2) ⟨?_, ?_, by omega, by omega, fun h => absurd h (by omega), fun _ => ⟨by omega, eR_eq, ?_, ?_⟩, fun i t hi => ?_, fun c' hc' => ?_⟩ (by omega) (by omega) (hA2.tr Ag.eR) ⟨?_, ?_, ?_, by omega⟩ ?_))
    · show eKd E2 (a, b, 0) = _
      rw [s1.2.1, q0.2.1]; exact l1
    · show uI I (a, b, c + c / 2) (fun _ => 0) (a, b, 0) 2 = _
      unfold uI
      rw [if_neg (hne 0 (by omega))]
      exact l2
    · show eKd E2 (a, b, c + c / 2) = _
      rw [s1.2.1]; exact n2.1
    · show eLn E2 (a, b, c + c / 2) = _
      rw [s1.2.2.1]; exact n2.2.1
    · have hlt := (List.getElem?_eq_some_iff.mp hi).1
      rw [eR_ne (fun q => by have : c + c / 2 = 0 := congrArg (fun t : Tg => t.2.2) q.1; omega), s2, if_pos (by omega)]
      exact l7 i t hi
    · show eKd E2 (a, b, c') = 0
      have hc' : c + c / 2 < c' := hc'
      rw [s1.2.1, (n1 _ (hne c' (by omega))).2.1]
      exact l8 c' (by omega)
    · show eMc E2 + c ≤ eMc E + (c + c / 2)
      rw [s1.2.2.2.1, n3.1]; omega
    · show eMs E2 + 4 * c ≤ eMs E + 4 * (c + c / 2)
      rw [s1.2.2.2.2.1, n3.2.1]; omega
    · show eCu E2 = eCu E
      rw [s1.2.2.2.2.2, n3.2.2]
    · show eAd E2 (a, b, 0) = _
      rw [s1.1, q0.1]
end CL
