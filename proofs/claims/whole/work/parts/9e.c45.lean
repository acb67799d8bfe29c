/-! ===== the class: a filter is made, a link is put into its place ===== -/
section DI1
variable {E : Es} {I : Tg → Nat → Int32} {D : Nat → Nat → Int32} {Z : Nat → Nat}
theorem c_filter {Q : Option Nat → Gh → Prop} {ar nl s : Nat} (hT : TapS E) (ha : eAd E (6, 0, 0) = ar) (h0 : ∀ c, eKd E (17, nl, c) = 0) (h8 : I (6, 0, 0) 8 = nI s) (hs : s < 200) (kk : ∀ E1 I1, (∀ p : Tg → Bool, p (17, nl, 0) = true → p (17, nl, 1) = true → Dif p E I E1 I1) → eKd E1 (17, nl, 0) = 104 → eRf E1 (17, nl, 0) 0 = some (17, nl, 1) → eKd E1 (17, nl, 1) = 2 → eLn E1 (17, nl, 1) = s → (∀ k, k < s → I1 (17, nl, 1) k = I (6, 1, 0) k) → eMc E1 = eMc E + 2 → eMs E1 = eMs E + 1 + s → eCu E1 = eCu E → Q (some (eAd E1 (17, nl, 0))) (E1, D, I1)) : Wp (f_X2_filter (some ar)) (E, D, I) Q := by
  obtain ⟨s1, s2, s3, s4, s5, s6, s7, s8, s9⟩ := id hT
  unfold f_X2_filter
  refine wc_nO (17, nl, 0) rfl (h0 0) rfl rfl (fun E1 I1 d1 q1 q2 q3 q4 q5 q6 => ?_)
  have sc : ∀ a, Nat.beq a 17 = false → SamT a E I E1 I1 := fun a ha => (d1 (fun u => Nat.beq u.1 17) rfl).sam (fun _ _ => ha)
  have t6 := sc 6 rfl 0 0
  have t61 := sc 6 rfl 1 0
  refine wc_R (t := (6, 0, 0)) (by rw [t6.1]; exact ha) (by rw [t6.2.1]; exact s5) (by rw [t6.2.2.2.1]; exact s7) rfl ?_
  refine wc_I (t := (6, 0, 0)) (by rw [t6.1]; exact ha) rfl (by rw [t6.2.1]; exact s5) rfl ?_
  rw [t6.2.2.2.2.2, h8, show (0 : Int32) = nI 0 from rfl, jmx (by omega) (by omega), Nat.max_eq_left (Nat.zero_le _)]
  unfold f_J7_copyOf_59c91
  refine wp_mb ?_
  refine wc_aN (t := (6, 1, 0)) rfl (by rw [t61.2.1]; exact s8) (by omega) ?_
  rw [t61.2.2.1, s9]
  refine wp_neg (fun e => by have := (nI_eq (by omega) (by omega)).mp e; omega) ?_
  have hp : (17, nl, 1) ≠ ((17, nl, 0) : Tg) := by simp
  refine wc_nA (17, nl, 1) (n := s) rfl (by rw [(d1 (fun u => decide (u = (17, nl, 0))) (decide_eq_true rfl) (17, nl, 1) (decide_eq_false hp)).2.1]; exact h0 1) rfl (by omega) rfl (by omega) (fun E2 I2 d2 r1 r2 r3 r4 r5 r6 r7 r8 => ?_)
  have sd : ∀ a, Nat.beq a 17 = false → SamT a E1 I1 E2 I2 := fun a ha => (d2 (fun u => Nat.beq u.1 17) rfl).sam (fun _ _ => ha)
  have u61 := sd 6 rfl 1 0
  have o := d2 (fun u => decide (u = (17, nl, 1))) (decide_eq_true rfl) (17, nl, 0) (decide_eq_false hp.symm)
  have k61 : eKd E2 (6, 1, 0) = 2 := by rw [u61.2.1, t61.2.1]; exact s8
  have l61 : eLn E2 (6, 1, 0) = 200 := by rw [u61.2.2.1, t61.2.2.1]; exact s9
  refine wc_aN (t := (6, 1, 0)) u61.1 k61 (by omega) ?_
  rw [l61, jmn (by omega) (by omega), Nat.min_eq_right (by omega)]
  refine wc_cpI (s := (6, 1, 0)) (t := (17, nl, 1)) u61.1 rfl rfl rfl k61 r1 (by rw [l61]; omega) (by rw [r2]; omega) (by omega) (wp_mp ?_)
  refine wc_call (t := (17, nl, 0)) o.1 (by rw [o.2.1]; exact q1) ?_
  unfold f_X1_init
  refine wc_call (t := (17, nl, 0)) o.1 (by rw [o.2.1]; exact q1) (wp_mp ?_)
  refine wc_PR (t := (17, nl, 0)) (u := (17, nl, 1)) o.1 rfl (by rw [o.2.1]; exact q1) rfl rfl (.inl (by rw [r1]; decide)) (wp_mp (wp_mp ?_))
  rw [← o.1]
  refine kk _ _ (fun p h0 h1 => (((d1 p h0).tr (d2 p h1)).tr (fun u hu => ⟨rfl, rfl, rfl, fun _ => rfl, fun _ => rfl, fun k => if_neg (Dif.ne h1 hu)⟩)).tr (Dif.eR h0)) ?_ eR_eq r1 r2 (fun k hk => ?_) ?_ ?_ ?_
  · show eKd E2 _ = _
    rw [o.2.1]; exact q1
  · show (if ((17, nl, 1) : Tg) = (17, nl, 1) then (fun k => if k < s then I2 (6, 1, 0) k else I2 (17, nl, 1) k) k else _) = _
    rw [if_pos rfl]
    show (if k < s then I2 (6, 1, 0) k else I2 (17, nl, 1) k) = _
    rw [if_pos hk, u61.2.2.2.2.2, t61.2.2.2.2.2]
  · show eMc E2 = _
    rw [r6, q4]
  · show eMs E2 = _
    rw [r7, q5]; rfl
  · show eCu E2 = _
    rw [r8, q6]
theorem sub1 (m : Nat) : nI m - 1 = nI m + (-1) := Int32.sub_eq_add_neg _ _
theorem c_ins {Q : Unit → Gh → Prop} {n c an al o : Nat} {t : Tg} {ys zs : List Tg} (hL : Lst E I 13 n c (ys ++ zs)) (hz : eAd E (0, 0, 0) = Z 0) (han : eAd E (12, n, 0) = an) (hn : eKd E (12, n, 0) = 109) (hr : eRf E (12, n, 0) 3 = some (13, n, 0)) (hal : eAd E t = al) (ht : eKd E t = 107) (ht1 : Nat.beq t.1 1 = false) (ht13 : ¬ (t.1 = 13 ∧ t.2.1 = n)) (hto : I t 3 = nI o) (ho : o < 100) (hle : (ys ++ zs).length ≤ 300) (hel : ∀ u ∈ ys ++ zs, eKd E u = 107 ∧ u.1 = 16) (hys : ∀ u ∈ ys, ∃ v, v < 100 ∧ I u 3 = nI v ∧ v ≤ o) (hzs : ∀ u ∈ zs, ∃ v, v < 100 ∧ I u 3 = nI v ∧ o < v) (kk : ∀ E' I' c', Lst E' I' 13 n c' (ys ++ t :: zs) → c' ≤ max c ((ys ++ zs).length + (ys ++ zs).length + 10) → Ag 13 n E I E' I' → Mk E E' c c' → Q () (E', D, I')) : Wp (f_X6_insert Z (some an) (some al)) (E, D, I) Q := by
  have h16 : ∀ u ∈ ys ++ zs, Nat.beq u.1 1 = false := fun u hu => by rw [(hel u hu).2]; rfl
  have put : Wp (f_X6_insert_54 Z (some an) (some al) (nI ys.length)) (E, D, I) Q := by
    unfold f_X6_insert_54
    refine wc_R han hn hr rfl ?_
    refine wc_call rfl hL.1 ?_
    exact l_ins (ci := 7) hL rfl rfl hz rfl hal ht ht13 (by omega) (fun u hu => by rw [(hel u hu).1]; decide) (fun u hu q => by rw [(hel u hu).2] at q; exact absurd q.1 (by decide)) rfl (fun E' I' c' g1 g2 g3 g4 g5 => wp_mp (kk E' I' c' g1 g2 g3 g4))
  rw [List.length_append] at hle
  have loop : ∀ (k fu : Nat), k ≤ zs.length → k + 1 < fu → Wp (f_X6_insert_18 Z (some an) (some al) fu (nI (ys.length + k)) (nI (ys.length + k) + (-1))) (E, D, I) Q := by
    intro k
    induction k with
    | zero =>
      intro fu hk hf
      obtain ⟨fu, rfl⟩ : ∃ k, fu = k + 1 := ⟨fu - 1, by omega⟩
      rw [f_X6_insert_18, Nat.add_zero]
      cases hy : ys.length with
      | zero =>
        refine wp_pos (by decide) ?_
        rw [hy] at put
        exact put
      | succ m =>
        rw [pk_m1]
        refine wp_neg (nI_pos (by omega)) ?_
        have hm : m < ys.length := by omega
        have hg : (ys ++ zs)[m]? = some ys[m] := by rw [List.getElem?_append_left hm]; exact List.getElem?_eq_getElem hm
        have hmem : ys[m] ∈ ys ++ zs := List.mem_of_getElem? hg
        refine wc_R han hn hr rfl ?_
        refine wc_call rfl hL.1 (l_get hL rfl rfl hg ?_)
        refine wc_ck rfl (hel _ hmem).1 ?_
        refine wc_I rfl (h16 _ hmem) (hel _ hmem).1 rfl ?_
        refine wc_I hal ht1 ht rfl ?_
        obtain ⟨v, hv, ev, hvo⟩ := hys _ (List.getElem_mem hm)
        rw [hto, ev]
        refine wp_neg (fun e => by have := (nI_ltI (by omega) (by omega)).mp e; omega) ?_
        rw [hy] at put
        exact put
    | succ k ih =>
      intro fu hk hf
      obtain ⟨fu, rfl⟩ : ∃ k, fu = k + 1 := ⟨fu - 1, by omega⟩
      rw [f_X6_insert_18, ← Nat.add_assoc, pk_m1]
      refine wp_neg (nI_pos (by omega)) ?_
      have hm : k < zs.length := by omega
      have hg : (ys ++ zs)[ys.length + k]? = some zs[k] := by rw [List.getElem?_append_right (by omega), Nat.add_sub_cancel_left]; exact List.getElem?_eq_getElem hm
      have hmem : zs[k] ∈ ys ++ zs := List.mem_of_getElem? hg
      refine wc_R han hn hr rfl ?_
      refine wc_call rfl hL.1 (l_get hL rfl rfl hg ?_)
      refine wc_ck rfl (hel _ hmem).1 ?_
      refine wc_I rfl (h16 _ hmem) (hel _ hmem).1 rfl ?_
      refine wc_I hal ht1 ht rfl ?_
      obtain ⟨v, hv, ev, hvo⟩ := hzs _ (List.getElem_mem hm)
      rw [hto, ev]
      refine wp_pos ((nI_ltI (by omega) (by omega)).mpr hvo) ?_
      exact ih fu (by omega) (by omega)
  unfold f_X6_insert
  refine wc_R han hn hr rfl ?_
  refine wc_call rfl hL.1 (l_size hL rfl rfl ?_)
  refine wc_R han hn hr rfl ?_
  refine wc_call rfl hL.1 (l_size hL rfl rfl ?_)
  rw [sub1, List.length_append]
  exact loop zs.length fuL (Nat.le_refl _) (fu_ok (by omega))
end DI1
