/-! ===== the class: a node is moved ===== -/
section CP
variable {E E' : Es} {D : Nat → Nat → Int32} {I I' : Tg → Nat → Int32} {Z : Nat → Nat} {nn nm ng ns nl nc ax ao cap n up : Nat} {v : Option Tg}
theorem e12 {a b c j : Nat} (h : Nat.beq a 12 = false) : eRf (eR E (12, n, 0) 1 v) (a, b, c) j = eRf E (a, b, c) j := eR_ne (fun q => by
  have : a = 12 := congrArg Prod.fst q.1
  subst this
  cases h)
theorem Lst.n12 {a b c : Nat} {xs : List Tg} (ha : Nat.beq a 12 = false) (h : Lst E I a b c xs) : Lst (eR E (12, n, 0) 1 v) I a b c xs := h.cg (fun _ => rfl) (fun _ => rfl) (fun _ _ => e12 ha) rfl
theorem StaC.n12 (h : StaC E Z ax ao) : StaC (eR E (12, n, 0) 1 v) Z ax ao := by
  have ea : eAd (eR E (12, n, 0) 1 v) = eAd E := rfl
  have ek : eKd (eR E (12, n, 0) 1 v) = eKd E := rfl
  have el : eLn (eR E (12, n, 0) 1 v) = eLn E := rfl
  unfold StaC TreS GrpS TapS RowS OutS at h ⊢
  simp only [ea, ek, el, e12 (a := 2) rfl, e12 (a := 4) rfl, e12 (a := 5) rfl, e12 (a := 6) rfl, e12 (a := 7) rfl, e12 (a := 10) rfl, e12 (a := 11) rfl]
  exact h
theorem CScr.n12 (h : CScr E I) : CScr (eR E (12, n, 0) 1 v) I := fun r hr => by
  obtain ⟨⟨c, xs, h1, h2⟩, d, ys, h3, h4⟩ := h r hr
  exact ⟨⟨c, xs, h1, h2.n12 rfl⟩, d, ys, h3, h4.n12 rfl⟩
theorem RowW.n12 {r lane m : Nat} {st : Int32} {w : List Nat} (h : RowW E I D nl r st lane m w) : RowW (eR E (12, n, 0) 1 v) I D nl r st lane m w := by
  obtain ⟨⟨⟨c8, k8, h8⟩, ⟨c9, k9, h9⟩, hs⟩, hw⟩ := h
  exact ⟨⟨⟨c8, k8, h8.n12 rfl⟩, ⟨c9, k9, h9.n12 rfl⟩, hs⟩, hw⟩
theorem pot12 : pot (eR E (12, n, 0) 1 v) = pot E := by
  unfold pot
  rw [capO_eq (e12 rfl), capO_eq (e12 rfl), capO_eq (e12 rfl), capO_eq (e12 rfl)]
/-- the data, with another above -/
theorem DatC.n12 (h : DatC E I D nn nm ns nl) (hup : up < nn) (h60 : nn ≤ 60) : DatA (eR E (12, n, 0) 1 (some (12, up, 0))) I D nn ns nl (ds D 1 n (nI up) 1) := by
  obtain ⟨a1, a2, a3, a4⟩ := h.a
  refine ⟨fun i hi => ⟨(a1 i hi).1, ?_⟩, fun i hi => ?_, fun s hs => ?_, fun l hl => ?_⟩
  · by_cases e : i = n
    · subst e
      rw [eR_eq, ds_eq, upT_nI (by omega)]
    · rw [eR_ne (fun q => e (congrArg (fun t : Tg => t.2.1) q.1)), ds_ne (fun q => e q.2)]
      exact (a1 i hi).2
  · obtain ⟨q1, q2, q3, c, q4⟩ := a2 i hi
    exact ⟨q1, q2, by rw [eR_ne (fun q => absurd q.2 (by decide))]; exact q3, c, q4.n12 rfl⟩
  · obtain ⟨q1, q2, q3⟩ := a3 s hs
    exact ⟨q1, by rw [e12 rfl]; exact q2, q3⟩
  · obtain ⟨q1, q2, q3, q4, q5, q6, q7, q8, q9, q10, q11⟩ := a4 l hl
    exact ⟨q1, q2, by rw [e12 rfl]; exact q3, by rw [e12 rfl]; exact q4, q5, q6, q7, by rw [e12 rfl]; exact q8, q9, by rw [e12 rfl]; exact q10, q11⟩
/-- the moved tree's outcome, in the words of the tree as it was -/
theorem ocD_mv {s m : Nat} {yes but : Int32} : ocD (ds D 1 n (nI up)) nl s m yes but = oc (D 13 s) (psD D s (rowK D nl m yes but (wy (ds D 1 n (nI up) 1) 61 (D 4 m)))) := by
  have e : ∀ j, j ≠ 1 → ds D 1 n (nI up) j = D j := fun j hj => ds_row hj
  have h1 : tlD (ds D 1 n (nI up)) s = tlD D s := by
    funext l
    unfold tlD
    rw [e 10 (by decide), e 25 (by decide)]
  have h2 : vlD (ds D 1 n (nI up)) s = vlD D s := by
    funext l
    unfold vlD
    rw [e 11 (by decide), e 25 (by decide)]
  have h3 : ∀ w, kpB (ds D 1 n (nI up)) m yes but w = kpB D m yes but w := fun w => by
    funext l
    unfold kpB
    rw [e 8 (by decide), e 6 (by decide), e 21 (by decide), e 29 (by decide), e 30 (by decide)]
  unfold ocD psD rowK
  rw [h1, h2, h3, e 13 (by decide), e 4 (by decide), e 2 (by decide), e 31 (by decide), e 24 (by decide), e 27 (by decide), e 28 (by decide)]
theorem tk_all (hDI : DI cap D nn nm ng ns nl nc) {s : Nat} (hs : s < 12) : ∀ l, tlD D s l = true → tkB D 4095 l = true := by
  intro l h
  unfold tkB
  refine decide_eq_true (fun q => bt_az.mp q s (by omega) ⟨h, ?_⟩)
  have : ∀ s, s < 12 → bt 4095 s = true := by decide
  exact this s hs
theorem rowT_mv (hDI : DI cap D nn nm ng ns nl nc) {wu w : List Nat} {x : Int32} {st : Int32} (hu : Chn (D 1) nn wu (nI up)) (hnu : n ∉ wu) (hw : Chn (ds D 1 n (nI up) 1) nn w x) : (∀ l ∈ rowT D nl st w, l < nl) ∧ (rowT D nl st w).length ≤ 100 := by
  have e : ∀ j, j ≠ 1 → ds D 1 n (nI up) j = D j := fun j hj => ds_row hj
  have h := rowT_len (st := st) (hDI.move hu hnu) hw
  have e2 : rowT (ds D 1 n (nI up)) nl st w = rowT D nl st w := by
    rw [rowT_eq, rowT_eq]
    have : tkB (ds D 1 n (nI up)) st = tkB D st := by
      funext l
      unfold tkB
      rw [e 10 (by decide), e 25 (by decide)]
    rw [this]
    unfold rowD rowA
    rw [e 2 (by decide), e 31 (by decide), e 24 (by decide), e 27 (by decide), e 28 (by decide)]
  rw [e2] at h
  exact h
theorem chgL_snoc {D1 : Nat → Nat → Int32} {m s : Nat} : chgL D D1 nl m (List.range' 0 (s + 1)) = chgL D D1 nl m (List.range' 0 s) + (if mvF D nl m s = mvF D1 nl m s then 0 else 1) := by
  unfold chgL
  rw [List.range'_1_concat, List.filter_append, List.length_append, Nat.zero_add]
  congr 1
  unfold chgB
  by_cases h : mvF D nl m s = mvF D1 nl m s
  · rw [List.filter_cons_of_neg (by rw [decide_eq_false (fun q => q h)]; decide), if_pos h]; rfl
  · rw [List.filter_cons_of_pos (by rw [decide_eq_true h]), if_neg h]; rfl
theorem chgL_len {D1 : Nat → Nat → Int32} {m s : Nat} : chgL D D1 nl m (List.range' 0 s) ≤ s := by
  unfold chgL
  exact Nat.le_trans (List.length_filter_le _ _) (by rw [List.length_range']; omega)
theorem c_cm_107 {Q : Int32 → Gh → Prop} {m : Nat} {wu w w' : List Nat} (hDI : DI cap D nn nm ng ns nl nc) (hm : m < nm) (hwy : wy (D 1) 61 (D 4 m) = w) (hwy' : wy (ds D 1 n (nI up) 1) 61 (D 4 m) = w') (hlen : (∀ l ∈ rowT D nl 4095 w, l < nl) ∧ (rowT D nl 4095 w).length ≤ 100) (hlen' : (∀ l ∈ rowT D nl 4095 w', l < nl) ∧ (rowT D nl 4095 w').length ≤ 100) {E0 : Es} {I0 : Tg → Nat → Int32} (kk : ∀ E' I', Qk E0 I0 E' I' → Q (nI (chgL D (ds D 1 n (nI up)) nl m (List.range' 0 12))) (E', D, I')) : ∀ (d s fu : Nat) (E : Es) (I : Tg → Nat → Int32), d + s = 12 → d < fu → Qk E0 I0 E I → Cst E I D Z ax ao cap nn nm ng ns nl nc → RowW E I D nl 0 4095 0 m w → RowW E I D nl 1 4095 0 m w' → Wp (f_X11_countMoved_107 Z (some ax) fu (nI (chgL D (ds D 1 n (nI up)) nl m (List.range' 0 s))) (nI s)) (E, D, I) Q := by
  intro d
  induction d with
  | zero =>
    intro s fu E I hd hf hQ hc hW hW'
    cases fu with
    | zero => exact absurd hf (Nat.not_lt_zero _)
    | succ fu =>
      obtain ⟨⟨-, hax, -⟩, t0, -, -, -, -, -, t5, -, -, -, -, -, -, -, ⟨kl, kn⟩, -⟩ := id hc.1.1
      rw [f_X11_countMoved_107]
      refine wc_R hax t0 t5 rfl ?_
      refine wc_aN rfl kl (by omega) ?_
      rw [kn]
      have e : s = 12 := by omega
      subst e
      exact wp_pos ((nI_leI (by omega) (by omega)).mpr (Nat.le_refl _)) (wp_mp (kk E I hQ))
  | succ d ih =>
    intro s fu E I hd hf hQ hc hW hW'
    cases fu with
    | zero => exact absurd hf (Nat.not_lt_zero _)
    | succ fu =>
      have hs12 : s < 12 := by omega
      obtain ⟨⟨-, hax, -⟩, t0, -, -, -, -, -, t5, -, -, -, -, -, -, -, ⟨kl, kn⟩, -⟩ := id hc.1.1
      rw [f_X11_countMoved_107]
      unfold f_X11_countMoved_178
      refine wc_R hax t0 t5 rfl ?_
      refine wc_aN rfl kl (by omega) ?_
      rw [kn]
      refine wp_neg (fun e => by have := (nI_leI (by omega) (by omega)).mp e; omega) ?_
      refine c_rdS (r := 0) (q := 0) (b := 0) (wo := none) (but := -1) (by omega) (by omega) hc.1 hc.2.2.1 hc.2.1.a hDI.rowD (hc.2.1.2.2.2.1.2.2.2 s hs12) (hDI.2.2.2.1.2.2.2.2.2 s) hs12 (by omega) rfl (fun l h => by cases h) (fun l h => m1_l h) (tk_all hDI hs12) (rowD_100 hDI) hlen.1 hlen.2 hW (fun E1 I1 q1 q2 q3 => ?_)
      have hc1 := hc.qk q2
      refine c_rdS (r := 1) (q := 1) (b := 0) (wo := none) (but := -1) (by omega) (by omega) hc1.1 hc1.2.2.1 hc1.2.1.a hDI.rowD (hc1.2.1.2.2.2.1.2.2.2 s hs12) (hDI.2.2.2.1.2.2.2.2.2 s) hs12 (by omega) rfl (fun l h => by cases h) (fun l h => m1_l h) (tk_all hDI hs12) (rowD_100 hDI) hlen'.1 hlen'.2 (hW'.o q1) (fun E2 I2 r1 r2 r3 => ?_)
      have hc2 := hc1.qk r2
      rw [yG_0] at q3 r3
      refine wc_R hc2.1.1.1.2.1 hc2.1.1.2.1 (hc2.1.1.outR (r := 0) (by omega)).1 rfl ?_
      refine wc_R hc2.1.1.1.2.1 hc2.1.1.2.1 (hc2.1.1.outR (r := 1) (by omega)).1 rfl ?_
      refine wc_call rfl (hc2.1.2.2.2.2 0 (by omega)).1 (c_isSame (hc2.1.2.2.2.2 0 (by omega)) (hc2.1.2.2.2.2 1 (by omega)) (q3.oth r1 (by decide)) r3 rfl rfl ?_)
      have m1 : (oc (D 13 s) (psD D s (rowK D nl m (yesO (D 5) m 8) (-1) w))).1 = mvF D nl m s := by
        unfold mvF ocD
        rw [hwy]
      have m2 : (oc (D 13 s) (psD D s (rowK D nl m (yesO (D 5) m 8) (-1) w'))).1 = mvF (ds D 1 n (nI up)) nl m s := by
        unfold mvF
        rw [ocD_mv, hwy', ds_row (by decide)]
      rw [m1, m2]
      have hsn := chgL_snoc (D := D) (nl := nl) (D1 := ds D 1 n (nI up)) (m := m) (s := s)
      have hW2 := (hW.o q1).o r1
      have hW2' := (hW'.o q1).o r1
      by_cases hsm : mvF D nl m s = mvF (ds D 1 n (nI up)) nl m s
      · rw [decide_eq_true hsm]
        refine wp_neg (by decide) ?_
        rw [if_pos hsm] at hsn
        have h2 := ih (s + 1) fu E2 I2 (by omega) (by omega) ((hQ.tr q2).tr r2) hc2 hW2 hW2'
        rw [hsn] at h2
        rw [nI_1]
        exact h2
      · rw [decide_eq_false hsm]
        refine wp_pos rfl ?_
        rw [if_neg hsm] at hsn
        have h2 := ih (s + 1) fu E2 I2 (by omega) (by omega) ((hQ.tr q2).tr r2) hc2 hW2 hW2'
        rw [hsn] at h2
        rw [nI_1, nI_1]
        exact h2
end CP
