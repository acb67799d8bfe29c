/-! ===== the class: what a link reaches ===== -/
def PaiC (I : Tg → Nat → Int32) (L : List (Nat × Nat)) : Prop := ∀ i p, L[i]? = some p → I (2, 2, 0) i = nI (12 * p.1 + p.2)
theorem pair_n : ∀ m, m < 60 → ∀ s, s < 12 → nI m * (12 : Int32) + nI s = nI (12 * m + s) := by decide +kernel
section CL
variable {E E' : Es} {D : Nat → Nat → Int32} {I I' : Tg → Nat → Int32} {Z : Nat → Nat} {nn nm ng ns nl nc ax ao cap m s l : Nat}
theorem Qk.p {k : Nat} {v : Int32} (hC : CScr E I) : Qk E I E (us I (2, 2, 0) k v) := by
  refine ⟨FrQ.us (.inr (.inr rfl)), fun r hr => ?_, Mk.rf⟩
  obtain ⟨⟨c, xs, h1, h2⟩, d, ys, h3, h4⟩ := hC r hr
  exact ⟨⟨c, xs, h1, h2.cg (fun _ => rfl) (fun _ => rfl) (fun _ _ => rfl) (us_ne (by simp))⟩, d, ys, h3, h4.cg (fun _ => rfl) (fun _ => rfl) (fun _ _ => rfl) (us_ne (by simp))⟩
theorem RowW.p {k r lane : Nat} {v st : Int32} {w : List Nat} (h : RowW E I D nl r st lane m w) : RowW E (us I (2, 2, 0) k v) D nl r st lane m w := by
  obtain ⟨⟨⟨c8, k8, h8⟩, ⟨c9, k9, h9⟩, s1, s2, s3, s4⟩, hw⟩ := h
  refine ⟨⟨⟨c8, k8, h8.cg (fun _ => rfl) (fun _ => rfl) (fun _ _ => rfl) (us_ne (by simp))⟩, ⟨c9, k9, h9.cg (fun _ => rfl) (fun _ => rfl) (fun _ _ => rfl) (us_ne (by simp))⟩, ?_⟩, hw⟩
  unfold StdM
  rw [us_ne (by simp), us_ne (by simp), us_ne (by simp)]
  exact ⟨s1, s2, s3, s4⟩
theorem rchL_snoc {s : Nat} : rchL D nl l m (List.range' 0 (s + 1)) = rchL D nl l m (List.range' 0 s) ++ (if rchB D nl l m s then [(m, s)] else []) := by
  unfold rchL
  rw [List.range'_1_concat, List.filter_append, List.map_append, Nat.zero_add]
  congr 1
  cases h : rchB D nl l m s with
  | true => rw [List.filter_cons_of_pos h]; rfl
  | false => rw [List.filter_cons_of_neg (by rw [h]; decide)]; rfl
theorem rchL_len {s : Nat} : (rchL D nl l m (List.range' 0 s)).length ≤ s := by
  unfold rchL
  rw [List.length_map]
  exact Nat.le_trans (List.length_filter_le _ _) (by rw [List.length_range']; omega)
theorem tk_told (hs : tlD D s l = true) : ∀ l', tlD D s l' = true → tkB D (D 10 (D 25 l).toNatClampNeg) l' = true := by
  intro l' h
  unfold tkB
  refine decide_eq_true (fun q => ?_)
  by_cases h32 : s < 32
  · exact bt_az.mp q s h32 ⟨h, hs⟩
  · unfold tlD at h
    rw [b_big (by omega)] at h
    cases h
theorem c_addReach {Q : Int32 → Gh → Prop} {w : List Nat} {done : List (Nat × Nat)} (hDI : DI cap D nn nm ng ns nl nc) (hl : l < nl) (hm : m < nm) (hwy : wy (D 1) 61 (D 4 m) = w) (hin : (D 24 l).toNatClampNeg ∈ w) (hlen : (∀ l' ∈ rowT D nl (D 10 (D 25 l).toNatClampNeg) w, l' < nl) ∧ (rowT D nl (D 10 (D 25 l).toNatClampNeg) w).length ≤ 100) (hdone : done.length ≤ 12 * m) {E0 : Es} {I0 : Tg → Nat → Int32} (kk : ∀ E' I', Qk E0 I0 E' I' → PaiC I' (done ++ rchL D nl l m (List.range' 0 12)) → Q (nI (done ++ rchL D nl l m (List.range' 0 12)).length) (E', D, I')) : ∀ (d s fu : Nat) (E : Es) (I : Tg → Nat → Int32) (a1 : Nat), d + s = 12 → d < fu → eAd E (16, l, 0) = a1 → PaiC I (done ++ rchL D nl l m (List.range' 0 s)) → Qk E0 I0 E I → Cst E I D Z ax ao cap nn nm ng ns nl nc → RowW E I D nl 0 (D 10 (D 25 l).toNatClampNeg) 0 m w → Wp (f_X11_addReach_6 (some ax) (some a1) (nI m) fu (nI (done ++ rchL D nl l m (List.range' 0 s)).length) (nI s)) (E, D, I) Q := by
  have hnm := hDI.2.1.1
  intro d
  induction d with
  | zero =>
    intro s fu E I a1 hd hf ha1 hP hQ hc hW
    cases fu with
    | zero => exact absurd hf (Nat.not_lt_zero _)
    | succ fu =>
      obtain ⟨⟨-, hax, -⟩, t0, -, -, -, -, -, t5, -, -, -, -, -, -, -, ⟨kl, kn⟩, -⟩ := id hc.1.1
      rw [f_X11_addReach_6]
      refine wc_R hax t0 t5 rfl ?_
      refine wc_aN rfl kl (by omega) ?_
      rw [kn]
      have e : s = 12 := by omega
      subst e
      exact wp_pos ((nI_leI (by omega) (by omega)).mpr (Nat.le_refl _)) (wp_mp (kk E I hQ hP))
  | succ d ih =>
    intro s fu E I a1 hd hf ha1 hP hQ hc hW
    cases fu with
    | zero => exact absurd hf (Nat.not_lt_zero _)
    | succ fu =>
      obtain ⟨⟨-, hax, -⟩, t0, -, -, -, -, -, t5, -, -, -, -, -, -, t13, ⟨kl, kn⟩, ⟨pk, pn⟩, -⟩ := id hc.1.1
      obtain ⟨l1, l2, l3, l4, -⟩ := hc.2.1.2.2.2.2.1.2.1 l hl
      obtain ⟨z, hz, ez⟩ := (hDI.2.2.2.2.1.2.2.2.1 l hl).2.1
      have hz40 := hDI.2.2.2.1.1
      have ezn : (D 25 l).toNatClampNeg = z := by rw [ez, nI_clamp (by omega)]
      have hSet := hc.2.1.2.2.2.1.2.1 z hz
      have hs12 : s < 12 := by omega
      have hln := rchL_len (D := D) (nl := nl) (l := l) (m := m) (s := s)
      have hbd : (done ++ rchL D nl l m (List.range' 0 s)).length ≤ 12 * m + s := by rw [List.length_append]; omega
      have skip : ∀ (E : Es) (I : Tg → Nat → Int32), eAd E (16, l, 0) = a1 → PaiC I (done ++ rchL D nl l m (List.range' 0 s)) → Qk E0 I0 E I → Cst E I D Z ax ao cap nn nm ng ns nl nc → RowW E I D nl 0 (D 10 (D 25 l).toNatClampNeg) 0 m w → rchB D nl l m s = false → Wp (f_X11_addReach_6 (some ax) (some a1) (nI m) fu (nI (done ++ rchL D nl l m (List.range' 0 s)).length) (nI s + 1)) (E, D, I) Q := fun E I ha1 hP hQ hc hW hb => by
        have e : rchL D nl l m (List.range' 0 (s + 1)) = rchL D nl l m (List.range' 0 s) := by rw [rchL_snoc, hb, if_neg (by decide), List.append_nil]
        rw [nI_1, ← e]
        exact ih (s + 1) fu E I a1 (by omega) (by omega) ha1 (by rw [e]; exact hP) hQ hc hW
      rw [f_X11_addReach_6]
      unfold f_X11_addReach_121
      refine wc_R hax t0 t5 rfl ?_
      refine wc_aN rfl kl (by omega) ?_
      rw [kn]
      refine wp_neg (fun e => by have := (nI_leI (by omega) (by omega)).mp e; omega) ?_
      refine wc_R ha1 l1 l4 rfl ?_
      rw [ezn]
      refine wc_call rfl hSet.1 (c_tells hSet rfl hs12 ?_)
      have htl : tlD D s l = bt (D 10 z) s := by unfold tlD; rw [ezn]
      rw [← htl]
      cases ht : tlD D s l with
      | false =>
        refine wp_pos rfl (skip E I ha1 hP hQ hc hW ?_)
        unfold rchB
        rw [ht, Bool.false_and, Bool.and_false]
      | true =>
        refine wp_neg (by show ¬ (b2i true = 0); decide) ?_
        refine c_rdS (r := 0) (q := 0) (b := 0) (wo := none) (but := -1) (by omega) (by omega) hc.1 hc.2.2.1 hc.2.1.a hDI.rowD (hc.2.1.2.2.2.1.2.2.2 s hs12) (hDI.2.2.2.1.2.2.2.2.2 s) hs12 (by omega) rfl (fun l h => by cases h) (fun l h => m1_l h) (tk_told ht) (rowD_100 hDI) hlen.1 hlen.2 hW (fun E1 I1 q1 q2 q3 => ?_)
        have hc1 := hc.qk q2
        have hW1 := hW.o q1
        have ha1' : eAd E1 (16, l, 0) = a1 := by rw [q2.ad (by simp) (by simp)]; exact ha1
        refine c_rdS (r := 0) (q := 1) (b := 0) (wo := some l) (but := nI l) (by omega) (by omega) hc1.1 hc1.2.2.1 hc1.2.1.a hDI.rowD (hc1.2.1.2.2.2.1.2.2.2 s hs12) (hDI.2.2.2.1.2.2.2.2.2 s) hs12 (by omega) (by rw [← ha1']; rfl) (fun l' h => by cases h; exact hl) (fun l' h => ?_) (tk_told ht) (rowD_100 hDI) hlen.1 hlen.2 hW1 (fun E2 I2 r1 r2 r3 => ?_)
        · have := hDI.2.2.2.2.1.1
          have e2 : (nI l' = nI l) ↔ l' = l := nI_eq (by omega) (by omega)
          exact ⟨fun h q => h (by rw [e2.mp q]), fun h q => h (by rw [Option.some.inj q])⟩
        have hc2 := hc1.qk r2
        have hW2 := hW1.o r1
        have ha2 : eAd E2 (16, l, 0) = a1 := by rw [r2.ad (by simp) (by simp)]; exact ha1'
        have hQ2 := (hQ.tr q2).tr r2
        have hP2 : PaiC I2 (done ++ rchL D nl l m (List.range' 0 s)) := fun i p hi => by
          rw [r1.2 (2, 2, 0) i (by simp), q1.2 (2, 2, 0) i (by simp)]
          exact hP i p hi
        rw [yG_0] at q3 r3
        refine wc_R hc2.1.1.1.2.1 hc2.1.1.2.1 (hc2.1.1.outR (r := 0) (by omega)).1 rfl ?_
        refine wc_R hc2.1.1.1.2.1 hc2.1.1.2.1 (hc2.1.1.outR (r := 1) (by omega)).1 rfl ?_
        refine wc_call rfl (hc2.1.2.2.2.2 0 (by omega)).1 (c_isSame (hc2.1.2.2.2.2 0 (by omega)) (hc2.1.2.2.2.2 1 (by omega)) (q3.oth r1 (by decide)) r3 rfl rfl ?_)
        by_cases hsm : (ocD D nl s m (yesO (D 5) m 8) (-1)).1 = (ocD D nl s m (yesO (D 5) m 8) (nI l)).1
        · have e1 : (oc (D 13 s) (psD D s (rowK D nl m (yesO (D 5) m 8) (-1) w))).1 = (oc (D 13 s) (psD D s (rowK D nl m (yesO (D 5) m 8) (nI l) w))).1 := by
            rw [← hwy]; exact hsm
          rw [decide_eq_true e1]
          refine wp_neg (by decide) (skip E2 I2 ha2 hP2 hQ2 hc2 hW2 ?_)
          unfold rchB
          rw [decide_eq_false (p := (ocD D nl s m (yesO (D 5) m 8) (-1)).1 ≠ (ocD D nl s m (yesO (D 5) m 8) (nI l)).1) (fun q => q hsm), Bool.and_false, Bool.and_false]
        · have e1 : ¬ ((oc (D 13 s) (psD D s (rowK D nl m (yesO (D 5) m 8) (-1) w))).1 = (oc (D 13 s) (psD D s (rowK D nl m (yesO (D 5) m 8) (nI l) w))).1) := by
            rw [← hwy]; exact hsm
          rw [decide_eq_false e1]
          have hb : rchB D nl l m s = true := by
            unfold rchB
            rw [ht, decide_eq_true hsm, hwy, decide_eq_true hin]
            rfl
          obtain ⟨⟨-, hax2, -⟩, u0, -, -, -, -, -, -, -, -, -, -, -, -, u13, -, ⟨pk2, pn2⟩, -⟩ := id hc2.1.1
          refine wp_pos rfl ?_
          refine wp_neg (nI_pos (by omega)) ?_
          refine wc_R hax2 u0 u13 rfl ?_
          refine wc_aN rfl pk2 (by omega) ?_
          rw [pn2]
          refine wp_neg (fun e => by have := (nI_leI (by omega) (by omega)).mp e; omega) ?_
          refine wc_R hax2 u0 u13 rfl ?_
          refine wc_s (t := (2, 2, 0)) (done ++ rchL D nl l m (List.range' 0 s)).length rfl rfl pk2 (.inr (.inl rfl)) rfl (by omega) (by rw [pn2]; omega) ?_
          rw [pair_n m (by omega) s hs12, nI_1, nI_1]
          have e2 : done ++ rchL D nl l m (List.range' 0 (s + 1)) = (done ++ rchL D nl l m (List.range' 0 s)) ++ [(m, s)] := by rw [rchL_snoc, hb, if_pos rfl, List.append_assoc]
          have e3 : (done ++ rchL D nl l m (List.range' 0 s)).length + 1 = (done ++ rchL D nl l m (List.range' 0 (s + 1))).length := by rw [e2, List.length_append (as := done ++ rchL D nl l m (List.range' 0 s)), List.length_singleton]
          rw [e3]
          have hq := Qk.p (E := E2) (I := I2) (k := (done ++ rchL D nl l m (List.range' 0 s)).length) (v := nI (12 * m + s)) hc2.2.2.1
          refine ih (s + 1) fu E2 _ a1 (by omega) (by omega) ha2 (fun i p hi => ?_) (hQ2.tr hq) (hc2.qk hq) hW2.p
          rw [e2] at hi
          by_cases ei : i = (done ++ rchL D nl l m (List.range' 0 s)).length
          · rw [ei, List.getElem?_append_right (Nat.le_refl _), Nat.sub_self] at hi
            cases hi
            rw [ei]
            exact us_eq
          · have hlt : i < (done ++ rchL D nl l m (List.range' 0 s)).length := by
              have := (List.getElem?_eq_some_iff.mp hi).1
              rw [List.length_append (as := done ++ rchL D nl l m (List.range' 0 s)), List.length_singleton] at this
              omega
            rw [List.getElem?_append_left hlt] at hi
            rw [us_ne (fun q => ei q.2)]
            exact hP2 i p hi
/-- all that a link reaches -/
theorem c_listReach {Q : Int32 → Gh → Prop} {a1 : Nat} (hc : Cst E I D Z ax ao cap nn nm ng ns nl nc) (hl : l < nl) (ha1 : eAd E (16, l, 0) = a1) (kk : ∀ E' I', Qk E I E' I' → PaiC I' (rchD D nl nm l) → Q (nI (rchD D nl nm l).length) (E', D, I')) : Wp (f_X11_listReach Z (some ax) (some a1)) (E, D, I) Q := by
  have hDI := hc.2.2.2
  have hnm := hDI.2.1.1
  have hn60 := hDI.1.1.2
  obtain ⟨l1, l2, l3, l4, l5, l6, l7, -⟩ := hc.2.1.2.2.2.2.1.2.1 l hl
  obtain ⟨⟨n, hn, en⟩, ⟨z, hz, ez⟩, -⟩ := hDI.2.2.2.2.1.2.2.2.1 l hl
  have hz40 := hDI.2.2.2.1.1
  have ezn : (D 25 l).toNatClampNeg = z := by rw [ez, nI_clamp (by omega)]
  have enn : (D 24 l).toNatClampNeg = n := by rw [en, nI_clamp (by omega)]
  have hst : D 10 (D 25 l).toNatClampNeg = D 10 z := by rw [ezn]
  have snoc : ∀ m, rchM D nl l (List.range' 0 (m + 1)) = rchM D nl l (List.range' 0 m) ++ rchL D nl l m (List.range' 0 12) := fun m => by
    unfold rchM
    rw [List.range'_1_concat (s := 0) (n := m), List.flatMap_append, List.flatMap_cons, List.flatMap_nil, List.append_nil, Nat.zero_add]
  have key : ∀ (d m fu : Nat) (E' : Es) (I' : Tg → Nat → Int32), d + m = nm → d < fu → eAd E' (16, l, 0) = a1 → PaiC I' (rchM D nl l (List.range' 0 m)) → Qk E I E' I' → Cst E' I' D Z ax ao cap nn nm ng ns nl nc → (∀ E'' I'', Qk E I E'' I'' → PaiC I'' (rchM D nl l (List.range' 0 nm)) → Q (nI (rchM D nl l (List.range' 0 nm)).length) (E'', D, I'')) → Wp (f_X11_listReach_13 Z (some ax) (some a1) fu (nI (rchM D nl l (List.range' 0 m)).length) (nI m)) (E', D, I') Q := by
    intro d
    induction d with
    | zero =>
      intro m fu E' I' hd hf ha hP hQ hc' kk
      cases fu with
      | zero => exact absurd hf (Nat.not_lt_zero _)
      | succ fu =>
        obtain ⟨⟨-, hax, -⟩, t0, -, t2, -⟩ := id hc'.1.1
        obtain ⟨⟨cm, km, hL⟩, hMc, -⟩ := hc'.2.1.2.1
        rw [f_X11_listReach_13]
        refine wc_R hax t0 t2 rfl ?_
        refine wc_call rfl hL.1 (l_size hL rfl rfl ?_)
        rw [List.length_map, List.length_range]
        have e : m = nm := by omega
        subst e
        exact wp_pos ((nI_leI (by omega) (by omega)).mpr (Nat.le_refl _)) (wp_mp (kk E' I' hQ hP))
    | succ d ih =>
      intro m fu E' I' hd hf ha hP hQ hc' kk
      cases fu with
      | zero => exact absurd hf (Nat.not_lt_zero _)
      | succ fu =>
        have hm : m < nm := by omega
        obtain ⟨hTr, hG, -, hRo, hOu⟩ := id hc'.1
        obtain ⟨⟨-, hax, -⟩, t0, -, t2, t3, -⟩ := id hTr
        obtain ⟨⟨cm, km, hL⟩, hMc, -⟩ := hc'.2.1.2.1
        obtain ⟨k1, k2, k3, k4, -⟩ := hc'.2.1.2.2.2.2.1.2.1 l hl
        have hSet := hc'.2.1.2.2.2.1.2.1 z hz
        obtain ⟨i, w, hi, e4, hw⟩ := hDI.way hm
        have hwy : wy (D 1) 61 (D 4 m) = i :: w := chn_wy hn60 _ 61 hw (by have := chn_len hn60 hw; omega)
        have hlen := rowT_len (st := D 10 (D 25 l).toNatClampNeg) hDI hw
        rw [f_X11_listReach_13]
        unfold f_X11_listReach_92
        refine wc_R hax t0 t2 rfl ?_
        refine wc_call rfl hL.1 (l_size hL rfl rfl ?_)
        rw [List.length_map, List.length_range]
        refine wp_neg (fun e => by have := (nI_leI (by omega) (by omega)).mp e; omega) ?_
        refine wc_R hax t0 t2 rfl ?_
        refine wc_call rfl hL.1 (l_get hL rfl rfl (t := (14, m, 0)) (by rw [List.getElem?_map, List.getElem?_range hm]; rfl) ?_)
        refine wc_ck rfl (hMc m hm).1 ?_
        refine wc_R rfl (hMc m hm).1 (hMc m hm).2.1 rfl ?_
        refine wc_R ha k1 k3 rfl ?_
        rw [enn, e4, nI_clamp (by omega)]
        rw [e4] at hw
        refine wc_call rfl (hc'.2.1.a.1 i hi).1 (c_isWithin hn60 hc'.2.1.a.1 hn hw hi rfl rfl ?_)
        by_cases hin : n ∈ i :: w
        · rw [decide_eq_true hin]
          refine wp_neg (by show ¬ (b2i true = 0); decide) ?_
          refine wc_R hax t0 (hTr.rowR (r := 0) (by omega)).1 rfl ?_
          refine wc_R hax t0 t3 rfl ?_
          refine wc_call rfl hG.1 (c_groupsOf hG hc'.2.1.2.2.1 hDI.2.2.1 rfl (by omega) (fun x2 hx2 => ?_))
          refine wc_R ha k1 k4 rfl ?_
          rw [ezn]
          refine wc_call rfl hSet.1 (c_told hSet rfl ?_)
          rw [← hst]
          refine c_rowS (r := 0) (by omega) hc' hm rfl rfl (fun v hv => by rw [hx2 v (by omega), decide_eq_true hv, Bool.true_and]) (fun E1 I1 p1 p2 p3 => ?_)
          have hc1 := hc'.qk p2
          have ha' : eAd E1 (16, l, 0) = a1 := by rw [p2.ad (by simp) (by simp)]; exact ha
          rw [hwy] at p3
          refine wc_call hc1.1.1.1.2.1 hc1.1.1.2.1 ?_
          unfold f_X11_addReach
          have hM12 : (rchM D nl l (List.range' 0 m)).length ≤ 12 * m := by
            have := rchM_len (D := D) (nl := nl) (l := l) (List.range' 0 m)
            rw [List.length_range'] at this
            exact this
          have e0 : rchM D nl l (List.range' 0 m) ++ rchL D nl l m (List.range' 0 0) = rchM D nl l (List.range' 0 m) := by
            have : rchL D nl l m (List.range' 0 0) = [] := rfl
            rw [this, List.append_nil]
          have go := c_addReach (Z := Z) (ax := ax) (ao := ao) (E0 := E) (I0 := I) (w := i :: w) (done := rchM D nl l (List.range' 0 m)) (Q := fun v88 g' => Wp (f_X11_listReach_13 Z (some ax) (some a1) fu v88 (nI m + 1)) g' Q) hDI hl hm hwy (by rw [enn]; exact hin) hlen hM12 (fun E2 I2 r1 r2 => ?_) 12 0 fuL E1 I1 a1 (by omega) (fu_ok (by omega)) ha' (by
            rw [e0]
            exact fun j p hj => by rw [p1.2.2.1 (2, 2, 0) j (by simp) (by simp) (by simp)]; exact hP j p hj) (hQ.tr p2) hc1 p3
          · rw [e0] at go
            exact go
          · rw [← snoc] at r2 ⊢
            rw [nI_1]
            exact ih (m + 1) fu E2 I2 (by omega) (by omega) (by rw [r1.ad (by simp) (by simp)]; exact ha1) r2 r1 (hc.qk r1) kk
        · rw [decide_eq_false hin]
          refine wp_pos rfl ?_
          have e : rchM D nl l (List.range' 0 (m + 1)) = rchM D nl l (List.range' 0 m) := by
            rw [snoc, rchL_out (by rw [hwy, enn]; exact hin), List.append_nil]
          rw [nI_1, ← e]
          exact ih (m + 1) fu E' I' (by omega) (by omega) ha (by rw [e]; exact hP) hQ hc' kk
  unfold f_X11_listReach
  refine wc_I ha1 rfl l1 rfl ?_
  rw [l7]
  unfold rchD at kk
  by_cases h28 : D 28 l = 0
  · rw [if_pos h28] at kk
    exact wp_pos h28 (key nm 0 fuL E I (by omega) (fu_ok (by omega)) ha1 (fun j p hj => by cases hj) (Qk.rf hc.2.2.1) hc kk)
  · rw [if_neg h28] at kk
    exact wp_neg h28 (wp_mp (kk E I (Qk.rf hc.2.2.1) (fun j p hj => by cases hj)))
theorem c_reach {P : (Int32 ⊕ String) → Gh → Prop} {x : Int32} (hc : Cst E I D Z ax ao cap nn nm ng ns nl nc) (k1 : (x < 0 ∨ ¬ x < nI nl) → P (.inr eI) (eXc E 1 6, D, I)) (k3 : ∀ l, l < nl → x = nI l → ∀ E' I', Qk E I E' I' → P (.inl (nI (rchD D nl nm l).length)) (E', D, I')) : Wp (f_X11_reach Z (some ax) x) (E, D, I) P := by
  have hDI := hc.2.2.2
  have hnl := hDI.2.2.2.2.1.1
  obtain ⟨⟨-, hax, -⟩, t0, -, -, -, -, t4, -⟩ := id hc.1.1
  obtain ⟨⟨cl, kl, hL⟩, hLk, -⟩ := hc.2.1.2.2.2.2.1
  unfold f_X11_reach
  refine wc_R hax t0 t4 rfl ?_
  refine wc_call rfl hL.1 (l_size hL rfl rfl ?_)
  rw [List.length_map, List.length_range]
  refine c_need (by omega) k1 (fun l hl e => ?_)
  subst e
  refine wc_R hax t0 t4 rfl ?_
  refine wc_call rfl hL.1 (l_get hL rfl rfl (t := (16, l, 0)) (by rw [List.getElem?_map, List.getElem?_range hl]; rfl) ?_)
  refine wc_ck rfl (hLk l hl).1 ?_
  refine wc_call hax t0 (c_listReach hc hl rfl (fun E1 I1 q1 q2 => wp_mp (k3 l hl rfl E1 I1 q1)))
theorem c_reached {P : (Int32 ⊕ String) → Gh → Prop} {x k w : Int32} (hc : Cst E I D Z ax ao cap nn nm ng ns nl nc) (k1 : (x < 0 ∨ ¬ x < nI nl) → P (.inr eI) (eXc E 1 6, D, I)) (k2 : ¬ x < 0 → x < nI nl → (w < 0 ∨ ¬ w < 2) → P (.inr eA) (eXc E 1 6, D, I)) (k3 : ∀ l, l < nl → x = nI l → ¬ w < 0 → w < 2 → ∀ E' I', Qk E I E' I' → P (.inl (pAt (rchD D nl nm l) k w)) (E', D, I')) : Wp (f_X11_reached Z (some ax) x k w) (E, D, I) P := by
  have hDI := hc.2.2.2
  have hnl := hDI.2.2.2.2.1.1
  have hnm := hDI.2.1.1
  obtain ⟨⟨-, hax, -⟩, t0, -, -, -, -, t4, -⟩ := id hc.1.1
  obtain ⟨⟨cl, kl, hL⟩, hLk, -⟩ := hc.2.1.2.2.2.2.1
  unfold f_X11_reached
  refine wc_R hax t0 t4 rfl ?_
  refine wc_call rfl hL.1 (l_size hL rfl rfl ?_)
  rw [List.length_map, List.length_range]
  refine c_need (by omega) k1 (fun l hl e => ?_)
  subst e
  refine c_choice (n := 2) (by omega) (k2 (nI_pos (by omega)) ((nI_ltI (by omega) (by omega)).mpr hl)) (fun b hb e => ?_)
  subst e
  refine wc_R hax t0 t4 rfl ?_
  refine wc_call rfl hL.1 (l_get hL rfl rfl (t := (16, l, 0)) (by rw [List.getElem?_map, List.getElem?_range hl]; rfl) ?_)
  refine wc_ck rfl (hLk l hl).1 ?_
  refine wc_call hax t0 (c_listReach hc hl rfl (fun E1 I1 q1 q2 => ?_))
  have k3 := k3 l hl rfl (nI_pos (by omega)) ((nI_ltI (b := 2) (by omega) (by omega)).mpr hb) E1 I1 q1
  have h720 := rchD_len (D := D) (nl := nl) (l := l) hnm
  unfold f_X11_reached_52 f_X11_reached_79
  have none : (k < 0 ∨ nI (rchD D nl nm l).length ≤ k) → P (.inl (-1)) (E1, D, I1) := fun h => by
    have e : pAt (rchD D nl nm l) k (nI b) = -1 := by
      unfold pAt
      by_cases hk : k < 0
      · rw [if_pos hk]
      · rw [if_neg hk]
        obtain ⟨j, hj, rfl⟩ := nI_of hk
        rw [nI_clamp hj, List.getElem?_eq_none ((nI_leI (by omega) hj).mp (h.resolve_left hk))]
    rw [e] at k3
    exact k3
  refine wp_ite (fun h => wp_mp (none (.inl h))) (fun h => ?_)
  refine wp_ite (fun h2 => wp_mp (none (.inr h2))) (fun h2 => ?_)
  obtain ⟨j, hj, rfl⟩ := nI_of h
  have hjl : j < (rchD D nl nm l).length := Nat.lt_of_not_le (fun q => h2 ((nI_leI (by omega) hj).mpr q))
  have hc1 := hc.qk q1
  obtain ⟨⟨-, hax1, -⟩, u0, -, -, -, -, -, -, -, -, -, -, -, -, u13, -, ⟨pk, pn⟩, -⟩ := id hc1.1.1
  refine wc_R hax1 u0 u13 rfl ?_
  refine wc_aN rfl pk (by omega) ?_
  rw [pn]
  refine wp_pos ((nI_ltI hj (by omega)).mpr (by omega)) ?_
  have hget : (rchD D nl nm l)[j]? = some (rchD D nl nm l)[j] := List.getElem?_eq_getElem hjl
  generalize hp : (rchD D nl nm l)[j] = p at hget
  have hpv := q2 j p hget
  have hp12 : p.1 < 60 ∧ p.2 < 12 := by
    have hmem := List.mem_of_getElem? hget
    unfold rchD at hmem
    split at hmem
    · unfold rchM at hmem
      obtain ⟨m', hm', hq⟩ := List.mem_flatMap.mp hmem
      unfold rchL at hq
      obtain ⟨s', hs', rfl⟩ := List.mem_map.mp hq
      have a1 := List.mem_range'_1.mp hm'
      have a2 := List.mem_range'_1.mp (List.mem_filter.mp hs').1
      exact ⟨by show m' < 60; omega, by show s' < 12; omega⟩
    · cases hmem
  unfold pAt at k3
  rw [if_neg (nI_pos hj), nI_clamp hj, hget] at k3
  have e12 : nI b = 0 ↔ b = 0 := nI_eq (b := 0) (by omega) (by omega)
  by_cases hb0 : b = 0
  · subst hb0
    refine wp_pos rfl ?_
    refine wc_R hax1 u0 u13 rfl ?_
    refine wc_a (t := (2, 2, 0)) j rfl rfl pk (.inr (.inl rfl)) rfl hj (by rw [pn]; omega) ?_
    rw [hpv, show nI (12 * p.1 + p.2) / (12 : Int32) = nI ((12 * p.1 + p.2) / 12) from pk_div (d := 12) (by omega) (by omega) (by omega), show (12 * p.1 + p.2) / 12 = p.1 by omega]
    exact wp_mp k3
  · refine wp_neg (fun q => hb0 (e12.mp q)) ?_
    refine wc_R hax1 u0 u13 rfl ?_
    refine wc_a (t := (2, 2, 0)) j rfl rfl pk (.inr (.inl rfl)) rfl hj (by rw [pn]; omega) ?_
    rw [hpv, show nI (12 * p.1 + p.2) - nI (12 * p.1 + p.2) / (12 : Int32) * (12 : Int32) = nI ((12 * p.1 + p.2) % 12) from pk_rem (d := 12) (by omega) (by omega) (by omega), show (12 * p.1 + p.2) % 12 = p.2 by omega]
    have : (if nI b = 0 then nI p.1 else nI p.2) = nI p.2 := if_neg (fun q => hb0 (e12.mp q))
    refine wp_mp ?_
    rw [← this]
    exact k3
end CL
