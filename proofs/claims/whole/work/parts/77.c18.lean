/-! ===== the class answers: quarrels, count, member ===== -/
section CN
variable {E : Es} {D : Nat → Nat → Int32} {I : Tg → Nat → Int32} {Z : Nat → Nat} {nn nm ng ns nl nc ax ao cap : Nat} {Q : Int32 → Gh → Prop} {x : Int32}
theorem qrL_cons (a b d : Nat) : qrL D a (List.range' b (d + 1)) = (if unlB D a b then [(a, b)] else []) ++ qrL D a (List.range' (b + 1) d) := by
  unfold qrL
  rw [List.range'_succ]
  cases h : unlB D a b with
  | true => rw [List.filter_cons_of_pos h]; rfl
  | false => rw [List.filter_cons_of_neg (by rw [h]; decide)]; rfl
theorem qrL_len (a b d : Nat) : (qrL D a (List.range' b d)).length ≤ d := by
  unfold qrL
  rw [List.length_map]
  exact Nat.le_trans (List.length_filter_le _ _) (by rw [List.length_range']; omega)
theorem c_cq_35 {l a : Nat} (hc : Cst E I D Z ax ao cap nn nm ng ns nl nc) (hl : l < nl) (ha : eAd E (16, l, 0) = a) (hx : ∀ s, s < 32 → bt x s = decide (s < 12 ∧ D 13 s = 0)) : ∀ (d b fu n : Nat), d + b = nl → d < fu → n + d ≤ 1000 → Q (nI (n + (qrL D l (List.range' b d)).length)) (E, D, I) → Wp (f_X11_countQuarrels_35 (some ax) x (some a) fu (nI n) (nI b)) (E, D, I) Q := by
  have hnl := hc.2.2.2.2.2.2.2.1.1
  obtain ⟨⟨-, hax, -⟩, t0, -, -, -, -, t4, -⟩ := id hc.1.1
  obtain ⟨⟨cl, kl, hL⟩, hLk, -⟩ := hc.2.1.2.2.2.2.1
  intro d
  induction d with
  | zero =>
    intro b fu n hd hf hn kk
    cases fu with
    | zero => exact absurd hf (Nat.not_lt_zero _)
    | succ fu =>
      rw [f_X11_countQuarrels_35]
      unfold f_X11_countQuarrels_77
      refine wc_R hax t0 t4 rfl ?_
      refine wc_call rfl hL.1 (l_size hL rfl rfl ?_)
      rw [List.length_map, List.length_range]
      exact wp_pos ((nI_leI (by omega) (by omega)).mpr (by omega)) (wp_mp kk)
  | succ d ih =>
    intro b fu n hd hf hn kk
    cases fu with
    | zero => exact absurd hf (Nat.not_lt_zero _)
    | succ fu =>
      have hb : b < nl := by omega
      rw [qrL_cons, List.length_append] at kk
      rw [f_X11_countQuarrels_35]
      unfold f_X11_countQuarrels_71
      refine wc_R hax t0 t4 rfl ?_
      refine wc_call rfl hL.1 (l_size hL rfl rfl ?_)
      rw [List.length_map, List.length_range]
      refine wp_neg (fun e => by have := (nI_leI (by omega) (by omega)).mp e; omega) ?_
      refine wc_R hax t0 t4 rfl ?_
      refine wc_call rfl hL.1 (l_get hL rfl rfl (t := (16, b, 0)) (by rw [List.getElem?_map, List.getElem?_range hb]; rfl) ?_)
      refine wc_ck rfl (hLk b hb).1 ?_
      refine wc_call ha (hLk l hl).1 (c_qw hc hl hb ha rfl hx ?_)
      cases h : unlB D l b with
      | false =>
        rw [h, if_neg (by decide), List.length_nil, Nat.zero_add] at kk
        refine wp_pos rfl ?_
        rw [nI_1]
        exact ih (b + 1) fu n (by omega) (by omega) (by omega) kk
      | true =>
        rw [h, if_pos rfl, List.length_singleton, ← Nat.add_assoc] at kk
        refine wp_neg (by show ¬ (b2i true = 0); decide) ?_
        rw [nI_1, nI_1]
        exact ih (b + 1) fu (n + 1) (by omega) (by omega) (by omega) kk
theorem c_cq {l : Nat} (hc : Cst E I D Z ax ao cap nn nm ng ns nl nc) (hl : l < nl) (hx : ∀ s, s < 32 → bt x s = decide (s < 12 ∧ D 13 s = 0)) (kk : Q (nI (qrL D l (List.range' (l + 1) (nl - (l + 1)))).length) (E, D, I)) : Wp (f_X11_countQuarrels (some ax) (nI l) x) (E, D, I) Q := by
  have hnl := hc.2.2.2.2.2.2.2.1.1
  obtain ⟨⟨-, hax, -⟩, t0, -, -, -, -, t4, -⟩ := id hc.1.1
  obtain ⟨⟨cl, kl, hL⟩, hLk, -⟩ := hc.2.1.2.2.2.2.1
  unfold f_X11_countQuarrels
  refine wp_neg (nI_pos (by omega)) ?_
  refine wc_R hax t0 t4 rfl ?_
  refine wc_call rfl hL.1 (l_size hL rfl rfl ?_)
  rw [List.length_map, List.length_range]
  refine wp_neg (fun e => by have := (nI_leI (by omega) (by omega)).mp e; omega) ?_
  refine wc_R hax t0 t4 rfl ?_
  refine wc_call rfl hL.1 (l_get hL rfl rfl (t := (16, l, 0)) (by rw [List.getElem?_map, List.getElem?_range hl]; rfl) ?_)
  refine wc_ck rfl (hLk l hl).1 ?_
  rw [nI_1]
  exact c_cq_35 hc hl rfl hx (nl - (l + 1)) (l + 1) fuL 0 (by omega) (fu_ok (by omega)) (by omega) (by rw [Nat.zero_add]; exact kk)
/-- the k-th that a link quarrels with -/
theorem c_fq {l k p : Nat} (hc : Cst E I D Z ax ao cap nn nm ng ns nl nc) (hl : l < nl) (hk : k < 2 ^ 31) (hx : ∀ s, s < 32 → bt x s = decide (s < 12 ∧ D 13 s = 0)) (hg : (qrL D l (List.range' (l + 1) (nl - (l + 1))))[k]? = some (l, p)) (kk : Q (nI p) (E, D, I)) : Wp (f_X11_findQuarreller (some ax) (nI l) x (nI k)) (E, D, I) Q := by
  have hnl := hc.2.2.2.2.2.2.2.1.1
  obtain ⟨⟨-, hax, -⟩, t0, -, -, -, -, t4, -⟩ := id hc.1.1
  obtain ⟨⟨cl, kl, hL⟩, hLk, -⟩ := hc.2.1.2.2.2.2.1
  have key : ∀ (d b fu j : Nat), d + b = nl → d < fu → j ≤ k → (qrL D l (List.range' b d))[k - j]? = some (l, p) → Wp (f_X11_findQuarreller_38 (some ax) x (nI k) (some (eAd E (16, l, 0))) fu (nI j) (nI b)) (E, D, I) Q := by
    intro d
    induction d with
    | zero => intro b fu j hd hf hj hg; cases hg
    | succ d ih =>
      intro b fu j hd hf hj hg
      cases fu with
      | zero => exact absurd hf (Nat.not_lt_zero _)
      | succ fu =>
        have hb : b < nl := by omega
        rw [qrL_cons] at hg
        rw [f_X11_findQuarreller_38]
        unfold f_X11_findQuarreller_83
        refine wc_R hax t0 t4 rfl ?_
        refine wc_call rfl hL.1 (l_size hL rfl rfl ?_)
        rw [List.length_map, List.length_range]
        refine wp_neg (fun e => by have := (nI_leI (by omega) (by omega)).mp e; omega) ?_
        refine wc_R hax t0 t4 rfl ?_
        refine wc_call rfl hL.1 (l_get hL rfl rfl (t := (16, b, 0)) (by rw [List.getElem?_map, List.getElem?_range hb]; rfl) ?_)
        refine wc_ck rfl (hLk b hb).1 ?_
        refine wc_call rfl (hLk l hl).1 (c_qw hc hl hb rfl rfl hx ?_)
        cases h : unlB D l b with
        | false =>
          rw [h, if_neg (by decide), List.nil_append] at hg
          refine wp_pos rfl ?_
          rw [nI_1]
          exact ih (b + 1) fu j (by omega) (by omega) hj hg
        | true =>
          rw [h, if_pos rfl] at hg
          refine wp_neg (by show ¬ (b2i true = 0); decide) ?_
          by_cases e : j = k
          · subst e
            rw [Nat.sub_self] at hg
            have : p = b := by
              have := Option.some.inj hg
              exact (congrArg Prod.snd this).symm
            subst this
            exact wp_pos rfl (wp_mp kk)
          · refine wp_neg (fun q => e ((nI_eq (by omega) hk).mp q)) ?_
            rw [nI_1, nI_1]
            refine ih (b + 1) fu (j + 1) (by omega) (by omega) (by omega) ?_
            rw [show k - j = (k - (j + 1)) + 1 by omega] at hg
            exact hg
  unfold f_X11_findQuarreller
  refine wp_neg (nI_pos (by omega)) ?_
  refine wc_R hax t0 t4 rfl ?_
  refine wc_call rfl hL.1 (l_size hL rfl rfl ?_)
  rw [List.length_map, List.length_range]
  refine wp_pos ((nI_ltI (by omega) (by omega)).mpr hl) ?_
  refine wc_R hax t0 t4 rfl ?_
  refine wc_call rfl hL.1 (l_get hL rfl rfl (t := (16, l, 0)) (by rw [List.getElem?_map, List.getElem?_range hl]; rfl) ?_)
  refine wc_ck rfl (hLk l hl).1 ?_
  rw [nI_1]
  exact key (nl - (l + 1)) (l + 1) fuL 0 (by omega) (fu_ok (by omega)) (by omega) (by rw [Nat.sub_zero]; exact hg)
theorem qrM_cons (a d : Nat) : qrM D nl (List.range' a (d + 1)) = qrL D a (List.range' (a + 1) (nl - (a + 1))) ++ qrM D nl (List.range' (a + 1) d) := by
  unfold qrM
  rw [List.range'_succ (s := a) (n := d), List.flatMap_cons]
theorem c_quarrels (hc : Cst E I D Z ax ao cap nn nm ng ns nl nc) (kk : Q (nI (qrD D nl).length) (E, D, I)) : Wp (f_X11_quarrels (some ax)) (E, D, I) Q := by
  have hnl := hc.2.2.2.2.2.2.2.1.1
  obtain ⟨⟨-, hax, -⟩, t0, -, -, -, -, t4, -⟩ := id hc.1.1
  obtain ⟨⟨cl, kl, hL⟩, hLk, -⟩ := hc.2.1.2.2.2.2.1
  unfold f_X11_quarrels
  refine wc_call hax t0 (c_lasts hc (fun x hx => ?_))
  have key : ∀ (d a fu n : Nat), d + a = nl → d < fu → n + 1000 * d ≤ 1000000 → Q (nI (n + (qrM D nl (List.range' a d)).length)) (E, D, I) → Wp (f_X11_quarrels_9 (some ax) x fu (nI n) (nI a)) (E, D, I) Q := by
    intro d
    induction d with
    | zero =>
      intro a fu n hd hf hn kk
      cases fu with
      | zero => exact absurd hf (Nat.not_lt_zero _)
      | succ fu =>
        rw [f_X11_quarrels_9]
        refine wc_R hax t0 t4 rfl ?_
        refine wc_call rfl hL.1 (l_size hL rfl rfl ?_)
        rw [List.length_map, List.length_range]
        exact wp_pos ((nI_leI (by omega) (by omega)).mpr (by omega)) (wp_mp kk)
    | succ d ih =>
      intro a fu n hd hf hn kk
      cases fu with
      | zero => exact absurd hf (Nat.not_lt_zero _)
      | succ fu =>
        rw [qrM_cons, List.length_append] at kk
        have hle := qrL_len (D := D) a (a + 1) (nl - (a + 1))
        rw [f_X11_quarrels_9]
        refine wc_R hax t0 t4 rfl ?_
        refine wc_call rfl hL.1 (l_size hL rfl rfl ?_)
        rw [List.length_map, List.length_range]
        refine wp_neg (fun e => by have := (nI_leI (by omega) (by omega)).mp e; omega) ?_
        refine wc_call hax t0 (c_cq hc (by omega) hx ?_)
        rw [nI_add, nI_1]
        exact ih (a + 1) fu _ (by omega) (by omega) (by omega) (by rw [Nat.add_assoc]; exact kk)
  exact key nl 0 fuL 0 (by omega) (fu_ok (by omega)) (by omega) (by rw [Nat.zero_add]; exact kk)
theorem c_quarrel {P : (Int32 ⊕ String) → Gh → Prop} {k w : Int32} (hc : Cst E I D Z ax ao cap nn nm ng ns nl nc) (k2 : (w < 0 ∨ ¬ w < 2) → P (.inr eA) (eXc E 1 6, D, I)) (k3 : ¬ w < 0 → w < 2 → P (.inl (pAt (qrD D nl) k w)) (E, D, I)) : Wp (f_X11_quarrel (some ax) k w) (E, D, I) P := by
  have hnl := hc.2.2.2.2.2.2.2.1.1
  obtain ⟨⟨-, hax, -⟩, t0, -, -, -, -, t4, -⟩ := id hc.1.1
  obtain ⟨⟨cl, kl, hL⟩, hLk, -⟩ := hc.2.1.2.2.2.2.1
  unfold f_X11_quarrel
  refine c_choice (n := 2) (by omega) k2 (fun b hb e => ?_)
  subst e
  have k3 := k3 (nI_pos (by omega)) ((nI_ltI (b := 2) (by omega) (by omega)).mpr hb)
  have e12 : nI b = 0 ↔ b = 0 := nI_eq (b := 0) (by omega) (by omega)
  by_cases h : k < 0
  · refine wp_neg (Int32.not_le.mpr h) ?_
    unfold pAt at k3
    rw [if_pos h] at k3
    exact wp_mp k3
  · refine wp_pos (Int32.not_lt.mp h) ?_
    refine wc_call hax t0 (c_lasts hc (fun x hx => ?_))
    obtain ⟨j, hj, rfl⟩ := nI_of h
    have key : ∀ (d a fu j : Nat), d + a = nl → d < fu → j < 2 ^ 31 → P (.inl (pAt (qrM D nl (List.range' a d)) (nI j) (nI b))) (E, D, I) → Wp (f_X11_quarrel_22 (some ax) (nI b) x fu (nI j) (nI a)) (E, D, I) P := by
      intro d
      induction d with
      | zero =>
        intro a fu j hd hf hj kk
        cases fu with
        | zero => exact absurd hf (Nat.not_lt_zero _)
        | succ fu =>
          rw [f_X11_quarrel_22]
          refine wc_R hax t0 t4 rfl ?_
          refine wc_call rfl hL.1 (l_size hL rfl rfl ?_)
          rw [List.length_map, List.length_range]
          refine wp_pos ((nI_leI (by omega) (by omega)).mpr (by omega)) (wp_mp ?_)
          unfold pAt at kk
          rw [if_neg (nI_pos hj)] at kk
          exact kk
      | succ d ih =>
        intro a fu j hd hf hj kk
        cases fu with
        | zero => exact absurd hf (Nat.not_lt_zero _)
        | succ fu =>
          rw [qrM_cons] at kk
          have hle := qrL_len (D := D) a (a + 1) (nl - (a + 1))
          rw [f_X11_quarrel_22]
          unfold f_X11_quarrel_68
          refine wc_R hax t0 t4 rfl ?_
          refine wc_call rfl hL.1 (l_size hL rfl rfl ?_)
          rw [List.length_map, List.length_range]
          refine wp_neg (fun e => by have := (nI_leI (by omega) (by omega)).mp e; omega) ?_
          refine wc_call hax t0 (c_cq hc (by omega) hx ?_)
          by_cases hjc : (qrL D a (List.range' (a + 1) (nl - (a + 1)))).length ≤ j
          · refine wp_pos ((nI_leI (by omega) hj).mpr hjc) ?_
            rw [pk_sub hjc, nI_1]
            refine ih (a + 1) fu _ (by omega) (by omega) (by omega) ?_
            unfold pAt at kk ⊢
            rw [if_neg (nI_pos hj), nI_clamp hj, List.getElem?_append_right hjc] at kk
            rw [if_neg (nI_pos (by omega)), nI_clamp (by omega)]
            exact kk
          · refine wp_neg (fun q => hjc ((nI_leI (by omega) hj).mp q)) ?_
            have hlt : j < (qrL D a (List.range' (a + 1) (nl - (a + 1)))).length := by omega
            have hget : (qrL D a (List.range' (a + 1) (nl - (a + 1))))[j]? = some (qrL D a (List.range' (a + 1) (nl - (a + 1))))[j] := List.getElem?_eq_getElem hlt
            obtain ⟨p, hp⟩ : ∃ p, (qrL D a (List.range' (a + 1) (nl - (a + 1))))[j] = (a, p) := by
              have hm := List.mem_of_getElem? hget
              unfold qrL at hm
              obtain ⟨p, -, e⟩ := List.mem_map.mp hm
              exact ⟨p, e.symm⟩
            rw [hp] at hget
            unfold pAt at kk
            rw [if_neg (nI_pos hj), nI_clamp hj, List.getElem?_append_left hlt, hget] at kk
            by_cases hb0 : b = 0
            · subst hb0
              exact wp_pos rfl (wp_mp kk)
            · have e0 : ¬ (nI b = 0) := fun q => hb0 (e12.mp q)
              refine wp_neg e0 ?_
              refine wc_call hax t0 (c_fq hc (by omega) hj hx hget (wp_mp ?_))
              have : (if nI b = 0 then nI a else nI p) = nI p := if_neg e0
              rw [← this]
              exact kk
    exact key nl 0 fuL j (by omega) (fu_ok (by omega)) hj k3
theorem c_fault (hc : Cst E I D Z ax ao cap nn nm ng ns nl nc) (kk : Q (D 0 19) (E, D, I)) : Wp (f_X11_fault (some ax)) (E, D, I) Q := by
  unfold f_X11_fault
  refine wc_I hc.1.1.1.2.1 rfl hc.1.1.2.1 rfl ?_
  rw [hc.2.1.2.2.2.2.2.2.2]
  exact wp_mp kk
end CN
