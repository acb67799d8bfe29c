/-! ===== the class: block, law, fact, group ===== -/
section CT
variable {E : Es} {I : Tg → Nat → Int32} {D : Nat → Nat → Int32} {Z : Nat → Nat} {cap nn nm ng ns nl nc ax ao : Nat} {P : (Int32 ⊕ String) → Gh → Prop}
theorem ds0_frL {r : Int32} : FrL frA frK D (ds D 0 0 r) := ⟨fun j h0 _ => ds_row h0, fun k hk => ds_ne (fun q => hk (by rw [q.2]; decide))⟩
/-- a call that changes nothing -/
theorem Cst.bad {r : Int32} (hc : Cst E I D Z ax ao cap nn nm ng ns nl nc) : Cst E I (ds D 0 0 r) Z ax ao cap nn nm ng ns nl nc := ⟨hc.1, hc.2.1.frL ds0_frL, hc.2.2.1, hc.2.2.2.frL ds0_frL⟩
theorem c_block {x b : Int32} (hc : Cst E I D Z ax ao cap nn nm ng ns nl nc) (hz : b = 0 ∨ b = 1) (k1 : (x < 0 ∨ ¬ x < nI nn) → P (.inr eI) (eXc E 1 6, D, I)) (k3 : ∀ i, i < nn → x = nI i → ∀ I', Cst E I' (ds (ds D 0 0 0) 2 i b) Z ax ao cap nn nm ng ns nl nc → P (.inl (D 2 i)) (E, D, I')) : Wp (f_X11_block (some ax) x b) (E, D, I) P := by
  obtain ⟨hT, hDat, hC, hDI⟩ := id hc
  obtain ⟨⟨-, hax, -⟩, t0, t1, -⟩ := id hT.1
  obtain ⟨⟨cn, kn, hL⟩, hNo, hNn⟩ := hDat.1
  have hn60 := hDI.1.1.2
  unfold f_X11_block
  refine wc_R hax t0 t1 rfl ?_
  refine wc_call rfl hL.1 (l_size hL rfl rfl ?_)
  rw [List.length_map, List.length_range]
  refine c_need (by omega) k1 (fun i hi e => ?_)
  subst e
  refine wc_R hax t0 t1 rfl ?_
  refine wc_call rfl hL.1 (l_get hL rfl rfl (t := (12, i, 0)) (by rw [List.getElem?_map, List.getElem?_range hi]; rfl) ?_)
  refine wc_ck rfl (hNo i hi).1 ?_
  refine wc_I rfl rfl (hNo i hi).1 rfl ?_
  rw [(hNo i hi).2.2.2.1]
  refine wc_Z rfl rfl (hNo i hi).1 rfl rfl hz ?_
  refine wp_rzX (hDI.1.2.2.2.1 i) (k3 i hi rfl _ ?_)
  have h1 : One 2 D (ds (ds D 0 0 0) 2 i b) := One.ds rfl
  have r : ∀ j, j ≠ 0 → j ≠ 2 → ds (ds D 0 0 0) 2 i b j = D j := h1.1
  have d2 : ∀ k, ds (ds D 0 0 0) 2 i b 2 k = if k = i then b else D 2 k := fun k => by
    by_cases e : k = i
    · subst e; rw [ds_eq, if_pos rfl]
    · rw [ds_ne (fun q => e q.2), ds_ne (fun q => absurd q.1 (by decide)), if_neg e]
  refine ⟨hT, ⟨⟨⟨cn, kn, (SamT.us rfl).lst hL⟩, fun k hk => ?_, hNn⟩, hDat.2.1.cg (SamT.us rfl) (SamT.us rfl) (r 4 (by decide) (by decide)) (r 5 (by decide) (by decide)), hDat.2.2.1.cg (SamT.us rfl) (h1.2 9 (by decide)) (r 6 (by decide) (by decide)) (r 8 (by decide) (by decide)), hDat.2.2.2.1.cg (SamT.us rfl) (SamT.us rfl) (fun _ => us_ne (by simp)) (r 10 (by decide) (by decide)) (r 11 (by decide) (by decide)) (r 13 (by decide) (by decide)), hDat.2.2.2.2.1.cg (SamT.us rfl) (SamT.us rfl) (SamT.us rfl) (r 24 (by decide) (by decide)) (r 25 (by decide) (by decide)) (r 26 (by decide) (by decide)) (r 27 (by decide) (by decide)) (r 28 (by decide) (by decide)) (fun l _ => by rw [r 21 (by decide) (by decide), r 29 (by decide) (by decide), r 30 (by decide) (by decide)]), hDat.2.2.2.2.2.cg (SamT.us rfl) (us_ne (by simp)) (h1.2 15 (by decide)) (r 14 (by decide) (by decide)) (h1.2 19 (by decide))⟩, hC.cg (SamT.us rfl) (SamT.us rfl), ?_⟩
  · obtain ⟨q1, q2, q3, q4, q5, c, q6, q7⟩ := hNo k hk
    refine ⟨q1, by rw [us_ne (by simp)]; exact q2, by rw [r 1 (by decide) (by decide)]; exact q3, ?_, q5, c, q6, by rw [h1.lk (by decide) (by decide) (by decide)]; exact (SamT.us rfl).lst q7⟩
    rw [d2]
    by_cases e : k = i
    · subst e; rw [us_eq, if_pos rfl]
    · rw [us_ne (fun q => e (congrArg (fun t : Tg => t.2.1) q.1)), if_neg e]; exact q4
  · obtain ⟨a1, a2, a3, a4, a5, tp, a6⟩ := hDI
    refine ⟨⟨a1.1, by rw [h1.2 3 (by decide)]; exact a1.2.1, by rw [r 1 (by decide) (by decide)]; exact a1.2.2.1, fun k => ?_, fun k hk => ?_⟩, a2.cg (h1.2 7 (by decide)) (r 4 (by decide) (by decide)) (r 5 (by decide) (by decide)), a3.cg (h1.2 9 (by decide)) (r 6 (by decide) (by decide)) (r 8 (by decide) (by decide)), a4.cg (h1.2 12 (by decide)) (r 10 (by decide) (by decide)) (r 11 (by decide) (by decide)) (r 13 (by decide) (by decide)), a5.cg (h1.2 32 (by decide)) (h1.2 22 (by decide)) (fun j hj => r j (by omega) (by omega)), tp, a6.cg (h1.2 15 (by decide))⟩
    · rw [d2]
      split
      · exact hz
      · exact a1.2.2.2.1 k
    · rw [d2, if_neg (by omega)]
      exact a1.2.2.2.2 k hk
theorem c_law {x v : Int32} (hc : Cst E I D Z ax ao cap nn nm ng ns nl nc) (k1 : (x < 0 ∨ ¬ x < 12) ∨ (v < 0 ∨ ¬ v < 3) → P (.inr eA) (eXc E 1 6, D, I)) (k3 : ∀ s, s < 12 → x = nI s → ¬ v < 0 → v < 3 → ∀ I', Cst E I' (ds (ds D 0 0 0) 13 s v) Z ax ao cap nn nm ng ns nl nc → P (.inl (D 13 s)) (E, D, I')) : Wp (f_X11_law (some ax) x v) (E, D, I) P := by
  obtain ⟨hT, hDat, hC, hDI⟩ := id hc
  obtain ⟨⟨-, hax, -⟩, t0, -, -, -, -, -, t5, -, -, -, -, -, -, -, ⟨kl, kn⟩, -⟩ := id hT.1
  unfold f_X11_law
  refine c_choice (n := 12) (by omega) (fun h => k1 (.inl h)) (fun s hs e => ?_)
  subst e
  refine c_choice (n := 3) (by omega) (fun h => k1 (.inr h)) (fun j hj e => ?_)
  have hv : v = 0 ∨ v = 1 ∨ v = 2 := by
    rw [e]
    rcases (show j = 0 ∨ j = 1 ∨ j = 2 by omega) with rfl | rfl | rfl
    · exact .inl rfl
    · exact .inr (.inl rfl)
    · exact .inr (.inr rfl)
  refine wc_R hax t0 t5 rfl ?_
  refine wc_a (t := (2, 1, 0)) s rfl rfl kl (.inr (.inl rfl)) rfl (by omega) (by rw [kn]; omega) ?_
  refine wc_R hax t0 t5 rfl ?_
  refine wc_s (t := (2, 1, 0)) s rfl rfl kl (.inr (.inl rfl)) rfl (by omega) (by rw [kn]; omega) ?_
  obtain ⟨⟨c3, s0, s1⟩, s2, s3, s4⟩ := hDat.2.2.2.1
  rw [s4 s hs]
  refine wp_mp (k3 s hs rfl (by rw [e]; exact nI_pos (by omega)) (by rw [e]; exact (nI_ltI (b := 3) (by omega) (by omega)).mpr hj) _ ?_)
  have h1 : One 13 D (ds (ds D 0 0 0) 13 s v) := One.ds rfl
  have r : ∀ j, j ≠ 0 → j ≠ 13 → ds (ds D 0 0 0) 13 s v j = D j := h1.1
  have d2 : ∀ k, ds (ds D 0 0 0) 13 s v 13 k = if k = s then v else D 13 k := fun k => by
    by_cases e : k = s
    · subst e; rw [ds_eq, if_pos rfl]
    · rw [ds_ne (fun q => e q.2), ds_ne (fun q => absurd q.1 (by decide)), if_neg e]
  refine ⟨hT, ⟨hDat.1.cg (SamT.us rfl) (SamT.us rfl) (SamT.us rfl) (r 1 (by decide) (by decide)) (r 2 (by decide) (by decide)) (h1.lk (by decide) (by decide) (by decide)), hDat.2.1.cg (SamT.us rfl) (SamT.us rfl) (r 4 (by decide) (by decide)) (r 5 (by decide) (by decide)), hDat.2.2.1.cg (SamT.us rfl) (h1.2 9 (by decide)) (r 6 (by decide) (by decide)) (r 8 (by decide) (by decide)), ⟨⟨c3, s0, (SamT.us rfl).lst s1⟩, fun k hk => ?_, s3, fun k hk => ?_⟩, hDat.2.2.2.2.1.cg (SamT.us rfl) (SamT.us rfl) (SamT.us rfl) (r 24 (by decide) (by decide)) (r 25 (by decide) (by decide)) (r 26 (by decide) (by decide)) (r 27 (by decide) (by decide)) (r 28 (by decide) (by decide)) (fun l _ => by rw [r 21 (by decide) (by decide), r 29 (by decide) (by decide), r 30 (by decide) (by decide)]), hDat.2.2.2.2.2.cg (SamT.us rfl) (us_ne (by simp)) (h1.2 15 (by decide)) (r 14 (by decide) (by decide)) (h1.2 19 (by decide))⟩, hC.cg (SamT.us rfl) (SamT.us rfl), ?_⟩
  · obtain ⟨q1, q2, q3, q4, q5, q6⟩ := s2 k hk
    exact ⟨q1, q2, q3, q4, by rw [us_ne (by simp), r 10 (by decide) (by decide)]; exact q5, fun j hj => by rw [us_ne (by simp), r 11 (by decide) (by decide)]; exact q6 j hj⟩
  · rw [d2]
    by_cases e : k = s
    · subst e; rw [us_eq, if_pos rfl]; rfl
    · rw [us_ne (fun q => e q.2), if_neg e]; exact s4 k hk
  · obtain ⟨a1, a2, a3, a4, a5, tp, a6⟩ := hDI
    refine ⟨a1.cg (h1.2 3 (by decide)) (r 1 (by decide) (by decide)) (r 2 (by decide) (by decide)), a2.cg (h1.2 7 (by decide)) (r 4 (by decide) (by decide)) (r 5 (by decide) (by decide)), a3.cg (h1.2 9 (by decide)) (r 6 (by decide) (by decide)) (r 8 (by decide) (by decide)), ?_, a5.cg (h1.2 32 (by decide)) (h1.2 22 (by decide)) (fun j hj => r j (by omega) (by omega)), tp, a6.cg (h1.2 15 (by decide))⟩
    obtain ⟨b1, b2, b3, b4, b5, b6⟩ := a4
    refine ⟨b1, by rw [h1.2 12 (by decide)]; exact b2, by rw [r 10 (by decide) (by decide)]; exact b3, by rw [r 10 (by decide) (by decide)]; exact b4, by rw [r 11 (by decide) (by decide)]; exact b5, fun k => ?_⟩
    rw [d2]
    split
    · exact hv
    · exact b6 k
theorem c_room {n lim : Nat} {K : Mo (Int32 ⊕ String)} (hn : n < 2 ^ 31) (hl : lim < 2 ^ 31) (k1 : lim ≤ n → P (.inr eS) (eXc E 1 6, D, I)) (k2 : n < lim → Wp K (E, D, I) P) : Wp (mx (f_X11_needRoom (nI n) (nI lim)) (fun _ => K)) (E, D, I) P := by
  refine wp_mx ?_
  unfold f_X11_needRoom
  refine wp_ite (fun c => wp_mp (k2 ((nI_ltI hn hl).mp c))) (fun c => wp_mt (k1 (Nat.le_of_not_lt (fun q => c ((nI_ltI hn hl).mpr q)))))
theorem c_group (hc : Cst E I D Z ax ao cap nn nm ng ns nl nc) (k2 : ng = 20 → P (.inr eS) (eXc E 1 6, D, I)) (k3 : ng < 20 → ∀ I', Cst E I' (ds (ds D 0 0 0) 0 9 (nI (ng + 1))) Z ax ao cap nn nm (ng + 1) ns nl nc → P (.inl (nI ng)) (E, D, I')) : Wp (f_X11_group (some ax)) (E, D, I) P := by
  obtain ⟨hT, hDat, hC, hDI⟩ := id hc
  obtain ⟨⟨-, hax, -⟩, t0, t1, t2, t3, -⟩ := id hT.1
  have hng := hDI.2.2.1.1
  obtain ⟨g1, g2, g3⟩ := hDat.2.2.1
  unfold f_X11_group
  refine wc_R hax t0 t3 rfl ?_
  refine wc_call rfl hT.2.1.1 ?_
  unfold f_X3_size
  refine wc_I (t := (4, 0, 0)) rfl rfl hT.2.1.1 rfl (wp_mp ?_)
  rw [g1, hDI.2.2.1.2.1]
  refine c_room (lim := 20) (by omega) (by omega) (fun h => k2 (by omega)) (fun h => ?_)
  refine wc_R hax t0 t3 rfl ?_
  refine wc_call rfl hT.2.1.1 ?_
  unfold f_X3_add
  refine wc_I (t := (4, 0, 0)) rfl rfl hT.2.1.1 rfl ?_
  rw [g1, hDI.2.2.1.2.1]
  refine wc_P (t := (4, 0, 0)) rfl rfl hT.2.1.1 rfl rfl ?_
  refine wc_I (t := (4, 0, 0)) rfl rfl hT.2.1.1 rfl (wp_mp ?_)
  rw [us_eq, nI_1, show (1 : Int32) = nI 1 from rfl, pk_sub (by omega), Nat.add_sub_cancel]
  refine wp_mp (k3 h _ ?_)
  have r : ∀ j, j ≠ 0 → ds (ds D 0 0 0) 0 9 (nI (ng + 1)) j = D j := fun j hj => by rw [ds_row hj, ds_row hj]
  have s0 : ∀ k, k ≠ 0 → k ≠ 9 → ds (ds D 0 0 0) 0 9 (nI (ng + 1)) 0 k = D 0 k := fun k h0 h9 => by rw [ds_ne (fun q => h9 q.2), ds_ne (fun q => h0 q.2)]
  refine ⟨hT, ⟨hDat.1.cg (SamT.us rfl) (SamT.us rfl) (SamT.us rfl) (r 1 (by decide)) (r 2 (by decide)) ?_, hDat.2.1.cg (SamT.us rfl) (SamT.us rfl) (r 4 (by decide)) (r 5 (by decide)), ⟨by rw [us_eq, ds_eq], fun g m hg hm => by rw [r 6 (by decide)]; exact g2 g m hg hm, fun g hg => by rw [us_ne (by simp), r 8 (by decide)]; exact g3 g hg⟩, hDat.2.2.2.1.cg (SamT.us rfl) (SamT.us rfl) (fun _ => us_ne (by simp)) (r 10 (by decide)) (r 11 (by decide)) (r 13 (by decide)), hDat.2.2.2.2.1.cg (SamT.us rfl) (SamT.us rfl) (SamT.us rfl) (r 24 (by decide)) (r 25 (by decide)) (r 26 (by decide)) (r 27 (by decide)) (r 28 (by decide)) (fun l _ => by rw [r 21 (by decide), r 29 (by decide), r 30 (by decide)]), hDat.2.2.2.2.2.cg (SamT.us rfl) (us_ne (by simp)) (s0 15 (by decide) (by decide)) (r 14 (by decide)) (s0 19 (by decide) (by decide))⟩, hC.cg (SamT.us rfl) (SamT.us rfl), ?_⟩
  · funext i
    unfold lnkN
    rw [r 31 (by decide), r 28 (by decide), r 24 (by decide)]
  · obtain ⟨a1, a2, a3, a4, a5, tp, a6⟩ := hDI
    obtain ⟨b1, b2, b3, b4, b5, b6⟩ := a3
    have hwf : ∀ (cs : List Int32) (n n' : Nat), wfC ng nn cs n n' → wfC (ng + 1) nn cs n n' := by
      intro cs
      induction cs with
      | nil => intro n n' h; exact h
      | cons c cs ih =>
        intro n n' h
        rcases h with ⟨e, e2, h⟩ | ⟨e, e2, h⟩ | ⟨⟨v, e⟩, e2, h⟩
        · exact .inl ⟨e, e2, ih _ _ h⟩
        · exact .inr (.inl ⟨e, e2, ih _ _ h⟩)
        · refine .inr (.inr ⟨⟨v, ?_⟩, e2, ih _ _ h⟩)
          rcases e with ⟨e, hv⟩ | e | e
          · exact .inl ⟨e, by omega⟩
          · exact .inr (.inl e)
          · exact .inr (.inr e)
    refine ⟨a1.cg (s0 3 (by decide) (by decide)) (r 1 (by decide)) (r 2 (by decide)), a2.cg (s0 7 (by decide) (by decide)) (r 4 (by decide)) (r 5 (by decide)), ⟨by omega, ds_eq, fun m g hg => by rw [r 6 (by decide)]; exact b3 m g (by omega), by rw [r 6 (by decide)]; exact b4, fun g o ho => by rw [r 8 (by decide)]; exact b5 g o (by omega), fun g hg => by rw [r 8 (by decide)]; exact b6 g (by omega)⟩, a4.cg (s0 12 (by decide) (by decide)) (r 10 (by decide)) (r 11 (by decide)) (r 13 (by decide)), ?_, tp, a6.cg (s0 15 (by decide) (by decide))⟩
    have a5' : DLnk cap (ds (ds D 0 0 0) 0 9 (nI (ng + 1))) nn ng ns nl nc := a5.cg (s0 32 (by decide) (by decide)) (s0 22 (by decide) (by decide)) (fun j hj => r j (by omega))
    obtain ⟨c1, c2, c3, c4, c5⟩ := a5'
    refine ⟨c1, c2, c3, fun l hl => ?_, c5⟩
    obtain ⟨f1, f2, f3, f4, f5, fr, to, n', f6, f7, f8, f9, f10, f11⟩ := c4 l hl
    exact ⟨f1, f2, f3, f4, f5, fr, to, n', f6, f7, f8, f9, f10, hwf _ _ _ f11⟩
end CT
