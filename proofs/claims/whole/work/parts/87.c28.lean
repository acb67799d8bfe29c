/-! ===== the class: within ===== -/
section CX
variable {E : Es} {I : Tg → Nat → Int32} {D : Nat → Nat → Int32} {Z : Nat → Nat} {cap nn nm ng ns nl nc ax ao : Nat} {P : (Int32 ⊕ String) → Gh → Prop}
theorem Cst.wit {g m : Nat} {b : Bool} {v : Int32} (hc : Cst E I D Z ax ao cap nn nm ng ns nl nc) (hg : g < ng) (hm : m < ng) (hv : v = bput (D 8 g) m b) : Cst E (us I (4, 2, 0) g v) (ds (ds D 0 0 0) 8 g (bput (D 8 g) m b)) Z ax ao cap nn nm ng ns nl nc := by
  subst hv
  obtain ⟨b1, b2, b3, b4, b5, b6⟩ := hc.2.2.2.2.2.1
  obtain ⟨g1, g2, g3⟩ := hc.2.1.2.2.1
  have r : ∀ j, j ≠ 0 → j ≠ 8 → ds (ds D 0 0 0) 8 g (bput (D 8 g) m b) j = D j := fun j h0 hj => by rw [ds_row hj, ds_row h0]
  have s0 : ∀ k, k ≠ 0 → ds (ds D 0 0 0) 8 g (bput (D 8 g) m b) 0 k = D 0 k := fun k hk => by rw [ds_ne (fun q => absurd q.1 (by decide)), ds_ne (fun q => hk q.2)]
  have d8 : ∀ k, ds (ds D 0 0 0) 8 g (bput (D 8 g) m b) 8 k = if k = g then bput (D 8 g) m b else D 8 k := fun k => by
    by_cases e : k = g
    · subst e; rw [ds_eq, if_pos rfl]
    · rw [ds_ne (fun q => e q.2), ds_ne (fun q => absurd q.1 (by decide)), if_neg e]
  refine hc.grps ⟨fun j h0 hj => r j h0 (fun e => hj (by rw [e]; decide)), fun k hk => s0 k (fun e => hk (by rw [e]; decide))⟩ hc.1 (fun a ha => SamT.us ?_) ⟨by rw [us_ne (by simp), s0 9 (by decide)]; exact g1, fun k i hk hi => by rw [r 6 (by decide) (by decide)]; exact g2 k i hk hi, fun k hk => ?_⟩ ⟨b1, by rw [s0 9 (by decide)]; exact b2, by rw [r 6 (by decide) (by decide)]; exact b3, by rw [r 6 (by decide) (by decide)]; exact b4, fun k i hi => ?_, fun k hk => ?_⟩
  · cases h : Nat.beq a 4 with
    | false => rfl
    | true => exact absurd (Nat.eq_of_beq_eq_true h) ha
  · rw [d8]
    by_cases e : k = g
    · subst e; rw [us_eq, if_pos rfl]
    · rw [us_ne (fun q => e q.2), if_neg e]; exact g3 k hk
  · rw [d8]
    split
    · by_cases h32 : i < 32
      · rw [bput_bt (by omega) h32, if_neg (by omega)]; exact b5 g i hi
      · exact b_big (by omega)
    · exact b5 k i hi
  · rw [d8, if_neg (by omega)]; exact b6 k hk
theorem c_within {x y b : Int32} (hc : Cst E I D Z ax ao cap nn nm ng ns nl nc) (hz : b = 0 ∨ b = 1) (k1 : (x < 0 ∨ ¬ x < nI ng) → P (.inr eI) (eXc E 1 6, D, I)) (k2 : ¬ x < 0 → x < nI ng → (y < 0 ∨ ¬ y < nI ng) → P (.inr eI) (eXc E 1 6, D, I)) (k3 : ∀ g m, g < ng → x = nI g → m < ng → y = nI m → ∀ I', Cst E I' (ds (ds D 0 0 0) 8 g (bput (D 8 g) m (decide (b = 1)))) Z ax ao cap nn nm ng ns nl nc → P (.inl (b2i (bt (D 8 g) m))) (E, D, I')) : Wp (f_X11_within (some ax) x y b) (E, D, I) P := by
  obtain ⟨hT, hDat, hC, hDI⟩ := id hc
  have hng := hDI.2.2.1.1
  obtain ⟨⟨-, hax, -⟩, t0, t1, t2, t3, -⟩ := id hc.1.1
  obtain ⟨s1, s2, s3, s4, s5, s6, s7⟩ := hT.2.1
  unfold f_X11_within
  refine wc_R hax t0 t3 rfl ?_
  refine wc_call rfl s1 ?_
  unfold f_X3_size
  refine wc_I (t := (4, 0, 0)) rfl rfl s1 rfl (wp_mp ?_)
  rw [hDat.2.2.1.1, hDI.2.2.1.2.1]
  refine c_need (by omega) k1 (fun g hg e => ?_)
  subst e
  refine wc_R hax t0 t3 rfl ?_
  refine wc_call rfl s1 ?_
  refine wc_I (t := (4, 0, 0)) rfl rfl s1 rfl (wp_mp ?_)
  rw [hDat.2.2.1.1, hDI.2.2.1.2.1]
  refine c_need (by omega) (k2 (nI_pos (by omega)) ((nI_ltI (by omega) (by omega)).mpr hg)) (fun m hm e => ?_)
  subst e
  have k3 := k3 g m hg rfl hm rfl
  have h8 := hDat.2.2.1.2.2 g (by omega)
  refine wc_R hax t0 t3 rfl ?_
  refine wc_call rfl s1 ?_
  have was : ∀ o : Bool, bt (D 8 g) m = o → Wp (f_X3_putGroup_37 (some (eAd E (4, 0, 0))) (nI g) b ((1 : Int32) <<< (nI m &&& 31)) (b2i o)) (E, D, I) (fun r g' => Wp (rzX .boolean r) g' P) := fun o ho => by
    rw [ho] at k3
    have hv : b2i o = 0 ∨ b2i o = 1 := by cases o; exact .inl rfl; exact .inr rfl
    unfold f_X3_putGroup_37 f_X3_putGroup_71
    refine wc_R rfl s1 s3 rfl ?_
    have fin : ∀ v : Int32, v = bput (D 8 g) m (decide (b = 1)) → Wp (mb (sI 1 (some (eAd E (4, 2, 0))) (nI g) v) (fun _ => rz .boolean (b2i o))) (E, D, I) (fun r g' => Wp (rzX .boolean r) g' P) := fun v hvv => by
      refine wc_s (t := (4, 2, 0)) g rfl rfl s6 (.inr (.inl rfl)) rfl (by omega) (by rw [s7]; omega) ?_
      exact wp_rz hv (wp_rzX hv (k3 _ (hc.wit hg hm hvv)))
    rcases hz with rfl | rfl
    · refine wp_pos rfl ?_
      refine wc_R rfl s1 s3 rfl ?_
      refine wc_a (t := (4, 2, 0)) g rfl rfl s6 (.inr (.inl rfl)) rfl (by omega) (by rw [s7]; omega) ?_
      rw [h8]
      refine fin _ (b_ext (fun i hi => ?_))
      rw [bput_bt (by omega) hi, b_and, bt_no _ hi, bt_sh (by omega) hi]
      by_cases e : i = m
      · rw [if_pos e, decide_eq_true e, Bool.not_true, Bool.and_false]; rfl
      · rw [if_neg e, decide_eq_false e, Bool.not_false, Bool.and_true]
    · refine wp_neg (by decide) ?_
      refine wc_R rfl s1 s3 rfl ?_
      refine wc_a (t := (4, 2, 0)) g rfl rfl s6 (.inr (.inl rfl)) rfl (by omega) (by rw [s7]; omega) ?_
      rw [h8]
      refine fin _ (b_ext (fun i hi => ?_))
      rw [bput_bt (by omega) hi, b_or, bt_sh (by omega) hi]
      by_cases e : i = m
      · rw [if_pos e, decide_eq_true e, Bool.or_true]; rfl
      · rw [if_neg e, decide_eq_false e, Bool.or_false]
  unfold f_X3_putGroup
  refine wp_neg (nI_pos (by omega)) ?_
  refine wc_R rfl s1 s3 rfl ?_
  refine wc_aN rfl s6 (by omega) ?_
  rw [s7]
  refine wp_pos ((nI_ltI (by omega) (by omega)).mpr (by omega)) ?_
  refine wc_R rfl s1 s3 rfl ?_
  refine wc_a (t := (4, 2, 0)) g rfl rfl s6 (.inr (.inl rfl)) rfl (by omega) (by rw [s7]; omega) ?_
  rw [h8]
  cases hb : bt (D 8 g) m with
  | false => exact wp_pos ((bt_b1 (by omega)).mpr hb) (was false hb)
  | true => exact wp_neg (fun q => by have := (bt_b1 (by omega)).mp q; rw [hb] at this; cases this) (was true hb)
end CX
