/-! ===== the class: joins ===== -/
section CW
variable {E : Es} {I : Tg → Nat → Int32} {D : Nat → Nat → Int32} {Z : Nat → Nat} {cap nn nm ng ns nl nc ax ao : Nat} {P : (Int32 ⊕ String) → Gh → Prop}
theorem Cst.join {g m : Nat} {b : Bool} {v : Int64} (hc : Cst E I D Z ax ao cap nn nm ng ns nl nc) (hg : g < ng) (hm : m < nm) (hv : ∀ i, i < 64 → lb v i = if i = m then b else lb (eLg E (4, 1, 0) g) i) : Cst (eG E (4, 1, 0) g v) I (ds (ds D 0 0 0) 6 m (bput (D 6 m) g b)) Z ax ao cap nn nm ng ns nl nc := by
  obtain ⟨b1, b2, b3, b4, b5, b6⟩ := hc.2.2.2.2.2.1
  have hnm := hc.2.2.2.2.1.1
  obtain ⟨g1, g2, g3⟩ := hc.2.1.2.2.1
  have r : ∀ j, j ≠ 0 → j ≠ 6 → ds (ds D 0 0 0) 6 m (bput (D 6 m) g b) j = D j := fun j h0 hj => by rw [ds_row hj, ds_row h0]
  have s0 : ∀ k, k ≠ 0 → ds (ds D 0 0 0) 6 m (bput (D 6 m) g b) 0 k = D 0 k := fun k hk => by rw [ds_ne (fun q => absurd q.1 (by decide)), ds_ne (fun q => hk q.2)]
  have d6 : ∀ k, ds (ds D 0 0 0) 6 m (bput (D 6 m) g b) 6 k = if k = m then bput (D 6 m) g b else D 6 k := fun k => by
    by_cases e : k = m
    · subst e; rw [ds_eq, if_pos rfl]
    · rw [ds_ne (fun q => e q.2), ds_ne (fun q => absurd q.1 (by decide)), if_neg e]
  refine hc.grps ⟨fun j h0 hj => r j h0 (fun e => hj (by rw [e]; decide)), fun k hk => s0 k (fun e => hk (by rw [e]; decide))⟩ hc.1 (fun a ha => SamT.eG ?_) ⟨by rw [s0 9 (by decide)]; exact g1, fun k i hk hi => ?_, by rw [r 8 (by decide) (by decide)]; exact g3⟩ ⟨b1, by rw [s0 9 (by decide)]; exact b2, fun k i hi => ?_, fun k hk => ?_, by rw [r 8 (by decide) (by decide)]; exact b5, by rw [r 8 (by decide) (by decide)]; exact b6⟩
  · cases h : Nat.beq a 4 with
    | false => rfl
    | true => exact absurd (Nat.eq_of_beq_eq_true h) ha
  · rw [d6]
    by_cases ek : k = g
    · subst ek
      rw [eG_eq, hv i (by omega)]
      by_cases e : i = m
      · subst e
        rw [if_pos rfl, if_pos rfl, bput_bt (by omega) (by omega), if_pos rfl]
      · rw [if_neg e, if_neg e]; exact g2 k i hk hi
    · rw [eG_ne (fun q => ek q.2), g2 k i hk hi]
      by_cases e : i = m
      · subst e
        rw [if_pos rfl, bput_bt (by omega) (by omega), if_neg ek]
      · rw [if_neg e]
  · rw [d6]
    split
    · by_cases h32 : i < 32
      · rw [bput_bt (by omega) h32, if_neg (by omega)]; exact b3 m i hi
      · exact b_big (by omega)
    · exact b3 k i hi
  · rw [d6, if_neg (by omega)]; exact b4 k hk
theorem c_joins {x y b : Int32} (hc : Cst E I D Z ax ao cap nn nm ng ns nl nc) (hz : b = 0 ∨ b = 1) (k1 : (x < 0 ∨ ¬ x < nI ng) → P (.inr eI) (eXc E 1 6, D, I)) (k2 : ¬ x < 0 → x < nI ng → (y < 0 ∨ ¬ y < nI nm) → P (.inr eI) (eXc E 1 6, D, I)) (k3 : ∀ g m, g < ng → x = nI g → m < nm → y = nI m → ∀ E', eMc E' = eMc E → eMs E' = eMs E → eCu E' = eCu E → pot E' = pot E → SamT 1 E I E' I → Cst E' I (ds (ds D 0 0 0) 6 m (bput (D 6 m) g (decide (b = 1)))) Z ax ao cap nn nm ng ns nl nc → P (.inl (b2i (bt (D 6 m) g))) (E', D, I)) : Wp (f_X11_joins (some ax) x y b) (E, D, I) P := by
  obtain ⟨hT, hDat, hC, hDI⟩ := id hc
  have hng := hDI.2.2.1.1
  have hnm := hDI.2.1.1
  obtain ⟨⟨-, hax, -⟩, t0, t1, t2, t3, -⟩ := id hc.1.1
  obtain ⟨⟨c1, -, hM⟩, -⟩ := hDat.2.1
  obtain ⟨s1, s2, s3, s4, s5, s6, s7⟩ := hT.2.1
  unfold f_X11_joins
  refine wc_R hax t0 t3 rfl ?_
  refine wc_call rfl s1 ?_
  unfold f_X3_size
  refine wc_I (t := (4, 0, 0)) rfl rfl s1 rfl (wp_mp ?_)
  rw [hDat.2.2.1.1, hDI.2.2.1.2.1]
  refine c_need (by omega) k1 (fun g hg e => ?_)
  subst e
  refine wc_R hax t0 t2 rfl ?_
  refine wc_call rfl hM.1 (l_size hM rfl rfl ?_)
  rw [List.length_map, List.length_range]
  refine c_need (by omega) (k2 (nI_pos (by omega)) ((nI_ltI (by omega) (by omega)).mpr hg)) (fun m hm e => ?_)
  subst e
  have k3 := k3 g m hg rfl hm rfl
  refine wc_R hax t0 t3 rfl ?_
  refine wc_call rfl s1 ?_
  have was : ∀ o : Bool, bt (D 6 m) g = o → Wp (f_X3_putMachine_39 (some (eAd E (4, 0, 0))) (nI g) b (jLL (1 : Int64) (nI m)) (b2i o)) (E, D, I) (fun r g' => Wp (rzX .boolean r) g' P) := fun o ho => by
    rw [ho] at k3
    have hv : b2i o = 0 ∨ b2i o = 1 := by cases o; exact .inl rfl; exact .inr rfl
    unfold f_X3_putMachine_39 f_X3_putMachine_75
    refine wc_R rfl s1 s2 rfl ?_
    have fin : ∀ v : Int64, (∀ i, i < 64 → lb v i = if i = m then decide (b = 1) else lb (eLg E (4, 1, 0) g) i) → Wp (mb (sL (some (eAd E (4, 1, 0))) (nI g) v) (fun _ => rz .boolean (b2i o))) (E, D, I) (fun r g' => Wp (rzX .boolean r) g' P) := fun v hvv => by
      refine wc_sL (t := (4, 1, 0)) g rfl s4 rfl (by omega) (by rw [s5]; omega) ?_
      refine wp_rz hv (wp_rzX hv (k3 _ rfl rfl rfl rfl (SamT.eG rfl) (hc.join hg hm hvv)))
    rcases hz with rfl | rfl
    · refine wp_pos rfl ?_
      refine wc_R rfl s1 s2 rfl ?_
      refine wc_aL g rfl s4 rfl (by omega) (by rw [s5]; omega) ?_
      refine fin _ (fun i hi => ?_)
      rw [lb_and, lb_no _ hi, lb_sh m (by omega) i hi]
      by_cases e : i = m
      · rw [if_pos e, decide_eq_true e, Bool.not_true, Bool.and_false]; rfl
      · rw [if_neg e, decide_eq_false e, Bool.not_false, Bool.and_true]
    · refine wp_neg (by decide) ?_
      refine wc_R rfl s1 s2 rfl ?_
      refine wc_aL g rfl s4 rfl (by omega) (by rw [s5]; omega) ?_
      refine fin _ (fun i hi => ?_)
      rw [lb_or, lb_sh m (by omega) i hi]
      by_cases e : i = m
      · rw [if_pos e, decide_eq_true e, Bool.or_true]; rfl
      · rw [if_neg e, decide_eq_false e, Bool.or_false]
  unfold f_X3_putMachine
  refine wp_neg (nI_pos (by omega)) ?_
  refine wc_R rfl s1 s2 rfl ?_
  refine wc_aN rfl s4 (by omega) ?_
  rw [s5]
  refine wp_pos ((nI_ltI (by omega) (by omega)).mpr (by omega)) ?_
  refine wc_R rfl s1 s2 rfl ?_
  refine wc_aL g rfl s4 rfl (by omega) (by rw [s5]; omega) ?_
  have hbit := hDat.2.2.1.2.1 g m (by omega) (by omega)
  cases hb : bt (D 6 m) g with
  | false =>
    rw [hb] at hbit
    exact wp_pos ((cmp0 _).mpr ((lb_az (by omega)).mpr hbit)) (was false hb)
  | true =>
    rw [hb] at hbit
    exact wp_neg (fun q => by have := (lb_az (by omega)).mp ((cmp0 _).mp q); rw [hbit] at this; cases this) (was true hb)
end CW
