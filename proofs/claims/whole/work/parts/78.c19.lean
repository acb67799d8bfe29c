/-! ===== the class answers: count, member ===== -/
section CO
variable {E : Es} {D : Nat → Nat → Int32} {I : Tg → Nat → Int32} {Z : Nat → Nat} {nn nm ng ns nl nc ax ao cap : Nat} {Q : Int32 → Gh → Prop} {x : Int32}
theorem c_count (hc : Cst E I D Z ax ao cap nn nm ng ns nl nc) (kk : Q (if x = 0 then D 0 3 else if x = 1 then D 0 7 else if x = 2 then D 0 9 else if x = 3 then D 0 12 else if x = 4 then D 0 32 else if x = 5 then nI (lst (D 28) nl) else if x = 6 then D 0 15 else -1) (E, D, I)) : Wp (f_X11_count (some ax) x) (E, D, I) Q := by
  obtain ⟨hT, hDat, hC, hDI⟩ := id hc
  have hnl := hDI.2.2.2.2.1.1
  obtain ⟨⟨-, hax, -⟩, t0, t1, t2, t3, t3', t4, t5, t6, -⟩ := id hc.1.1
  obtain ⟨⟨c0, -, hN⟩, -⟩ := hDat.1
  obtain ⟨⟨c1, -, hM⟩, -⟩ := hDat.2.1
  obtain ⟨⟨c3, -, hS⟩, -⟩ := hDat.2.2.2.1
  obtain ⟨⟨c4, -, hL⟩, hLk, -⟩ := hDat.2.2.2.2.1
  unfold f_X11_count
  by_cases h0 : x = 0
  · rw [if_pos h0] at kk
    refine wp_pos h0 ?_
    refine wc_R hax t0 t1 rfl ?_
    refine wc_call rfl hN.1 (l_size hN rfl rfl (wp_mp ?_))
    rw [List.length_map, List.length_range, ← hDI.1.2.1]
    exact kk
  rw [if_neg h0] at kk
  refine wp_neg h0 ?_
  by_cases h1 : x = 1
  · rw [if_pos h1] at kk
    refine wp_pos h1 ?_
    refine wc_R hax t0 t2 rfl ?_
    refine wc_call rfl hM.1 (l_size hM rfl rfl (wp_mp ?_))
    rw [List.length_map, List.length_range, ← hDI.2.1.2.1]
    exact kk
  rw [if_neg h1] at kk
  refine wp_neg h1 ?_
  by_cases h2 : x = 2
  · rw [if_pos h2] at kk
    refine wp_pos h2 ?_
    refine wc_R hax t0 t3 rfl ?_
    refine wc_call rfl hT.2.1.1 ?_
    unfold f_X3_size
    refine wc_I (t := (4, 0, 0)) rfl rfl hT.2.1.1 rfl (wp_mp (wp_mp ?_))
    rw [hDat.2.2.1.1]
    exact kk
  rw [if_neg h2] at kk
  refine wp_neg h2 ?_
  by_cases h3 : x = 3
  · rw [if_pos h3] at kk
    refine wp_pos h3 ?_
    refine wc_R hax t0 t3' rfl ?_
    refine wc_call rfl hS.1 (l_size hS rfl rfl (wp_mp ?_))
    rw [List.length_map, List.length_range, ← hDI.2.2.2.1.2.1]
    exact kk
  rw [if_neg h3] at kk
  refine wp_neg h3 ?_
  by_cases h4 : x = 4
  · rw [if_pos h4] at kk
    refine wp_pos h4 ?_
    refine wc_R hax t0 t4 rfl ?_
    refine wc_call rfl hL.1 (l_size hL rfl rfl (wp_mp ?_))
    rw [List.length_map, List.length_range, ← hDI.2.2.2.2.1.2.1]
    exact kk
  rw [if_neg h4] at kk
  refine wp_neg h4 ?_
  by_cases h5 : x = 5
  · rw [if_pos h5] at kk
    refine wp_pos h5 ?_
    refine wc_call hax t0 ?_
    have key : ∀ (d i fu : Nat), d + i = nl → d < fu → Wp (f_X11_countLasting_4 (some ax) fu (nI (lst (D 28) i)) (nI i)) (E, D, I) (fun v g' => Wp (mp v) g' Q) := by
      intro d
      induction d with
      | zero =>
        intro i fu hd hf
        cases fu with
        | zero => exact absurd hf (Nat.not_lt_zero _)
        | succ fu =>
          rw [f_X11_countLasting_4]
          refine wc_R hax t0 t4 rfl ?_
          refine wc_call rfl hL.1 (l_size hL rfl rfl ?_)
          rw [List.length_map, List.length_range]
          have e : i = nl := by omega
          subst e
          exact wp_pos ((nI_leI (by omega) (by omega)).mpr (Nat.le_refl _)) (wp_mp (wp_mp kk))
      | succ d ih =>
        intro i fu hd hf
        cases fu with
        | zero => exact absurd hf (Nat.not_lt_zero _)
        | succ fu =>
          have hi : i < nl := by omega
          obtain ⟨l1, l2, l3, l4, l5, l6, l7, -⟩ := hLk i hi
          rw [f_X11_countLasting_4]
          unfold f_X11_countLasting_35
          refine wc_R hax t0 t4 rfl ?_
          refine wc_call rfl hL.1 (l_size hL rfl rfl ?_)
          rw [List.length_map, List.length_range]
          refine wp_neg (fun e => by have := (nI_leI (by omega) (by omega)).mp e; omega) ?_
          refine wc_R hax t0 t4 rfl ?_
          refine wc_call rfl hL.1 (l_get hL rfl rfl (t := (16, i, 0)) (by rw [List.getElem?_map, List.getElem?_range hi]; rfl) ?_)
          refine wc_ck rfl l1 ?_
          refine wc_I (t := (16, i, 0)) rfl rfl l1 rfl ?_
          rw [l7]
          have e1 : lst (D 28) (i + 1) = lst (D 28) i + (if D 28 i = 0 then 1 else 0) := rfl
          refine wp_ite (fun e => ?_) (fun e => ?_)
          · rw [if_pos e] at e1
            rw [nI_1, nI_1, ← e1]
            exact ih (i + 1) fu (by omega) (by omega)
          · have e2 : lst (D 28) (i + 1) = lst (D 28) i := by rw [e1, if_neg e]; rfl
            rw [nI_1, ← e2]
            exact ih (i + 1) fu (by omega) (by omega)
    unfold f_X11_countLasting
    exact key nl 0 fuL (by omega) (fu_ok (by omega))
  rw [if_neg h5] at kk
  refine wp_neg h5 ?_
  by_cases h6 : x = 6
  · rw [if_pos h6] at kk
    refine wp_pos h6 ?_
    refine wc_R hax t0 t6 rfl ?_
    refine wc_call rfl hT.2.2.1.1 ?_
    unfold f_X10_size
    refine wc_I (t := (5, 0, 0)) rfl rfl hT.2.2.1.1 rfl (wp_mp (wp_mp ?_))
    rw [hDat.2.2.2.2.2.1]
    exact kk
  rw [if_neg h6] at kk
  exact wp_neg h6 (wp_mp kk)
theorem c_member {P : (Int32 ⊕ String) → Gh → Prop} {y : Int32} (hc : Cst E I D Z ax ao cap nn nm ng ns nl nc) (k1 : (x < 0 ∨ ¬ x < nI ng) → P (.inr eI) (eXc E 1 6, D, I)) (k2 : ¬ x < 0 → x < nI ng → (y < 0 ∨ ¬ y < nI nm) → P (.inr eI) (eXc E 1 6, D, I)) (k3 : ∀ g m, g < ng → x = nI g → m < nm → y = nI m → P (.inl (b2i (memB (D 8) (D 6) g m))) (E, D, I)) : Wp (f_X11_member (some ax) x y) (E, D, I) P := by
  obtain ⟨hT, hDat, hC, hDI⟩ := id hc
  have hng := hDI.2.2.1.1
  have hnm := hDI.2.1.1
  obtain ⟨⟨-, hax, -⟩, t0, t1, t2, t3, -⟩ := id hc.1.1
  obtain ⟨⟨c1, -, hM⟩, -⟩ := hDat.2.1
  unfold f_X11_member
  refine wc_R hax t0 t3 rfl ?_
  refine wc_call rfl hT.2.1.1 ?_
  unfold f_X3_size
  refine wc_I (t := (4, 0, 0)) rfl rfl hT.2.1.1 rfl (wp_mp ?_)
  rw [hDat.2.2.1.1, hDI.2.2.1.2.1]
  refine c_need (by omega) k1 (fun g hg e => ?_)
  subst e
  refine wc_R hax t0 t2 rfl ?_
  refine wc_call rfl hM.1 (l_size hM rfl rfl ?_)
  rw [List.length_map, List.length_range]
  refine c_need (by omega) (k2 (nI_pos (by omega)) ((nI_ltI (by omega) (by omega)).mpr hg)) (fun m hm e => ?_)
  subst e
  refine wc_R hax t0 t3 rfl ?_
  refine wc_call rfl hT.2.1.1 (c_groupsOf hT.2.1 hDat.2.2.1 hDI.2.2.1 rfl (by omega) (fun x2 hx2 => ?_))
  have k3 := k3 g m hg rfl hm rfl
  rw [bt_shr _ (by omega), hx2 g (by omega), decide_eq_true (show g < 20 by omega), Bool.true_and]
  unfold f_X11_member_42
  cases h : memB (D 8) (D 6) g m with
  | true => rw [h] at k3; exact wp_neg (by decide) (wp_rzX (.inr rfl) k3)
  | false => rw [h] at k3; exact wp_pos rfl (wp_rzX (.inl rfl) k3)
end CO
