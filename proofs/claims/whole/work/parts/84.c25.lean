/-! ===== the class: tell, untell, fact ===== -/
section CU
variable {E : Es} {I I' : Tg → Nat → Int32} {D D' : Nat → Nat → Int32} {Z : Nat → Nat} {cap nn nm ng ns nl nc ax ao : Nat} {P : (Int32 ⊕ String) → Gh → Prop}
theorem FrL.lk {js ks : List Nat} (h : FrL js ks D D') (h24 : 24 ∉ js) (h28 : 28 ∉ js) (h31 : 31 ∉ js) : lnkN D' nl = lnkN D nl := by
  funext i
  unfold lnkN
  rw [h.1 31 (by omega) h31, h.1 28 (by omega) h28, h.1 24 (by omega) h24]
theorem SamT.i {a : Nat} (h : ∀ b c k, I' (a, b, c) k = I (a, b, c) k) : SamT a E I E I' := fun b c => ⟨rfl, rfl, rfl, fun _ => rfl, fun _ => rfl, fun k => h b c k⟩
theorem Cst.sets (hc : Cst E I D Z ax ao cap nn nm ng ns nl nc) (hF : FrL [10, 11] [0] D D') (hI : ∀ t k, t.1 ≠ 15 → I' t k = I t k) (hS : ∀ z, z < ns → SetC E I' D' z) (hD : DSet D' ns) : Cst E I' D' Z ax ao cap nn nm ng ns nl nc := by
  obtain ⟨hT, hDat, hC, hDI⟩ := hc
  obtain ⟨a1, a2, a3, a4, a5, tp, a6⟩ := hDI
  have S : ∀ a, a ≠ 15 → SamT a E I E I' := fun a ha => SamT.i (fun b c k => hI (a, b, c) k ha)
  have r := hF.1
  have s := hF.2
  obtain ⟨⟨c3, s0, s1⟩, s2, s3, s4⟩ := hDat.2.2.2.1
  refine ⟨hT, ⟨hDat.1.cg (S 3 (by decide)) (S 12 (by decide)) (S 13 (by decide)) (r 1 (by decide) (by decide)) (r 2 (by decide) (by decide)) (hF.lk (by decide) (by decide) (by decide)), hDat.2.1.cg (S 20 (by decide)) (S 14 (by decide)) (r 4 (by decide) (by decide)) (r 5 (by decide) (by decide)), hDat.2.2.1.cg (S 4 (by decide)) (s 9 (by decide)) (r 6 (by decide) (by decide)) (r 8 (by decide) (by decide)), ⟨⟨c3, s0, (S 21 (by decide)).lst s1⟩, hS, s3, fun k hk => by rw [hI _ _ (by simp), r 13 (by decide) (by decide)]; exact s4 k hk⟩, hDat.2.2.2.2.1.cg (S 22 (by decide)) (S 16 (by decide)) (S 17 (by decide)) (r 24 (by decide) (by decide)) (r 25 (by decide) (by decide)) (r 26 (by decide) (by decide)) (r 27 (by decide) (by decide)) (r 28 (by decide) (by decide)) (fun l _ => by rw [r 21 (by decide) (by decide), r 29 (by decide) (by decide), r 30 (by decide) (by decide)]), hDat.2.2.2.2.2.cg (S 5 (by decide)) (hI _ _ (by simp)) (s 15 (by decide)) (r 14 (by decide) (by decide)) (s 19 (by decide))⟩, hC.cg (S 8 (by decide)) (S 9 (by decide)), a1.cg (s 3 (by decide)) (r 1 (by decide) (by decide)) (r 2 (by decide) (by decide)), a2.cg (s 7 (by decide)) (r 4 (by decide) (by decide)) (r 5 (by decide) (by decide)), a3.cg (s 9 (by decide)) (r 6 (by decide) (by decide)) (r 8 (by decide) (by decide)), hD, a5.cg (s 32 (by decide)) (s 22 (by decide)) (fun j hj => r j (by omega) (by simp; omega)), tp, a6.cg (s 15 (by decide))⟩
theorem Cst.macs (hc : Cst E I D Z ax ao cap nn nm ng ns nl nc) (hF : FrL [5] [0] D D') (hI : ∀ t k, t.1 ≠ 14 → I' t k = I t k) (hS : ∀ z, z < nm → MacC E I' D' z) (hD : DMach D' nn nm) : Cst E I' D' Z ax ao cap nn nm ng ns nl nc := by
  obtain ⟨hT, hDat, hC, hDI⟩ := hc
  obtain ⟨a1, a2, a3, a4, a5, tp, a6⟩ := hDI
  have S : ∀ a, a ≠ 14 → SamT a E I E I' := fun a ha => SamT.i (fun b c k => hI (a, b, c) k ha)
  have r := hF.1
  have s := hF.2
  obtain ⟨⟨c3, s0, s1⟩, s2, s3⟩ := hDat.2.1
  refine ⟨hT, ⟨hDat.1.cg (S 3 (by decide)) (S 12 (by decide)) (S 13 (by decide)) (r 1 (by decide) (by decide)) (r 2 (by decide) (by decide)) (hF.lk (by decide) (by decide) (by decide)), ⟨⟨c3, s0, (S 20 (by decide)).lst s1⟩, hS, s3⟩, hDat.2.2.1.cg (S 4 (by decide)) (s 9 (by decide)) (r 6 (by decide) (by decide)) (r 8 (by decide) (by decide)), hDat.2.2.2.1.cg (S 21 (by decide)) (S 15 (by decide)) (fun k => hI _ _ (by simp)) (r 10 (by decide) (by decide)) (r 11 (by decide) (by decide)) (r 13 (by decide) (by decide)), hDat.2.2.2.2.1.cg (S 22 (by decide)) (S 16 (by decide)) (S 17 (by decide)) (r 24 (by decide) (by decide)) (r 25 (by decide) (by decide)) (r 26 (by decide) (by decide)) (r 27 (by decide) (by decide)) (r 28 (by decide) (by decide)) (fun l _ => by rw [r 21 (by decide) (by decide), r 29 (by decide) (by decide), r 30 (by decide) (by decide)]), hDat.2.2.2.2.2.cg (S 5 (by decide)) (hI _ _ (by simp)) (s 15 (by decide)) (r 14 (by decide) (by decide)) (s 19 (by decide))⟩, hC.cg (S 8 (by decide)) (S 9 (by decide)), a1.cg (s 3 (by decide)) (r 1 (by decide) (by decide)) (r 2 (by decide) (by decide)), hD, a3.cg (s 9 (by decide)) (r 6 (by decide) (by decide)) (r 8 (by decide) (by decide)), a4.cg (s 12 (by decide)) (r 10 (by decide) (by decide)) (r 11 (by decide) (by decide)) (r 13 (by decide) (by decide)), a5.cg (s 32 (by decide)) (s 22 (by decide)) (fun j hj => r j (by omega) (by simp; omega)), tp, a6.cg (s 15 (by decide))⟩
/-- a set tells -/
theorem Cst.tell {z s : Nat} {v : Int32} (hc : Cst E I D Z ax ao cap nn nm ng ns nl nc) (hz : z < ns) (hs : s < 12) (hI : ∀ t k, ¬ (t = (15, z, 0) ∧ k = 1) → ¬ (t = (15, z, 1) ∧ k = s) → I' t k = I t k) (h1 : I' (15, z, 0) 1 = D 10 z ||| ((1 : Int32) <<< (nI s &&& 31))) (h2 : I' (15, z, 1) s = v) : Cst E I' (ds (ds (ds D 0 0 0) 10 z (D 10 z ||| ((1 : Int32) <<< (nI s &&& 31)))) 11 (12 * z + s) v) Z ax ao cap nn nm ng ns nl nc := by
  have d10 : ∀ k, ds (ds (ds D 0 0 0) 10 z (D 10 z ||| ((1 : Int32) <<< (nI s &&& 31)))) 11 (12 * z + s) v 10 k = if k = z then D 10 z ||| ((1 : Int32) <<< (nI s &&& 31)) else D 10 k := fun k => by
    rw [ds_ne (fun q => absurd q.1 (by decide))]
    by_cases e : k = z
    · subst e; rw [ds_eq, if_pos rfl]
    · rw [ds_ne (fun q => e q.2), ds_ne (fun q => absurd q.1 (by decide)), if_neg e]
  have d11 : ∀ k, ds (ds (ds D 0 0 0) 10 z (D 10 z ||| ((1 : Int32) <<< (nI s &&& 31)))) 11 (12 * z + s) v 11 k = if k = 12 * z + s then v else D 11 k := fun k => by
    by_cases e : k = 12 * z + s
    · subst e; rw [ds_eq, if_pos rfl]
    · rw [ds_ne (fun q => e q.2), ds_ne (fun q => absurd q.1 (by decide)), ds_ne (fun q => absurd q.1 (by decide)), if_neg e]
  have d13 : ds (ds (ds D 0 0 0) 10 z (D 10 z ||| ((1 : Int32) <<< (nI s &&& 31)))) 11 (12 * z + s) v 13 = D 13 := by rw [ds_row (by decide), ds_row (by decide), ds_row (by decide)]
  have hSc := hc.2.1.2.2.2.1.2.1
  obtain ⟨b1, b2, b3, b4, b5, b6⟩ := hc.2.2.2.2.2.2.1
  refine hc.sets ⟨fun j h0 hj => ?_, fun k hk => ?_⟩ (fun t k ht => hI t k (fun q => ht (by rw [q.1])) (fun q => ht (by rw [q.1]))) (fun y hy => ?_) ⟨b1, ?_, fun y i hi => ?_, fun y hy => ?_, fun k hk => ?_, by rw [d13]; exact b6⟩
  · simp only [List.mem_cons, List.not_mem_nil, or_false, not_or] at hj
    rw [ds_row hj.2, ds_row hj.1, ds_row h0]
  · rw [ds_ne (fun q => absurd q.1 (by decide)), ds_ne (fun q => absurd q.1 (by decide)), ds_ne (fun q => hk (by rw [q.2]; decide))]
  · obtain ⟨q1, q2, q3, q4, q5, q6⟩ := hSc y hy
    refine ⟨q1, q2, q3, q4, ?_, fun k hk => ?_⟩
    · rw [d10]
      by_cases e : y = z
      · subst e; rw [if_pos rfl]; exact h1
      · rw [if_neg e, hI _ _ (fun q => e (congrArg (fun t : Tg => t.2.1) q.1)) (fun q => e (congrArg (fun t : Tg => t.2.1) q.1))]
        exact q5
    · rw [d11]
      by_cases e : y = z ∧ k = s
      · obtain ⟨rfl, rfl⟩ := e
        rw [if_pos rfl]; exact h2
      · rw [if_neg (by omega), hI _ _ (fun q => by simp at q) (fun q => e ⟨congrArg (fun t : Tg => t.2.1) q.1, q.2⟩)]
        exact q6 k hk
  · rw [ds_ne (fun q => absurd q.1 (by decide)), ds_ne (fun q => absurd q.1 (by decide)), ds_ne (fun q => absurd q.2 (by decide))]
    exact b2
  · rw [d10]
    split
    · by_cases h32 : i < 32
      · rw [b_or, b3 z i hi, bt_sh (by omega) h32, decide_eq_false (by omega)]; rfl
      · exact b_big (by omega)
    · exact b3 y i hi
  · rw [d10, if_neg (by omega)]; exact b4 y hy
  · rw [d11, if_neg (by omega)]; exact b5 k hk
theorem c_tell {x y v : Int32} (hc : Cst E I D Z ax ao cap nn nm ng ns nl nc) (k1 : (x < 0 ∨ ¬ x < nI ns) → P (.inr eI) (eXc E 1 6, D, I)) (k2 : ¬ x < 0 → x < nI ns → (y < 0 ∨ ¬ y < 12) → P (.inr eA) (eXc E 1 6, D, I)) (k3 : ∀ set s, set < ns → x = nI set → s < 12 → y = nI s → ∀ I', Cst E I' (ds (ds (ds D 0 0 0) 10 set (D 10 set ||| ((1 : Int32) <<< (nI s &&& 31)))) 11 (12 * set + s) v) Z ax ao cap nn nm ng ns nl nc → P (.inl (b2i (!(bt (D 10 set) s && decide (D 11 (12 * set + s) = v))))) (E, D, I')) : Wp (f_X11_tell (some ax) x y v) (E, D, I) P := by
  obtain ⟨hT, hDat, hC, hDI⟩ := id hc
  obtain ⟨⟨-, hax, -⟩, t0, t1, t2, t3, t3', -⟩ := id hT.1
  obtain ⟨⟨cs, -, hL⟩, hSc, -⟩ := hDat.2.2.2.1
  have hns := hDI.2.2.2.1.1
  unfold f_X11_tell
  refine wc_R hax t0 t3' rfl ?_
  refine wc_call rfl hL.1 (l_size hL rfl rfl ?_)
  rw [List.length_map, List.length_range]
  refine c_need (by omega) k1 (fun z hz e => ?_)
  subst e
  refine c_choice (n := 12) (by omega) (k2 (nI_pos (by omega)) ((nI_ltI (by omega) (by omega)).mpr hz)) (fun s hs e => ?_)
  subst e
  have k3 := k3 z s hz rfl hs rfl
  have hS := hSc z hz
  obtain ⟨q1, q2, q3, q4, q5, q6⟩ := id hS
  refine wc_R hax t0 t3' rfl ?_
  refine wc_call rfl hL.1 (l_get hL rfl rfl (t := (15, z, 0)) (by rw [List.getElem?_map, List.getElem?_range hz]; rfl) ?_)
  refine wc_ck rfl q1 ?_
  refine wc_call rfl q1 ?_
  have put : (bt (D 10 z) s && decide (D 11 (12 * z + s) = v)) = false → Wp (f_X0_put_33 (some (eAd E (15, z, 0))) (nI s) v) (E, D, I) (fun r g' => Wp (rzX .boolean r) g' P) := fun h => by
    unfold f_X0_put_33
    refine wc_R rfl q1 q2 rfl ?_
    refine wc_s (t := (15, z, 1)) s rfl rfl q3 (.inr (.inl rfl)) rfl (by omega) (by rw [q4]; omega) ?_
    refine wc_I (t := (15, z, 0)) rfl rfl q1 rfl ?_
    rw [us_ne (by simp), q5]
    refine wc_P (t := (15, z, 0)) rfl rfl q1 rfl rfl ?_
    rw [h] at k3
    refine wp_rz (.inr rfl) (wp_rzX (.inr rfl) (k3 _ (hc.tell hz hs (fun t k a1 a2 => ?_) ?_ ?_)))
    · rw [us_ne (fun q => a1 q), us_ne (fun q => a2 q)]
    · rw [us_eq]
    · rw [us_ne (by simp), us_eq]; rfl
  unfold f_X0_put f_X0_put_31
  refine wp_neg (nI_pos (by omega)) ?_
  refine wc_R rfl q1 q2 rfl ?_
  refine wc_aN rfl q3 (by omega) ?_
  rw [q4]
  refine wp_neg (fun e => by have := (nI_leI (by omega) (by omega)).mp e; omega) ?_
  refine wc_call rfl q1 (c_tells hS rfl hs ?_)
  cases hb : bt (D 10 z) s with
  | false =>
    refine wp_pos rfl (put (by rw [hb]; rfl))
  | true =>
    refine wp_neg (by show ¬ (b2i true = 0); decide) ?_
    refine wc_R rfl q1 q2 rfl ?_
    refine wc_a (t := (15, z, 1)) s rfl rfl q3 (.inr (.inl rfl)) rfl (by omega) (by rw [q4]; omega) ?_
    rw [q6 s hs]
    by_cases e : D 11 (12 * z + s) = v
    · refine wp_pos e ?_
      rw [hb, decide_eq_true e] at k3
      refine wp_rz (.inl rfl) (wp_rzX (.inl rfl) (k3 I (hc.tell hz hs (fun t k _ _ => rfl) ?_ ?_)))
      · rw [q5]
        refine b_ext (fun i hi => ?_)
        rw [b_or, bt_sh (by omega) hi]
        by_cases ei : i = s
        · subst ei; rw [hb]; rfl
        · rw [decide_eq_false ei, Bool.or_false]
      · rw [q6 s hs]; exact e
    · exact wp_neg e (put (by rw [hb, decide_eq_false e]; rfl))
theorem c_untell {x y : Int32} (hc : Cst E I D Z ax ao cap nn nm ng ns nl nc) (k1 : (x < 0 ∨ ¬ x < nI ns) → P (.inr eI) (eXc E 1 6, D, I)) (k2 : ¬ x < 0 → x < nI ns → (y < 0 ∨ ¬ y < 12) → P (.inr eA) (eXc E 1 6, D, I)) (k3 : ∀ set s, set < ns → x = nI set → s < 12 → y = nI s → ∀ I', Cst E I' (ds (ds D 0 0 0) 10 set (bput (D 10 set) s false)) Z ax ao cap nn nm ng ns nl nc → P (.inl (b2i (bt (D 10 set) s))) (E, D, I')) : Wp (f_X11_untell (some ax) x y) (E, D, I) P := by
  obtain ⟨hT, hDat, hC, hDI⟩ := id hc
  obtain ⟨⟨-, hax, -⟩, t0, t1, t2, t3, t3', -⟩ := id hT.1
  obtain ⟨⟨cs, -, hL⟩, hSc, -⟩ := hDat.2.2.2.1
  have hns := hDI.2.2.2.1.1
  unfold f_X11_untell
  refine wc_R hax t0 t3' rfl ?_
  refine wc_call rfl hL.1 (l_size hL rfl rfl ?_)
  rw [List.length_map, List.length_range]
  refine c_need (by omega) k1 (fun z hz e => ?_)
  subst e
  refine c_choice (n := 12) (by omega) (k2 (nI_pos (by omega)) ((nI_ltI (by omega) (by omega)).mpr hz)) (fun s hs e => ?_)
  subst e
  have k3 := k3 z s hz rfl hs rfl
  have hS := hSc z hz
  obtain ⟨q1, q2, q3, q4, q5, q6⟩ := id hS
  refine wc_R hax t0 t3' rfl ?_
  refine wc_call rfl hL.1 (l_get hL rfl rfl (t := (15, z, 0)) (by rw [List.getElem?_map, List.getElem?_range hz]; rfl) ?_)
  refine wc_ck rfl q1 ?_
  refine wc_call rfl q1 ?_
  unfold f_X0_drop
  refine wc_call rfl q1 (c_tells hS rfl hs ?_)
  refine wc_I (t := (15, z, 0)) rfl rfl q1 rfl ?_
  rw [q5]
  refine wc_P (t := (15, z, 0)) rfl rfl q1 rfl rfl ?_
  have eb : D 10 z &&& ((1 : Int32) <<< (nI s &&& 31) ^^^ (-1)) = bput (D 10 z) s false := by
    refine b_ext (fun i hi => ?_)
    unfold bput
    rw [b_and, bt_no _ hi, bt_sh (by omega) hi]
    by_cases h : bt (D 10 z) s = false
    · rw [if_pos h]
      by_cases e : i = s
      · subst e; rw [h]; rfl
      · rw [decide_eq_false e]; simp
    · rw [if_neg h, b_xor, bt_sh (by omega) hi]
      by_cases e : i = s
      · subst e; rw [decide_eq_true rfl, ts_nf h]; rfl
      · rw [decide_eq_false e]; simp
  rw [eb]
  have hv : b2i (bt (D 10 z) s) = 0 ∨ b2i (bt (D 10 z) s) = 1 := by cases bt (D 10 z) s; exact .inl rfl; exact .inr rfl
  refine wp_rz hv (wp_rzX hv (k3 _ ?_))
  have d10 : ∀ k, ds (ds D 0 0 0) 10 z (bput (D 10 z) s false) 10 k = if k = z then bput (D 10 z) s false else D 10 k := fun k => by
    by_cases e : k = z
    · subst e; rw [ds_eq, if_pos rfl]
    · rw [ds_ne (fun q => e q.2), ds_ne (fun q => absurd q.1 (by decide)), if_neg e]
  obtain ⟨b1, b2, b3, b4, b5, b6⟩ := hDI.2.2.2.1
  have r : ∀ j, j ≠ 0 → j ≠ 10 → ds (ds D 0 0 0) 10 z (bput (D 10 z) s false) j = D j := fun j h0 hj => by rw [ds_row hj, ds_row h0]
  refine hc.sets ⟨fun j h0 hj => r j h0 (fun e => hj (by rw [e]; decide)), fun k hk => ?_⟩ (fun t k ht => us_ne (fun q => ht (by rw [q.1]))) (fun y hy => ?_) ⟨b1, ?_, fun y i hi => ?_, fun y hy => ?_, fun k hk => ?_, by rw [r 13 (by decide) (by decide)]; exact b6⟩
  · rw [ds_ne (fun q => absurd q.1 (by decide)), ds_ne (fun q => hk (by rw [q.2]; decide))]
  · obtain ⟨p1, p2, p3, p4, p5, p6⟩ := hSc y hy
    refine ⟨p1, p2, p3, p4, ?_, fun k hk => by rw [us_ne (by simp), r 11 (by decide) (by decide)]; exact p6 k hk⟩
    rw [d10]
    by_cases e : y = z
    · subst e; rw [if_pos rfl, us_eq]
    · rw [if_neg e, us_ne (fun q => e (congrArg (fun t : Tg => t.2.1) q.1))]; exact p5
  · rw [ds_ne (fun q => absurd q.1 (by decide)), ds_ne (fun q => absurd q.2 (by decide))]
    exact b2
  · rw [d10]
    split
    · rw [← eb, b_and, b3 z i hi]; rfl
    · exact b3 y i hi
  · rw [d10, if_neg (by omega)]; exact b4 y hy
  · rw [r 11 (by decide) (by decide)]; exact b5 k hk
end CU
