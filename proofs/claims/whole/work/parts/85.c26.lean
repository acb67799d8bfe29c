/-! ===== the class: fact, joins, within ===== -/
section CV
variable {E : Es} {I I' : Tg → Nat → Int32} {D D' : Nat → Nat → Int32} {Z : Nat → Nat} {cap nn nm ng ns nl nc ax ao : Nat} {P : (Int32 ⊕ String) → Gh → Prop}
theorem three {v : Int32} (h1 : ¬ v < -1) (h2 : v ≤ 1) : v = -1 ∨ v = 0 ∨ v = 1 := by
  rw [Int32.lt_iff_toInt_lt] at h1
  rw [Int32.le_iff_toInt_le] at h2
  have a1 : ((-1 : Int32)).toInt = -1 := by decide
  have a2 : ((1 : Int32)).toInt = 1 := by decide
  rw [a1] at h1
  rw [a2] at h2
  rcases (show v.toInt = -1 ∨ v.toInt = 0 ∨ v.toInt = 1 by omega) with h | h | h
  · exact .inl (Int32.toInt_inj.mp (by rw [h]; decide))
  · exact .inr (.inl (Int32.toInt_inj.mp (by rw [h]; decide)))
  · exact .inr (.inr (Int32.toInt_inj.mp (by rw [h]; decide)))
theorem Cst.fact {i j : Nat} {v : Int32} (hc : Cst E I D Z ax ao cap nn nm ng ns nl nc) (hi : i < nm) (hj : j < 8) (hv : v = -1 ∨ v = 0 ∨ v = 1) (hI : ∀ t k, ¬ (t = (14, i, 0) ∧ (k = 1 ∨ k = 2)) → I' t k = I t k) (h1 : ∀ f, f < 32 → bt (I' (14, i, 0) 1) f = if f = j then decide (v ≠ -1) else bt (I (14, i, 0) 1) f) (h2 : ∀ f, f < 32 → bt (I' (14, i, 0) 2) f = if f = j then decide (v = 1) else bt (I (14, i, 0) 2) f) : Cst E I' (ds (ds D 0 0 0) 5 (8 * i + j) v) Z ax ao cap nn nm ng ns nl nc := by
  have r : ∀ j', j' ≠ 0 → j' ≠ 5 → ds (ds D 0 0 0) 5 (8 * i + j) v j' = D j' := fun j' h0 hj => by rw [ds_row hj, ds_row h0]
  have d5 : ∀ k, ds (ds D 0 0 0) 5 (8 * i + j) v 5 k = if k = 8 * i + j then v else D 5 k := fun k => by
    by_cases e : k = 8 * i + j
    · subst e; rw [ds_eq, if_pos rfl]
    · rw [ds_ne (fun q => e q.2), ds_ne (fun q => absurd q.1 (by decide)), if_neg e]
  have s0 : ∀ k, k ≠ 0 → ds (ds D 0 0 0) 5 (8 * i + j) v 0 k = D 0 k := fun k hk => by rw [ds_ne (fun q => absurd q.1 (by decide)), ds_ne (fun q => hk q.2)]
  obtain ⟨b1, b2, b3, b4⟩ := hc.2.2.2.2.1
  refine hc.macs ⟨fun j' h0 hj => r j' h0 (fun e => hj (by rw [e]; decide)), fun k hk => s0 k (fun e => hk (by rw [e]; decide))⟩ (fun t k ht => hI t k (fun q => ht (by rw [q.1]))) (fun y hy => ?_) ⟨b1, by rw [s0 7 (by decide)]; exact b2, by rw [r 4 (by decide) (by decide)]; exact b3, fun m f hm hf => ?_⟩
  · obtain ⟨q1, q2, q3, q4⟩ := hc.2.1.2.1.2.1 y hy
    refine ⟨q1, by rw [r 4 (by decide) (by decide)]; exact q2, fun f hf => ?_, fun f hf => ?_⟩
    · by_cases e : y = i
      · subst e
        rw [h1 f hf]
        by_cases ef : f = j
        · subst ef
          rw [if_pos rfl, d5, if_pos rfl]
          simp [hj]
        · rw [if_neg ef, q3 f hf, d5, if_neg (by omega)]
      · rw [hI _ _ (fun q => e (congrArg (fun t : Tg => t.2.1) q.1)), q3 f hf]
        by_cases h8 : f < 8
        · rw [d5, if_neg (by omega)]
        · rw [decide_eq_false (fun q => h8 q.1), decide_eq_false (fun q => h8 q.1)]
    · by_cases e : y = i
      · subst e
        rw [h2 f hf]
        by_cases ef : f = j
        · subst ef
          rw [if_pos rfl, d5, if_pos rfl]
          simp [hj]
        · rw [if_neg ef, q4 f hf, d5, if_neg (by omega)]
      · rw [hI _ _ (fun q => e (congrArg (fun t : Tg => t.2.1) q.1)), q4 f hf]
        by_cases h8 : f < 8
        · rw [d5, if_neg (by omega)]
        · rw [decide_eq_false (fun q => h8 q.1), decide_eq_false (fun q => h8 q.1)]
  · rw [d5]
    split
    · exact hv
    · exact b4 m f hm hf
theorem c_fact {x y v : Int32} (hc : Cst E I D Z ax ao cap nn nm ng ns nl nc) (k1 : (x < 0 ∨ ¬ x < nI nm) → P (.inr eI) (eXc E 1 6, D, I)) (k2 : ¬ x < 0 → x < nI nm → (y < 0 ∨ ¬ y < 8 ∨ v < -1 ∨ ¬ v ≤ 1) → P (.inr eA) (eXc E 1 6, D, I)) (k3 : ∀ i j, i < nm → x = nI i → j < 8 → y = nI j → ¬ v < -1 → v ≤ 1 → ∀ I', Cst E I' (ds (ds D 0 0 0) 5 (8 * i + j) v) Z ax ao cap nn nm ng ns nl nc → P (.inl (D 5 (8 * i + j))) (E, D, I')) : Wp (f_X11_fact (some ax) x y v) (E, D, I) P := by
  obtain ⟨hT, hDat, hC, hDI⟩ := id hc
  obtain ⟨⟨-, hax, -⟩, t0, t1, t2, -⟩ := id hT.1
  obtain ⟨⟨cm, -, hL⟩, hMc, -⟩ := hDat.2.1
  have hnm := hDI.2.1.1
  unfold f_X11_fact f_X11_fact_27
  refine wc_R hax t0 t2 rfl ?_
  refine wc_call rfl hL.1 (l_size hL rfl rfl ?_)
  rw [List.length_map, List.length_range]
  refine c_need (by omega) k1 (fun i hi e => ?_)
  subst e
  have k2 := k2 (nI_pos (by omega)) ((nI_ltI (by omega) (by omega)).mpr hi)
  refine c_choice (n := 8) (by omega) (fun h => k2 (h.elim .inl (fun h => .inr (.inl h)))) (fun j hj e => ?_)
  subst e
  refine wp_ite (fun h => wp_mt (k2 (.inr (.inr (.inl h))))) (fun hv1 => ?_)
  refine wp_ite (fun hv2 => ?_) (fun h => wp_mt (k2 (.inr (.inr (.inr h)))))
  have hv := three hv1 hv2
  have k3 := k3 i j hi rfl hj rfl hv1 hv2
  obtain ⟨m1, m2, m3, m4⟩ := id (hMc i hi)
  refine wc_R hax t0 t2 rfl ?_
  refine wc_call rfl hL.1 (l_get hL rfl rfl (t := (14, i, 0)) (by rw [List.getElem?_map, List.getElem?_range hi]; rfl) ?_)
  refine wc_ck rfl m1 ?_
  refine wc_call rfl m1 ?_
  have learn : Wp (mb (mo 8 (some (eAd E (14, i, 0))) (f_X5_learn (some (eAd E (14, i, 0))) (nI j) v)) (fun _ => mp (.inl (D 5 (8 * i + j))))) (E, D, I) P := by
    refine wc_call rfl m1 ?_
    unfold f_X5_learn f_X5_learn_26 f_X5_learn_51
    have bsh : ∀ f, f < 32 → bt ((1 : Int32) <<< (nI j &&& 31)) f = decide (f = j) := fun f hf => bt_sh (by omega) hf
    have kbit : ∀ (x : Int32) f, f < 32 → bt (x &&& (((1 : Int32) <<< (nI j &&& 31)) ^^^ (-1))) f = if f = j then false else bt x f := fun x f hf => by
      rw [b_and, bt_no _ hf, bsh f hf]
      by_cases e : f = j
      · rw [decide_eq_true e, if_pos e]; simp
      · rw [decide_eq_false e, if_neg e]; simp
    have sbit : ∀ (x : Int32) f, f < 32 → bt (x ||| ((1 : Int32) <<< (nI j &&& 31))) f = if f = j then true else bt x f := fun x f hf => by
      rw [b_or, bsh f hf]
      by_cases e : f = j
      · rw [decide_eq_true e, if_pos e]; simp
      · rw [decide_eq_false e, if_neg e]; simp
    have fin : ∀ (a b : Int32), (∀ f, f < 32 → bt a f = if f = j then decide (v ≠ -1) else bt (I (14, i, 0) 1) f) → (∀ f, f < 32 → bt b f = if f = j then decide (v = 1) else bt (I (14, i, 0) 2) f) → P (.inl (D 5 (8 * i + j))) (E, D, us (us I (14, i, 0) 1 a) (14, i, 0) 2 b) := fun a b ha hb => by
      refine k3 _ (hc.fact hi hj hv (fun t k h => ?_) (fun f hf => ?_) (fun f hf => ?_))
      · rw [us_ne (fun q => h ⟨q.1, .inr q.2⟩), us_ne (fun q => h ⟨q.1, .inl q.2⟩)]
      · rw [us_ne (fun q => absurd q.2 (by decide)), us_eq]; exact ha f hf
      · rw [us_eq]; exact hb f hf
    rcases hv with rfl | rfl | rfl
    · refine wp_neg (by decide) ?_
      refine wc_I rfl rfl m1 rfl ?_
      refine wc_P rfl rfl m1 rfl rfl ?_
      refine wp_pos (by decide) ?_
      refine wc_I rfl rfl m1 rfl ?_
      rw [us_ne (fun q => absurd q.2 (by decide))]
      refine wc_P rfl rfl m1 rfl rfl (wp_mp (wp_mp (fin _ _ (fun f hf => ?_) (fun f hf => ?_))))
      · exact kbit _ f hf
      · exact kbit _ f hf
    · refine wp_pos (by decide) ?_
      refine wc_I rfl rfl m1 rfl ?_
      refine wc_P rfl rfl m1 rfl rfl ?_
      refine wp_pos (by decide) ?_
      refine wc_I rfl rfl m1 rfl ?_
      rw [us_ne (fun q => absurd q.2 (by decide))]
      refine wc_P rfl rfl m1 rfl rfl (wp_mp (wp_mp (fin _ _ (fun f hf => ?_) (fun f hf => ?_))))
      · exact sbit _ f hf
      · exact kbit _ f hf
    · refine wp_pos (by decide) ?_
      refine wc_I rfl rfl m1 rfl ?_
      refine wc_P rfl rfl m1 rfl rfl ?_
      refine wp_neg (by decide) ?_
      refine wc_I rfl rfl m1 rfl ?_
      rw [us_ne (fun q => absurd q.2 (by decide))]
      refine wc_P rfl rfl m1 rfl rfl (wp_mp (wp_mp (fin _ _ (fun f hf => ?_) (fun f hf => ?_))))
      · exact sbit _ f hf
      · exact sbit _ f hf
  unfold f_X5_factNow
  refine wc_I rfl rfl m1 rfl ?_
  rw [bt_shr _ (by omega), m3 j (by omega)]
  by_cases h1 : D 5 (8 * i + j) = -1
  · rw [decide_eq_false (fun q => q.2 h1)]
    rw [h1] at learn
    exact wp_pos rfl (wp_mp learn)
  · rw [decide_eq_true ⟨hj, h1⟩]
    refine wp_neg (by decide) ?_
    refine wc_I rfl rfl m1 rfl (wp_mp ?_)
    rw [bt_shr _ (by omega), m4 j (by omega)]
    rcases hDI.2.1.2.2.2 i j hi hj with h | h | h
    · exact absurd h h1
    · rw [decide_eq_false (fun q => by rw [h] at q; exact absurd q.2 (by decide))]
      rw [h] at learn
      exact learn
    · rw [decide_eq_true ⟨hj, h⟩]
      rw [h] at learn
      exact learn
theorem Cst.grps {E' : Es} (hc : Cst E I D Z ax ao cap nn nm ng ns nl nc) (hF : FrL [6, 8] [0] D D') (hT : StaC E' Z ax ao) (hS : ∀ a, a ≠ 4 → SamT a E I E' I') (hG : CGrp E' I' D') (hD : DGrp D' nm ng) : Cst E' I' D' Z ax ao cap nn nm ng ns nl nc := by
  obtain ⟨-, hDat, hC, hDI⟩ := hc
  obtain ⟨a1, a2, a3, a4, a5, tp, a6⟩ := hDI
  have r := hF.1
  have s := hF.2
  have S := hS
  refine ⟨hT, ⟨hDat.1.cg (S 3 (by decide)) (S 12 (by decide)) (S 13 (by decide)) (r 1 (by decide) (by decide)) (r 2 (by decide) (by decide)) (hF.lk (by decide) (by decide) (by decide)), hDat.2.1.cg (S 20 (by decide)) (S 14 (by decide)) (r 4 (by decide) (by decide)) (r 5 (by decide) (by decide)), hG, hDat.2.2.2.1.cg (S 21 (by decide)) (S 15 (by decide)) (fun k => (S 2 (by decide) 1 0).2.2.2.2.2 k) (r 10 (by decide) (by decide)) (r 11 (by decide) (by decide)) (r 13 (by decide) (by decide)), hDat.2.2.2.2.1.cg (S 22 (by decide)) (S 16 (by decide)) (S 17 (by decide)) (r 24 (by decide) (by decide)) (r 25 (by decide) (by decide)) (r 26 (by decide) (by decide)) (r 27 (by decide) (by decide)) (r 28 (by decide) (by decide)) (fun l _ => by rw [r 21 (by decide) (by decide), r 29 (by decide) (by decide), r 30 (by decide) (by decide)]), hDat.2.2.2.2.2.cg (S 5 (by decide)) ((S 2 (by decide) 0 0).2.2.2.2.2 8) (s 15 (by decide)) (r 14 (by decide) (by decide)) (s 19 (by decide))⟩, hC.cg (S 8 (by decide)) (S 9 (by decide)), a1.cg (s 3 (by decide)) (r 1 (by decide) (by decide)) (r 2 (by decide) (by decide)), a2.cg (s 7 (by decide)) (r 4 (by decide) (by decide)) (r 5 (by decide) (by decide)), hD, a4.cg (s 12 (by decide)) (r 10 (by decide) (by decide)) (r 11 (by decide) (by decide)) (r 13 (by decide) (by decide)), a5.cg (s 32 (by decide)) (s 22 (by decide)) (fun j hj => r j (by omega) (by simp; omega)), tp, a6.cg (s 15 (by decide))⟩
theorem bput_bt {x : Int32} {g : Nat} {b : Bool} (hg : g < 32) {i : Nat} (hi : i < 32) : bt (bput x g b) i = if i = g then b else bt x i := by
  unfold bput
  by_cases h : bt x g = b
  · rw [if_pos h]
    by_cases e : i = g
    · rw [if_pos e, e]; exact h
    · rw [if_neg e]
  · rw [if_neg h, b_xor, bt_sh hg hi]
    by_cases e : i = g
    · subst e
      rw [if_pos rfl, decide_eq_true rfl]
      cases b <;> cases hb : bt x i
      · exact absurd hb h
      · rfl
      · rfl
      · exact absurd hb h
    · rw [if_neg e, decide_eq_false e, Bool.xor_false]
end CV
