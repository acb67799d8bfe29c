/-! ===== the class: feed ===== -/
section DA
variable {E : Es} {I I' : Tg → Nat → Int32} {G D D' : Nat → Nat → Int32} {Z : Nat → Nat} {cap nn nm ng ns nl nc ax ao : Nat}
theorem tpL_fr : ∀ (bs : List Int32) (D : Nat → Nat → Int32) (p : Nat), (∀ j, j ≠ 0 → j ≠ 14 → tpL bs D p j = D j) ∧ (∀ k, k ≠ 15 → tpL bs D p 0 k = D 0 k)
  | [], _, _ => ⟨fun _ _ _ => rfl, fun _ _ => rfl⟩
  | b :: bs, D, p => by
    obtain ⟨h1, h2⟩ := tpL_fr bs (tp1 D p b) (p + 1)
    refine ⟨fun j h0 h14 => (h1 j h0 h14).trans ?_, fun k hk => (h2 k hk).trans ?_⟩
    · unfold tp1; rw [ds_row h0, ds_row h14]
    · unfold tp1; rw [ds_ne (fun q => hk q.2), ds_ne (fun q => absurd q.1 (by decide))]
theorem fdB_15 {x : Int32} {p : Nat} : tpL (fdB x) D p 0 15 = nI (p + 4) := by
  exact tp1_15 (D := tp1 (tp1 (tp1 D p (byt x 24)) (p + 1) (byt x 16)) (p + 1 + 1) (byt x 8)) (p := p + 1 + 1 + 1) (b := byt x 0)
theorem Cst.tap {tp : Nat} (hc : Cst E I D Z ax ao cap nn nm ng ns nl nc) (hI : ∀ t j, t.1 ≠ 5 → I' t j = I t j) (hC : CTap E I' D') (hr : ∀ j, j ≠ 0 → j ≠ 14 → D' j = D j) (h0 : ∀ k, k ≠ 0 → k ≠ 15 → D' 0 k = D 0 k) (ht : DTap D' tp) : Cst E I' D' Z ax ao cap nn nm ng ns nl nc := by
  obtain ⟨hT, hDat, hCs, hDI⟩ := hc
  have s : ∀ a, Nat.beq a 5 = false → SamT a E I E I' := fun a ha b c => ⟨rfl, rfl, rfl, fun _ => rfl, fun _ => rfl, fun k => hI _ _ (fun e => by
    have e2 : a = 5 := e
    subst e2; cases ha)⟩
  refine ⟨hT, ⟨hDat.1.cg (s 3 rfl) (s 12 rfl) (s 13 rfl) (hr 1 (by decide) (by decide)) (hr 2 (by decide) (by decide)) ?_, hDat.2.1.cg (s 20 rfl) (s 14 rfl) (hr 4 (by decide) (by decide)) (hr 5 (by decide) (by decide)), hDat.2.2.1.cg (s 4 rfl) (h0 9 (by decide) (by decide)) (hr 6 (by decide) (by decide)) (hr 8 (by decide) (by decide)), hDat.2.2.2.1.cg (s 21 rfl) (s 15 rfl) (fun k => hI _ _ (by simp)) (hr 10 (by decide) (by decide)) (hr 11 (by decide) (by decide)) (hr 13 (by decide) (by decide)), hDat.2.2.2.2.1.cg (s 22 rfl) (s 16 rfl) (s 17 rfl) (hr 24 (by decide) (by decide)) (hr 25 (by decide) (by decide)) (hr 26 (by decide) (by decide)) (hr 27 (by decide) (by decide)) (hr 28 (by decide) (by decide)) (fun l _ => by rw [hr 21 (by decide) (by decide), hr 29 (by decide) (by decide), hr 30 (by decide) (by decide)]), hC⟩, hCs.cg (s 8 rfl) (s 9 rfl), ?_⟩
  · funext i
    unfold lnkN
    rw [hr 31 (by decide) (by decide), hr 28 (by decide) (by decide), hr 24 (by decide) (by decide)]
  · obtain ⟨a1, a2, a3, a4, a5, tq, a6⟩ := hDI
    exact ⟨a1.cg (h0 3 (by decide) (by decide)) (hr 1 (by decide) (by decide)) (hr 2 (by decide) (by decide)), a2.cg (h0 7 (by decide) (by decide)) (hr 4 (by decide) (by decide)) (hr 5 (by decide) (by decide)), a3.cg (h0 9 (by decide) (by decide)) (hr 6 (by decide) (by decide)) (hr 8 (by decide) (by decide)), a4.cg (h0 12 (by decide) (by decide)) (hr 10 (by decide) (by decide)) (hr 11 (by decide) (by decide)) (hr 13 (by decide) (by decide)), a5.cg (h0 32 (by decide) (by decide)) (h0 22 (by decide) (by decide)) (fun j hj => hr j (by omega) (by omega)), tp, ht⟩
theorem c_feed {P : Int32 → Gh → Prop} {p : Nat} {a b c d e : Int32} (hc : Cst E I D Z ax ao cap nn nm ng ns nl nc) (hp : DTap D p) (k1 : ¬ p + 20 ≤ 200 → P (-1) (E, D, I)) (k2 : p + 20 ≤ 200 → ∀ I', Cst E I' (tpL (fdB e) (tpL (fdB d) (tpL (fdB c) (tpL (fdB b) (tpL (fdB a) (ds D 0 0 0) p) (p + 4)) (p + 8)) (p + 12)) (p + 16)) Z ax ao cap nn nm ng ns nl nc → P (nI (p + 20)) (E, D, I')) : Wp (f_X11_feed (some ax) a b c d e) (E, D, I) P := by
  obtain ⟨hT, hDat, hC, hDI⟩ := id hc
  obtain ⟨⟨-, hax, -⟩, t0, -, -, -, -, -, -, t6, -⟩ := id hT.1
  obtain ⟨hp2, hp15⟩ := hp
  have hTp := hT.2.2.1
  have h0 : CTap E I (ds D 0 0 0) := by
    refine hDat.2.2.2.2.2.cg SamT.rf rfl (ds_ne (fun q => absurd q.2 (by decide))) (ds_row (by decide)) (ds_ne (fun q => absurd q.2 (by decide)))
  have e0 : ds D 0 0 0 0 15 = nI p := by rw [ds_ne (fun q => absurd q.2 (by decide))]; exact hp15
  unfold f_X11_feed
  refine wc_R hax t0 t6 rfl ?_
  refine wc_call rfl hTp.1 ?_
  unfold f_X10_hasRoom
  refine wc_I rfl rfl hTp.1 rfl ?_
  rw [h0.1, e0, show (20 : Int32) = nI 20 from rfl, nI_add]
  unfold f_X10_hasRoom_17
  refine wp_ite (fun h => wp_rz (.inl rfl) ?_) (fun h => wp_rz (.inr rfl) ?_)
  · refine wp_pos rfl (wp_mp (k1 (fun q => ?_)))
    have := (nI_ltI (a := 200) (by omega) (by omega)).mp h
    omega
  have hp20 : p + 20 ≤ 200 := by
    refine Nat.le_of_not_lt (fun q => h ?_)
    exact (nI_ltI (a := 200) (by omega) (by omega)).mpr q
  refine wp_neg (by decide) ?_
  refine wc_R hax t0 t6 rfl ?_
  refine wc_call rfl hTp.1 (c_addN hTp rfl h0 e0 (by omega) (fun I1 f1 h1 => ?_))
  refine wc_R hax t0 t6 rfl ?_
  refine wc_call rfl hTp.1 (c_addN hTp rfl h1 fdB_15 (by omega) (fun I2 f2 h2 => ?_))
  refine wc_R hax t0 t6 rfl ?_
  refine wc_call rfl hTp.1 (c_addN hTp rfl h2 fdB_15 (by omega) (fun I3 f3 h3 => ?_))
  refine wc_R hax t0 t6 rfl ?_
  refine wc_call rfl hTp.1 (c_addN hTp rfl h3 fdB_15 (by omega) (fun I4 f4 h4 => ?_))
  refine wc_R hax t0 t6 rfl ?_
  refine wc_call rfl hTp.1 (c_addN hTp rfl h4 fdB_15 (by omega) (fun I5 f5 h5 => ?_))
  refine wc_R hax t0 t6 rfl ?_
  refine wc_call rfl hTp.1 ?_
  unfold f_X10_size
  refine wc_I rfl rfl hTp.1 rfl (wp_mp (wp_mp ?_))
  rw [h5.1, fdB_15]
  refine k2 hp20 I5 (hc.tap (tp := p + 20) (fun t j ht => ?_) h5 (fun j q0 q14 => ?_) (fun k q0 q15 => ?_) ⟨hp20, fdB_15⟩)
  · rw [f5 t j ht, f4 t j ht, f3 t j ht, f2 t j ht, f1 t j ht]
  · rw [(tpL_fr _ _ _).1 j q0 q14, (tpL_fr _ _ _).1 j q0 q14, (tpL_fr _ _ _).1 j q0 q14, (tpL_fr _ _ _).1 j q0 q14, (tpL_fr _ _ _).1 j q0 q14, ds_row q0]
  · rw [(tpL_fr _ _ _).2 k q15, (tpL_fr _ _ _).2 k q15, (tpL_fr _ _ _).2 k q15, (tpL_fr _ _ _).2 k q15, (tpL_fr _ _ _).2 k q15, ds_ne (fun q => q0 q.2)]
end DA
