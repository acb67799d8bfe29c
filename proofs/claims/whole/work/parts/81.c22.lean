/-! ===== the class: what a change leaves as it was ===== -/
/-- the cells of a kind are as they were -/
def SamT (a : Nat) (E : Es) (I : Tg → Nat → Int32) (E' : Es) (I' : Tg → Nat → Int32) : Prop := ∀ b c, eAd E' (a, b, c) = eAd E (a, b, c) ∧ eKd E' (a, b, c) = eKd E (a, b, c) ∧ eLn E' (a, b, c) = eLn E (a, b, c) ∧ (∀ k, eRf E' (a, b, c) k = eRf E (a, b, c) k) ∧ (∀ k, eLg E' (a, b, c) k = eLg E (a, b, c) k) ∧ (∀ k, I' (a, b, c) k = I (a, b, c) k)
section CR
variable {a : Nat} {E E' E'' : Es} {I I' I'' : Tg → Nat → Int32} {D D' : Nat → Nat → Int32} {Z : Nat → Nat} {nn nm ng ns nl ax ao : Nat}
theorem SamT.rf : SamT a E I E I := fun _ _ => ⟨rfl, rfl, rfl, fun _ => rfl, fun _ => rfl, fun _ => rfl⟩
theorem SamT.tr (h : SamT a E I E' I') (h2 : SamT a E' I' E'' I'') : SamT a E I E'' I'' := fun b c => by
  obtain ⟨x1, x2, x3, x4, x5, x6⟩ := h b c
  obtain ⟨y1, y2, y3, y4, y5, y6⟩ := h2 b c
  exact ⟨y1.trans x1, y2.trans x2, y3.trans x3, fun k => (y4 k).trans (x4 k), fun k => (y5 k).trans (x5 k), fun k => (y6 k).trans (x6 k)⟩
theorem SamT.us {t : Tg} {k : Nat} {v : Int32} (h : Nat.beq a t.1 = false) : SamT a E I E (us I t k v) := fun b c => ⟨rfl, rfl, rfl, fun _ => rfl, fun _ => rfl, fun j => us_ne (fun q => by
  rw [← q.1] at h
  exact absurd (Nat.beq_refl a) (by show ¬ Nat.beq a a = true; rw [h]; decide))⟩
theorem SamT.eG {t : Tg} {k : Nat} {v : Int64} (h : Nat.beq a t.1 = false) : SamT a E I (eG E t k v) I := fun b c => ⟨rfl, rfl, rfl, fun _ => rfl, fun j => eG_ne (fun q => by
  rw [← q.1] at h
  exact absurd (Nat.beq_refl a) (by show ¬ Nat.beq a a = true; rw [h]; decide)), fun _ => rfl⟩
theorem SamT.eR {t : Tg} {k : Nat} {v : Option Tg} (h : Nat.beq a t.1 = false) : SamT a E I (eR E t k v) I := fun b c => ⟨rfl, rfl, rfl, fun j => eR_ne (fun q => by
  rw [← q.1] at h
  exact absurd (Nat.beq_refl a) (by show ¬ Nat.beq a a = true; rw [h]; decide)), fun _ => rfl, fun _ => rfl⟩
theorem SamT.lst {b c : Nat} {xs : List Tg} (h : SamT a E I E' I') (hL : Lst E I a b c xs) : Lst E' I' a b c xs := hL.cg (fun x => (h b x).2.1) (fun x => (h b x).2.2.1) (fun x k => (h b x).2.2.2.1 k) ((h b 0).2.2.2.2.2 2)
theorem CNod.cg (h : CNod E I D nn nl) (h3 : SamT 3 E I E' I') (h12 : SamT 12 E I E' I') (h13 : SamT 13 E I E' I') (d1 : D' 1 = D 1) (d2 : D' 2 = D 2) (dl : lnkN D' nl = lnkN D nl) : CNod E' I' D' nn nl := by
  obtain ⟨⟨c1, n0, n1⟩, n2, n3⟩ := h
  refine ⟨⟨c1, n0, h3.lst n1⟩, fun i hi => ?_, fun i hi => ⟨by rw [(h12 i 0).2.1]; exact (n3 i hi).1, fun c => by rw [(h13 i c).2.1]; exact (n3 i hi).2 c⟩⟩
  obtain ⟨q1, q2, q3, q4, q5, c, q6, q7⟩ := n2 i hi
  obtain ⟨e1, e2, e3, e4, e5, e6⟩ := h12 i 0
  exact ⟨by rw [e2]; exact q1, by rw [e6]; exact q2, by rw [e4, d1]; exact q3, by rw [e6, d2]; exact q4, by rw [e4]; exact q5, c, q6, by rw [dl]; exact h13.lst q7⟩
theorem CMac.cg (h : CMac E I D nm) (h20 : SamT 20 E I E' I') (h14 : SamT 14 E I E' I') (d4 : D' 4 = D 4) (d5 : D' 5 = D 5) : CMac E' I' D' nm := by
  obtain ⟨⟨c1, n0, n1⟩, n2, n3⟩ := h
  refine ⟨⟨c1, n0, h20.lst n1⟩, fun i hi => ?_, fun i hi => by rw [(h14 i 0).2.1]; exact n3 i hi⟩
  obtain ⟨q1, q2, q3, q4⟩ := n2 i hi
  obtain ⟨e1, e2, e3, e4, e5, e6⟩ := h14 i 0
  unfold MacC
  rw [e2, e4, e6, e6, d4, d5]
  exact ⟨q1, q2, q3, q4⟩
theorem CGrp.cg (h : CGrp E I D) (h4 : SamT 4 E I E' I') (d9 : D' 0 9 = D 0 9) (d6 : D' 6 = D 6) (d8 : D' 8 = D 8) : CGrp E' I' D' := by
  obtain ⟨q1, q2, q3⟩ := h
  exact ⟨by rw [(h4 0 0).2.2.2.2.2, d9]; exact q1, fun g m hg hm => by rw [(h4 1 0).2.2.2.2.1, d6]; exact q2 g m hg hm, fun g hg => by rw [(h4 2 0).2.2.2.2.2, d8]; exact q3 g hg⟩
theorem CSet.cg (h : CSet E I D ns) (h21 : SamT 21 E I E' I') (h15 : SamT 15 E I E' I') (h2 : ∀ k, I' (2, 1, 0) k = I (2, 1, 0) k) (d10 : D' 10 = D 10) (d11 : D' 11 = D 11) (d13 : D' 13 = D 13) : CSet E' I' D' ns := by
  obtain ⟨⟨c1, n0, n1⟩, n2, n3, n4⟩ := h
  refine ⟨⟨c1, n0, h21.lst n1⟩, fun i hi => ?_, fun i hi c => by rw [(h15 i c).2.1]; exact n3 i hi c, fun s hs => by rw [h2, d13]; exact n4 s hs⟩
  obtain ⟨q1, q2, q3, q4, q5, q6⟩ := n2 i hi
  obtain ⟨e1, e2, e3, e4, e5, e6⟩ := h15 i 0
  obtain ⟨f1, f2, f3, f4, f5, f6⟩ := h15 i 1
  exact ⟨by rw [e2]; exact q1, by rw [e4]; exact q2, by rw [f2]; exact q3, by rw [f3]; exact q4, by rw [e6, d10]; exact q5, fun k hk => by rw [f6, d11]; exact q6 k hk⟩
theorem CLnk.cg (h : CLnk E I D nl) (h22 : SamT 22 E I E' I') (h16 : SamT 16 E I E' I') (h17 : SamT 17 E I E' I') (d24 : D' 24 = D 24) (d25 : D' 25 = D 25) (d26 : D' 26 = D 26) (d27 : D' 27 = D 27) (d28 : D' 28 = D 28) (dc : ∀ l, l < nl → cdl (D' 21) (D' 29) (D' 30) l = cdl (D 21) (D 29) (D 30) l) : CLnk E' I' D' nl := by
  obtain ⟨⟨c1, n0, n1⟩, n2, n3⟩ := h
  refine ⟨⟨c1, n0, h22.lst n1⟩, fun i hi => ?_, fun i hi => ⟨by rw [(h16 i 0).2.1]; exact (n3 i hi).1, fun c => by rw [(h17 i c).2.1]; exact (n3 i hi).2 c⟩⟩
  obtain ⟨q1, q2, q3, q4, q5, q6, q7, q8, q9, q10, q11, q12, q13⟩ := n2 i hi
  obtain ⟨e1, e2, e3, e4, e5, e6⟩ := h16 i 0
  obtain ⟨f1, f2, f3, f4, f5, f6⟩ := h17 i 0
  obtain ⟨g1, g2, g3, g4, g5, g6⟩ := h17 i 1
  exact ⟨by rw [e2]; exact q1, by rw [e6]; exact q2, by rw [e4, d24]; exact q3, by rw [e4, d25]; exact q4, by rw [e6, d26]; exact q5, by rw [e6, d27]; exact q6, by rw [e6, d28]; exact q7, by rw [e4]; exact q8, by rw [f2]; exact q9, by rw [f4]; exact q10, by rw [g2]; exact q11, by rw [g3, dc i hi]; exact q12, fun j c hj => by rw [g6]; rw [dc i hi] at hj; exact q13 j c hj⟩
theorem CTap.cg (h : CTap E I D) (h5 : SamT 5 E I E' I') (h2 : I' (2, 0, 0) 8 = I (2, 0, 0) 8) (d15 : D' 0 15 = D 0 15) (d14 : D' 14 = D 14) (d19 : D' 0 19 = D 0 19) : CTap E' I' D' := by
  obtain ⟨q1, q2, q3⟩ := h
  exact ⟨by rw [(h5 0 0).2.2.2.2.2, d15]; exact q1, fun k hk => by rw [(h5 1 0).2.2.2.2.2, d14]; exact q2 k hk, by rw [h2, d19]; exact q3⟩
theorem CScr.cg (h : CScr E I) (h8 : SamT 8 E I E' I') (h9 : SamT 9 E I E' I') : CScr E' I' := fun r hr => by
  obtain ⟨⟨c, xs, k1, k2⟩, d, ys, k3, k4⟩ := h r hr
  exact ⟨⟨c, xs, k1, h8.lst k2⟩, d, ys, k3, h9.lst k4⟩
theorem pot_cg (h8 : SamT 8 E I E' I') (h9 : SamT 9 E I E' I') : pot E' = pot E := by
  unfold pot
  rw [capO_eq ((h8 0 0).2.2.2.1 1), capO_eq ((h9 0 0).2.2.2.1 1), capO_eq ((h8 1 0).2.2.2.1 1), capO_eq ((h9 1 0).2.2.2.1 1)]
theorem StaC.cg (h : StaC E Z ax ao) (h0 : SamT 0 E I E' I') (h2 : SamT 2 E I E' I') (h4 : SamT 4 E I E' I') (h5 : SamT 5 E I E' I') (h6 : SamT 6 E I E' I') (h7 : SamT 7 E I E' I') (h10 : SamT 10 E I E' I') (h11 : SamT 11 E I E' I') (h19 : SamT 19 E I E' I') : StaC E' Z ax ao := by
  unfold StaC TreS GrpS TapS RowS OutS at h ⊢
  simp only [(h0 _ _).1, (h2 _ _).1, (h2 _ _).2.1, (h2 _ _).2.2.1, (h2 _ _).2.2.2.1 _, (h4 _ _).2.1, (h4 _ _).2.2.1, (h4 _ _).2.2.2.1 _, (h5 _ _).2.1, (h5 _ _).2.2.1, (h5 _ _).2.2.2.1 _, (h6 _ _).2.1, (h6 _ _).2.2.1, (h6 _ _).2.2.2.1 _, (h7 _ _).2.1, (h7 _ _).2.2.1, (h7 _ _).2.2.2.1 _, (h10 _ _).2.1, (h10 _ _).2.2.1, (h10 _ _).2.2.2.1 _, (h11 _ _).2.1, (h11 _ _).2.2.1, (h11 _ _).2.2.2.1 _, (h19 _ _).1, (h19 _ _).2.1, (h19 _ _).2.2.1]
  exact h
/-- the data may be told in other words of the model's scratch -/
theorem DatC.frL {ns nm : Nat} (h : DatC E I D nn nm ns nl) (hF : FrL frA frK D D') : DatC E I D' nn nm ns nl := by
  obtain ⟨a1, a2, a3, a4, a5, a6⟩ := h
  have r : ∀ j, j ≠ 0 → j ∉ frA → D' j = D j := hF.1
  refine ⟨a1.cg SamT.rf SamT.rf SamT.rf (r 1 (by decide) (by decide)) (r 2 (by decide) (by decide)) ?_, a2.cg SamT.rf SamT.rf (r 4 (by decide) (by decide)) (r 5 (by decide) (by decide)), a3.cg SamT.rf (hF.2 9 (by decide)) (r 6 (by decide) (by decide)) (r 8 (by decide) (by decide)), a4.cg SamT.rf SamT.rf (fun _ => rfl) (r 10 (by decide) (by decide)) (r 11 (by decide) (by decide)) (r 13 (by decide) (by decide)), a5.cg SamT.rf SamT.rf SamT.rf (r 24 (by decide) (by decide)) (r 25 (by decide) (by decide)) (r 26 (by decide) (by decide)) (r 27 (by decide) (by decide)) (r 28 (by decide) (by decide)) (fun l _ => by rw [r 21 (by decide) (by decide), r 29 (by decide) (by decide), r 30 (by decide) (by decide)]), a6.cg SamT.rf rfl (hF.2 15 (by decide)) (r 14 (by decide) (by decide)) (hF.2 19 (by decide))⟩
  funext i
  unfold lnkN
  rw [r 31 (by decide) (by decide), r 28 (by decide) (by decide), r 24 (by decide) (by decide)]
theorem DI.frL {cap nc : Nat} (h : DI cap D nn nm ng ns nl nc) (hF : FrL frA frK D D') : DI cap D' nn nm ng ns nl nc := by
  have r : ∀ j, j ≠ 0 → j ∉ frA → D' j = D j := hF.1
  unfold DI DTree DMach DGrp DSet DLnk LnkOk DTap at h ⊢
  rw [r 1 (by decide) (by decide), r 2 (by decide) (by decide), r 4 (by decide) (by decide), r 5 (by decide) (by decide), r 6 (by decide) (by decide), r 8 (by decide) (by decide), r 10 (by decide) (by decide), r 11 (by decide) (by decide), r 13 (by decide) (by decide), r 21 (by decide) (by decide), r 24 (by decide) (by decide), r 25 (by decide) (by decide), r 26 (by decide) (by decide), r 27 (by decide) (by decide), r 28 (by decide) (by decide), r 29 (by decide) (by decide), r 30 (by decide) (by decide), r 31 (by decide) (by decide), hF.2 3 (by decide), hF.2 7 (by decide), hF.2 9 (by decide), hF.2 12 (by decide), hF.2 32 (by decide), hF.2 22 (by decide), hF.2 15 (by decide)]
  exact h
end CR
