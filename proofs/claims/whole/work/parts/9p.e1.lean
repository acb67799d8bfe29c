/-! ===== every turn goes well ===== -/
theorem bz01 (x : Int32) : bz x = 0 ∨ bz x = 1 := by
  unfold bz
  split
  · exact .inl rfl
  · exact .inr rfl
theorem bzK (ao : Nat) (v : Int32) : (if v = 0 then mb (sL (some ao) 0 0) (fun _ => mp (0 : Int32)) else mb (sL (some ao) 0 1) (fun _ => mp 0)) = mb (sL (some ao) 0 (bzL v)) (fun _ => mp 0) := by
  unfold bzL
  split
  · rfl
  · rfl
section SI
variable {Z : Nat → Nat} {ax am ao k : Nat}
theorem Jk.up {h : Hs} {c n : Nat} (hJ : Jk Z ax am ao k h c n) : Jk Z ax am ao (k + 1) h c n := by
  obtain ⟨E, D, I, hr, e1, e2, nn, nm, ng, ns, nl, nc, hc, hM, b1, b2, b3, b4⟩ := hJ
  exact ⟨E, D, I, hr, e1, e2, nn, nm, ng, ns, nl, nc, hc, hM, by omega, by omega, b3, b4⟩
theorem lstep_ok {R : Room} (hR1 : R.cells = 601024) (hR2 : R.slots = 7293034) (hZ : ZO Z) (hk : k ≤ 511) {o s1 s2 s3 s4 s5 : Int32} {h : Hs} {c n : Nat} (hJ : Jk Z ax am ao k h c n) : LStep R Z ax am ao o s1 s2 s3 s4 s5 (Jk Z ax am ao (k + 1)) h c n := by
  have hup := hJ.up
  obtain ⟨E, D, I, hr, rfl, rfl, nn, nm, ng, ns, nl, nc, hc, hM, hB⟩ := hJ
  have hax := hc.1.1.1.2.1
  have h114 := hc.1.1.2.1
  have hD := hc.2.2.2
  have b5 := hD.2.2.2.2.1.1
  have d32 := hD.2.2.2.2.1.2.1
  obtain ⟨tp, htp⟩ := hD.2.2.2.2.2
  unfold LStep
  by_cases c0 : o = 0
  · rw [if_pos c0]
    unfold f_L_node
    exact stA hR1 hR2 hk (fun _ => rfl) hr hax h114 (a_node hc hM hB hk)
  rw [if_neg c0]
  by_cases c1 : o = 1
  · rw [if_pos c1]
    unfold f_L_block
    exact stA hR1 hR2 hk (bzK ao) hr hax h114 (a_block (bz01 _) hc hM hB hk)
  rw [if_neg c1]
  by_cases c2 : o = 2
  · rw [if_pos c2]
    unfold f_L_move
    exact stA hR1 hR2 hk (fun _ => rfl) hr hax h114 (a_move hc hM hB hk)
  rw [if_neg c2]
  by_cases c3 : o = 3
  · rw [if_pos c3]
    unfold f_L_machine
    exact stA hR1 hR2 hk (fun _ => rfl) hr hax h114 (a_machine hc hM hB hk)
  rw [if_neg c3]
  by_cases c4 : o = 4
  · rw [if_pos c4]
    unfold f_L_fact
    exact stA hR1 hR2 hk (fun _ => rfl) hr hax h114 (a_fact hc hM hB hk)
  rw [if_neg c4]
  by_cases c5 : o = 5
  · rw [if_pos c5]
    unfold f_L_group
    exact stA hR1 hR2 hk (fun _ => rfl) hr hax h114 (a_group hc hM hB hk)
  rw [if_neg c5]
  by_cases c6 : o = 6
  · rw [if_pos c6]
    unfold f_L_joins
    exact stA hR1 hR2 hk (bzK ao) hr hax h114 (a_joins (bz01 _) hc hM hB hk)
  rw [if_neg c6]
  by_cases c7 : o = 7
  · rw [if_pos c7]
    unfold f_L_within
    exact stA hR1 hR2 hk (bzK ao) hr hax h114 (a_within (bz01 _) hc hM hB hk)
  rw [if_neg c7]
  by_cases c8 : o = 8
  · rw [if_pos c8]
    unfold f_L_member
    exact stA hR1 hR2 hk (bzK ao) hr hax h114 (a_member hc hM hB hk)
  rw [if_neg c8]
  by_cases c9 : o = 9
  · rw [if_pos c9]
    unfold f_L_set
    exact stA hR1 hR2 hk (fun _ => rfl) hr hax h114 (a_set hc hM hB hk)
  rw [if_neg c9]
  by_cases c10 : o = 10
  · rw [if_pos c10]
    unfold f_L_tell
    exact stA hR1 hR2 hk (bzK ao) hr hax h114 (a_tell hc hM hB hk)
  rw [if_neg c10]
  by_cases c11 : o = 11
  · rw [if_pos c11]
    unfold f_L_untell
    exact stA hR1 hR2 hk (bzK ao) hr hax h114 (a_untell hc hM hB hk)
  rw [if_neg c11]
  by_cases c12 : o = 12
  · rw [if_pos c12]
    unfold f_L_law
    exact stA hR1 hR2 hk (fun _ => rfl) hr hax h114 (a_law hc hM hB hk)
  rw [if_neg c12]
  by_cases c13 : o = 13
  · rw [if_pos c13]
    exact stD hR1 hR2 hk hr hax h114 (c_feed hc htp (fun q => PD_of hc hM hB hk (m_feed hM htp.1 htp.2 (fun _ => ⟨rfl, _, rfl, hc.bad⟩) (fun q2 => absurd q2 q))) (fun q I1 hc1 => PD_of hc hM hB hk (m_feed hM htp.1 htp.2 (fun q2 => absurd q q2) (fun _ => ⟨rfl, _, rfl, hc1⟩))))
  rw [if_neg c13]
  by_cases c14 : o = 14
  · rw [if_pos c14]
    unfold f_L_link
    exact stA hR1 hR2 hk (fun _ => rfl) hr hax h114 (a_link hZ (bz01 _) hc hM hB hk)
  rw [if_neg c14]
  by_cases c15 : o = 15
  · rw [if_pos c15]
    exact stD hR1 hR2 hk hr hax h114 (c_fault hc (PD_of hc hM hB hk (m_fault hM ⟨rfl, _, rfl, hc.bad⟩)))
  rw [if_neg c15]
  by_cases c16 : o = 16
  · rw [if_pos c16]
    unfold f_L_end
    exact stA hR1 hR2 hk (bzK ao) hr hax h114 (a_end hc hM hB hk)
  rw [if_neg c16]
  by_cases c17 : o = 17
  · rw [if_pos c17]
    unfold f_L_outcome
    exact stA hR1 hR2 hk (fun _ => rfl) hr hax h114 (a_outcome hc hM hB hk)
  rw [if_neg c17]
  by_cases c18 : o = 18
  · rw [if_pos c18]
    unfold f_L_value
    exact stA hR1 hR2 hk (fun _ => rfl) hr hax h114 (a_value hc hM hB hk)
  rw [if_neg c18]
  by_cases c19 : o = 19
  · rw [if_pos c19]
    unfold f_L_reason
    exact stA hR1 hR2 hk (fun _ => rfl) hr hax h114 (a_reason hc hM hB hk)
  rw [if_neg c19]
  by_cases c20 : o = 20
  · rw [if_pos c20]
    unfold f_L_beaten
    exact stA hR1 hR2 hk (fun _ => rfl) hr hax h114 (a_beaten hc hM hB hk)
  rw [if_neg c20]
  by_cases c21 : o = 21
  · rw [if_pos c21]
    unfold f_L_sure
    exact stA hR1 hR2 hk (bzK ao) hr hax h114 (a_sure hc hM hB hk)
  rw [if_neg c21]
  by_cases c22 : o = 22
  · rw [if_pos c22]
    unfold f_L_reach
    exact stA hR1 hR2 hk (fun _ => rfl) hr hax h114 (a_reach hc hM hB hk)
  rw [if_neg c22]
  by_cases c23 : o = 23
  · rw [if_pos c23]
    unfold f_L_reached
    exact stA hR1 hR2 hk (fun _ => rfl) hr hax h114 (a_reached hc hM hB hk)
  rw [if_neg c23]
  by_cases c24 : o = 24
  · rw [if_pos c24]
    exact stD hR1 hR2 hk hr hax h114 (c_quarrels hc (PD_of hc hM hB hk (m_quarrels hM (hD.askS FrL.rf) d32 (fun D9 f9 z9 => ⟨rfl, D9, rfl, hc.frQ f9⟩))))
  rw [if_neg c24]
  by_cases c25 : o = 25
  · rw [if_pos c25]
    unfold f_L_quarrel
    exact stA hR1 hR2 hk (fun _ => rfl) hr hax h114 (a_quarrel hc hM hB hk)
  rw [if_neg c25]
  by_cases c26 : o = 26
  · rw [if_pos c26]
    exact stD hR1 hR2 hk hr hax h114 (c_count hc (PD_of hc hM hB hk (m_count hM d32 b5 ⟨rfl, _, rfl, hc.bad⟩)))
  rw [if_neg c26]
  exact hup
end SI
theorem pureOK : PureOK := by
  intro R Z sz L xs hzo hR1 hR2 hL
  have hrep : p_Rep (E00 (Z 0) sz, fun _ _ => 0, fun _ _ => 0) (fun _ => none, sz) := ⟨rfl, fun t h => absurd rfl h, fun t u h => absurd rfl h, fun _ _ => rfl, fun t k u h => absurd rfl h, rfl, fun t h => absurd rfl h, hzo.1⟩
  obtain ⟨r, h1, c, n, g, e1, r1, q1, q2, ax, am, ao, E, D, I, rfl, rfl, hF⟩ := start_ok (Z := Z) (sz := sz) _ hrep
  have q1 : eMc E = 0 + c := q1
  have q2 : eMs E = 0 + n := q2
  obtain ⟨nn, nm, ng, ns, nl, nc, hc, hM, hB⟩ := id hF
  have hok := hB.ok (by omega)
  exact ⟨ax, am, ao, Jk Z ax am ao, ⟨h1, c, n, e1, by omega, by omega, E, D, I, r1, by omega, by omega, hF⟩, fun k hk h c n hJ => lstep_ok hR1 hR2 hzo.2 (by omega) hJ⟩
