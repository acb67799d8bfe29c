/-! ===== the calls that ask ===== -/
section SD
variable {E : Es} {I : Tg → Nat → Int32} {D : Nat → Nat → Int32} {Z : Nat → Nat} {nn nm ng ns nl nc ax am ao k : Nat}
theorem Cst.frQ {D' : Nat → Nat → Int32} {cap : Nat} (hc : Cst E I D Z ax ao cap nn nm ng ns nl nc) (hF : FrL [] [0, 45, 46] D D') : Cst E I D' Z ax ao cap nn nm ng ns nl nc := by
  obtain ⟨hT, hDat, hCs, hDI⟩ := hc
  have hr : ∀ j, j ≠ 0 → D' j = D j := fun j h0 => hF.1 j h0 (by simp)
  refine ⟨hT, ⟨hDat.1.cg SamT.rf SamT.rf SamT.rf (hr 1 (by decide)) (hr 2 (by decide)) ?_, hDat.2.1.cg SamT.rf SamT.rf (hr 4 (by decide)) (hr 5 (by decide)), hDat.2.2.1.cg SamT.rf (hF.2 9 (by decide)) (hr 6 (by decide)) (hr 8 (by decide)), hDat.2.2.2.1.cg SamT.rf SamT.rf (fun k => rfl) (hr 10 (by decide)) (hr 11 (by decide)) (hr 13 (by decide)), hDat.2.2.2.2.1.cg SamT.rf SamT.rf SamT.rf (hr 24 (by decide)) (hr 25 (by decide)) (hr 26 (by decide)) (hr 27 (by decide)) (hr 28 (by decide)) (fun l _ => by rw [hr 21 (by decide), hr 29 (by decide), hr 30 (by decide)]), hDat.2.2.2.2.2.cg SamT.rf rfl (hF.2 15 (by decide)) (hr 14 (by decide)) (hF.2 19 (by decide))⟩, hCs, ?_⟩
  · funext i
    unfold lnkN
    rw [hr 31 (by decide), hr 28 (by decide), hr 24 (by decide)]
  · obtain ⟨a1, a2, a3, a4, a5, tq, a6⟩ := hDI
    exact ⟨a1.cg (hF.2 3 (by decide)) (hr 1 (by decide)) (hr 2 (by decide)), a2.cg (hF.2 7 (by decide)) (hr 4 (by decide)) (hr 5 (by decide)), a3.cg (hF.2 9 (by decide)) (hr 6 (by decide)) (hr 8 (by decide)), a4.cg (hF.2 12 (by decide)) (hr 10 (by decide)) (hr 11 (by decide)) (hr 13 (by decide)), a5.cg (hF.2 32 (by decide)) (hF.2 22 (by decide)) (fun j hj => hr j (by omega)), tq, a6.cg (hF.2 15 (by decide))⟩
theorem PA_any {v : Int32} {hs : List (String × Nat × Int32)} {fm : Mo Int32} (hc : Cst E I D Z ax ao (eCu E) nn nm ng ns nl nc) (hM : ModS E am) (hB : Bd k E) (hk : k ≤ 511) (W : ∀ E', ModS E' am → eCu E' = eCu E → Wp fm (E', D, I) (fun b g2 => b = v ∧ ∃ D', g2 = (E', D', I) ∧ Cst E I D' Z ax ao (eCu E) nn nm ng ns nl nc ∧ D' 0 0 = 0)) : PA Z ax am ao k hs fm D (.inl v) (E, D, I) := by
  have hB1 : Bd (k + 1) E := hB.up (by omega) (by omega) rfl (pot_le hc.2.2.1)
  refine ⟨E, I, 0, rfl, hB1.ok (by omega), Fin9.o hc, hM, rfl, fun w sz => wp_imp (W (Sw E w sz) hM rfl) (fun b g2 hq => ?_)⟩
  obtain ⟨q1, D', q2, q3, q4⟩ := hq
  exact ⟨_, _, _, q2, ⟨nn, nm, ng, ns, nl, nc, q3.sw, hM, hB1⟩, Sw_o, q4, fun v e => by rw [q1]; exact Sum.inl.inj e⟩
theorem a_outcome {x y : Int32} (hc : Cst E I D Z ax ao (eCu E) nn nm ng ns nl nc) (hM : ModS E am) (hB : Bd k E) (hk : k ≤ 511) : Wp (f_X11_outcome Z (some ax) x y) (E, D, I) (PA Z ax am ao k [(eI, 13, 1), (eA, 17, 2)] (f_X12_outcome (some am) x y) D) := by
  have hD := hc.2.2.2
  have b1 := hD.1.1.2
  have b2 := hD.2.1.1
  have b3 := hD.2.2.1.1
  have b4 := hD.2.2.2.1.1
  have b5 := hD.2.2.2.2.1.1
  have d3 := hD.1.2.1
  have d7 := hD.2.1.2.1
  have d9 := hD.2.2.1.2.1
  have d12 := hD.2.2.2.1.2.1
  have d32 := hD.2.2.2.2.1.2.1
  refine c_outcome hc (fun h => PA_thr hc hM hB hk (c := 1) hx_1 (by decide) (fun E9 hM9 hcu => m_outcome hM9 (hcu ▸ hD) (fun _ _ => rfl) (fun a b _ _ => absurd h (nor a b)) (fun g m hg e hm e2 => absurd h (ran hg e (by omega))))) (fun a b h => PA_thr hc hM hB hk (c := 2) ((hx_n eIA).trans hx_1) (by decide) (fun E9 hM9 hcu => m_outcome hM9 (hcu ▸ hD) (fun h _ => absurd h (nor a b)) (fun _ _ _ _ => rfl) (fun g m hg e hm e2 => absurd h (ran hm e2 (by first | omega | decide))))) (fun g m hg e hm e2 E1 I1 hq => ?_)
  refine PA_ask hc hM hB hk hq (fun E9 hM9 hcu => m_outcome hM9 (hcu ▸ hD) (fun h _ => absurd h (ran hg e (by omega))) (fun _ _ h _ => absurd h (ran hm e2 (by first | omega | decide))) (fun g' m' hg' e' hm' e2' D9 f9 z9 => ?_))
  have q1 := nIi e e' (by omega) (by omega)
  have q2 := nIi e2 e2' (by omega) (by omega)
  subst q1 q2
  exact ⟨rfl, D9, rfl, f9, z9⟩
theorem a_value {x y z : Int32} (hc : Cst E I D Z ax ao (eCu E) nn nm ng ns nl nc) (hM : ModS E am) (hB : Bd k E) (hk : k ≤ 511) : Wp (f_X11_value Z (some ax) x y z) (E, D, I) (PA Z ax am ao k [(eI, 15, 1), (eA, 19, 2)] (f_X12_value (some am) x y z) D) := by
  have hD := hc.2.2.2
  have b1 := hD.1.1.2
  have b2 := hD.2.1.1
  have b3 := hD.2.2.1.1
  have b4 := hD.2.2.2.1.1
  have b5 := hD.2.2.2.2.1.1
  have d3 := hD.1.2.1
  have d7 := hD.2.1.2.1
  have d9 := hD.2.2.1.2.1
  have d12 := hD.2.2.2.1.2.1
  have d32 := hD.2.2.2.2.1.2.1
  refine c_value hc (fun h => PA_thr hc hM hB hk (c := 1) hx_1 (by decide) (fun E9 hM9 hcu => m_value hM9 (hcu ▸ hD) (fun _ _ => rfl) (fun a b _ _ => absurd h (nor a b)) (fun g m hg e hm e2 => absurd h (ran hg e (by omega))))) (fun a b h => PA_thr hc hM hB hk (c := 2) ((hx_n eIA).trans hx_1) (by decide) (fun E9 hM9 hcu => m_value hM9 (hcu ▸ hD) (fun h _ => absurd h (nor a b)) (fun _ _ _ _ => rfl) (fun g m hg e hm e2 => absurd h (ran hm e2 (by first | omega | decide))))) (fun g m hg e hm e2 E1 I1 hq => ?_)
  refine PA_ask hc hM hB hk hq (fun E9 hM9 hcu => m_value hM9 (hcu ▸ hD) (fun h _ => absurd h (ran hg e (by omega))) (fun _ _ h _ => absurd h (ran hm e2 (by first | omega | decide))) (fun g' m' hg' e' hm' e2' D9 f9 z9 => ?_))
  have q1 := nIi e e' (by omega) (by omega)
  have q2 := nIi e2 e2' (by omega) (by omega)
  subst q1 q2
  exact ⟨rfl, D9, rfl, f9, z9⟩
theorem a_reason {x y : Int32} (hc : Cst E I D Z ax ao (eCu E) nn nm ng ns nl nc) (hM : ModS E am) (hB : Bd k E) (hk : k ≤ 511) : Wp (f_X11_reason Z (some ax) x y) (E, D, I) (PA Z ax am ao k [(eI, 13, 1), (eA, 17, 2)] (f_X12_reason (some am) x y) D) := by
  have hD := hc.2.2.2
  have b1 := hD.1.1.2
  have b2 := hD.2.1.1
  have b3 := hD.2.2.1.1
  have b4 := hD.2.2.2.1.1
  have b5 := hD.2.2.2.2.1.1
  have d3 := hD.1.2.1
  have d7 := hD.2.1.2.1
  have d9 := hD.2.2.1.2.1
  have d12 := hD.2.2.2.1.2.1
  have d32 := hD.2.2.2.2.1.2.1
  refine c_reason hc (fun h => PA_thr hc hM hB hk (c := 1) hx_1 (by decide) (fun E9 hM9 hcu => m_reason hM9 (hcu ▸ hD) (fun _ _ => rfl) (fun a b _ _ => absurd h (nor a b)) (fun g m hg e hm e2 => absurd h (ran hg e (by omega))))) (fun a b h => PA_thr hc hM hB hk (c := 2) ((hx_n eIA).trans hx_1) (by decide) (fun E9 hM9 hcu => m_reason hM9 (hcu ▸ hD) (fun h _ => absurd h (nor a b)) (fun _ _ _ _ => rfl) (fun g m hg e hm e2 => absurd h (ran hm e2 (by first | omega | decide))))) (fun g m hg e hm e2 E1 I1 hq => ?_)
  refine PA_ask hc hM hB hk hq (fun E9 hM9 hcu => m_reason hM9 (hcu ▸ hD) (fun h _ => absurd h (ran hg e (by omega))) (fun _ _ h _ => absurd h (ran hm e2 (by first | omega | decide))) (fun g' m' hg' e' hm' e2' D9 f9 z9 => ?_))
  have q1 := nIi e e' (by omega) (by omega)
  have q2 := nIi e2 e2' (by omega) (by omega)
  subst q1 q2
  exact ⟨rfl, D9, rfl, f9, z9⟩
theorem a_beaten {x y z : Int32} (hc : Cst E I D Z ax ao (eCu E) nn nm ng ns nl nc) (hM : ModS E am) (hB : Bd k E) (hk : k ≤ 511) : Wp (f_X11_beaten Z (some ax) x y z) (E, D, I) (PA Z ax am ao k [(eI, 15, 1), (eA, 19, 2)] (f_X12_beaten (some am) x y z) D) := by
  have hD := hc.2.2.2
  have b1 := hD.1.1.2
  have b2 := hD.2.1.1
  have b3 := hD.2.2.1.1
  have b4 := hD.2.2.2.1.1
  have b5 := hD.2.2.2.2.1.1
  have d3 := hD.1.2.1
  have d7 := hD.2.1.2.1
  have d9 := hD.2.2.1.2.1
  have d12 := hD.2.2.2.1.2.1
  have d32 := hD.2.2.2.2.1.2.1
  refine c_beaten hc (fun h => PA_thr hc hM hB hk (c := 1) hx_1 (by decide) (fun E9 hM9 hcu => m_beaten hM9 (hcu ▸ hD) (fun _ _ => rfl) (fun a b _ _ => absurd h (nor a b)) (fun g m hg e hm e2 => absurd h (ran hg e (by omega))))) (fun a b h => PA_thr hc hM hB hk (c := 2) ((hx_n eIA).trans hx_1) (by decide) (fun E9 hM9 hcu => m_beaten hM9 (hcu ▸ hD) (fun h _ => absurd h (nor a b)) (fun _ _ _ _ => rfl) (fun g m hg e hm e2 => absurd h (ran hm e2 (by first | omega | decide))))) (fun g m hg e hm e2 E1 I1 hq => ?_)
  refine PA_ask hc hM hB hk hq (fun E9 hM9 hcu => m_beaten hM9 (hcu ▸ hD) (fun h _ => absurd h (ran hg e (by omega))) (fun _ _ h _ => absurd h (ran hm e2 (by first | omega | decide))) (fun g' m' hg' e' hm' e2' D9 f9 z9 => ?_))
  have q1 := nIi e e' (by omega) (by omega)
  have q2 := nIi e2 e2' (by omega) (by omega)
  subst q1 q2
  exact ⟨rfl, D9, rfl, f9, z9⟩
theorem a_sure {x y : Int32} (hc : Cst E I D Z ax ao (eCu E) nn nm ng ns nl nc) (hM : ModS E am) (hB : Bd k E) (hk : k ≤ 511) : Wp (f_X11_sure Z (some ax) x y) (E, D, I) (PA Z ax am ao k [(eI, 20, 1), (eA, 24, 2)] (f_X12_sure (some am) x y) D) := by
  have hD := hc.2.2.2
  have b1 := hD.1.1.2
  have b2 := hD.2.1.1
  have b3 := hD.2.2.1.1
  have b4 := hD.2.2.2.1.1
  have b5 := hD.2.2.2.2.1.1
  have d3 := hD.1.2.1
  have d7 := hD.2.1.2.1
  have d9 := hD.2.2.1.2.1
  have d12 := hD.2.2.2.1.2.1
  have d32 := hD.2.2.2.2.1.2.1
  refine c_sure hc (fun h => PA_thr hc hM hB hk (c := 1) hx_1 (by decide) (fun E9 hM9 hcu => m_sure hM9 (hcu ▸ hD) (fun _ _ => rfl) (fun a b _ _ => absurd h (nor a b)) (fun g m hg e hm e2 => absurd h (ran hg e (by omega))))) (fun a b h => PA_thr hc hM hB hk (c := 2) ((hx_n eIA).trans hx_1) (by decide) (fun E9 hM9 hcu => m_sure hM9 (hcu ▸ hD) (fun h _ => absurd h (nor a b)) (fun _ _ _ _ => rfl) (fun g m hg e hm e2 => absurd h (ran hm e2 (by first | omega | decide))))) (fun g m hg e hm e2 E1 I1 hq => ⟨fun hs => ?_, fun hs => ?_⟩)
  · refine PA_ask hc hM hB hk hq (fun E9 hM9 hcu => m_sure hM9 (hcu ▸ hD) (fun h _ => absurd h (ran hg e (by omega))) (fun _ _ h _ => absurd h (ran hm e2 (by first | omega | decide))) (fun g' m' hg' e' hm' e2' D9 f9 z9 => ?_))
    have q1 := nIi e e' (by omega) (by omega)
    have q2 := nIi e2 e2' (by omega) (by omega)
    subst q1 q2
    exact ⟨fun _ => ⟨rfl, D9, rfl, f9, z9⟩, fun h => absurd hs h⟩
  · refine PA_ask hc hM hB hk hq (fun E9 hM9 hcu => m_sure hM9 (hcu ▸ hD) (fun h _ => absurd h (ran hg e (by omega))) (fun _ _ h _ => absurd h (ran hm e2 (by first | omega | decide))) (fun g' m' hg' e' hm' e2' D9 f9 z9 => ?_))
    have q1 := nIi e e' (by omega) (by omega)
    have q2 := nIi e2 e2' (by omega) (by omega)
    subst q1 q2
    exact ⟨fun h => absurd h hs, fun _ => ⟨rfl, D9, rfl, f9, z9⟩⟩
theorem a_reach {x : Int32} (hc : Cst E I D Z ax ao (eCu E) nn nm ng ns nl nc) (hM : ModS E am) (hB : Bd k E) (hk : k ≤ 511) : Wp (f_X11_reach Z (some ax) x) (E, D, I) (PA Z ax am ao k [(eI, 12, 1)] (f_X12_reach (some am) x) D) := by
  have hD := hc.2.2.2
  have b1 := hD.1.1.2
  have b2 := hD.2.1.1
  have b3 := hD.2.2.1.1
  have b4 := hD.2.2.2.1.1
  have b5 := hD.2.2.2.2.1.1
  have d3 := hD.1.2.1
  have d7 := hD.2.1.2.1
  have d9 := hD.2.2.1.2.1
  have d12 := hD.2.2.2.1.2.1
  have d32 := hD.2.2.2.2.1.2.1
  refine c_reach hc (fun h => PA_thr hc hM hB hk (c := 1) hx_1 (by decide) (fun E9 hM9 hcu => m_reach hM9 (hcu ▸ hD) (fun _ _ => rfl) (fun l hl e => absurd h (ran hl e (by omega))))) (fun l hl e E1 I1 hq => ?_)
  refine PA_ask hc hM hB hk hq (fun E9 hM9 hcu => m_reach hM9 (hcu ▸ hD) (fun h _ => absurd h (ran hl e (by omega))) (fun l' hl' e' D9 f9 z9 => ?_))
  have q1 := nIi e e' (by omega) (by omega)
  subst q1
  exact ⟨rfl, D9, rfl, f9, z9⟩
theorem a_reached {x y w : Int32} (hc : Cst E I D Z ax ao (eCu E) nn nm ng ns nl nc) (hM : ModS E am) (hB : Bd k E) (hk : k ≤ 511) : Wp (f_X11_reached Z (some ax) x y w) (E, D, I) (PA Z ax am ao k [(eI, 15, 1), (eA, 19, 2)] (f_X12_reached (some am) x y w) D) := by
  have hD := hc.2.2.2
  have b1 := hD.1.1.2
  have b2 := hD.2.1.1
  have b3 := hD.2.2.1.1
  have b4 := hD.2.2.2.1.1
  have b5 := hD.2.2.2.2.1.1
  have d3 := hD.1.2.1
  have d7 := hD.2.1.2.1
  have d9 := hD.2.2.1.2.1
  have d12 := hD.2.2.2.1.2.1
  have d32 := hD.2.2.2.2.1.2.1
  refine c_reached hc (fun h => PA_thr hc hM hB hk (c := 1) hx_1 (by decide) (fun E9 hM9 hcu => m_reached hM9 (hcu ▸ hD) (fun _ _ => rfl) (fun a b _ _ => absurd h (nor a b)) (fun l hl e h1 h2 => absurd h (ran hl e (by omega))))) (fun a b h => PA_thr hc hM hB hk (c := 2) ((hx_n eIA).trans hx_1) (by decide) (fun E9 hM9 hcu => m_reached hM9 (hcu ▸ hD) (fun h _ => absurd h (nor a b)) (fun _ _ _ _ => rfl) (fun l hl e h1 h2 => absurd h (nor h1 h2)))) (fun l hl e h1 h2 E1 I1 hq => ?_)
  refine PA_ask hc hM hB hk hq (fun E9 hM9 hcu => m_reached hM9 (hcu ▸ hD) (fun h _ => absurd h (ran hl e (by omega))) (fun _ _ h _ => absurd h (nor h1 h2)) (fun l' hl' e' _ _ D9 f9 z9 => ?_))
  have q1 := nIi e e' (by omega) (by omega)
  subst q1
  exact ⟨rfl, D9, rfl, f9, z9⟩
theorem a_quarrel {y w : Int32} (hc : Cst E I D Z ax ao (eCu E) nn nm ng ns nl nc) (hM : ModS E am) (hB : Bd k E) (hk : k ≤ 511) : Wp (f_X11_quarrel (some ax) y w) (E, D, I) (PA Z ax am ao k [(eA, 13, 1)] (f_X12_quarrel (some am) y w) D) := by
  have hD := hc.2.2.2
  have b1 := hD.1.1.2
  have b2 := hD.2.1.1
  have b3 := hD.2.2.1.1
  have b4 := hD.2.2.2.1.1
  have b5 := hD.2.2.2.2.1.1
  have d3 := hD.1.2.1
  have d7 := hD.2.1.2.1
  have d9 := hD.2.2.1.2.1
  have d12 := hD.2.2.2.1.2.1
  have d32 := hD.2.2.2.2.1.2.1
  refine c_quarrel hc (fun h => PA_thr hc hM hB hk (c := 1) hx_1 (by decide) (fun E9 hM9 hcu => m_quarrel hM9 (hD.askS FrL.rf) d32 (fun _ _ => rfl) (fun h1 h2 => absurd h (nor h1 h2)))) (fun h1 h2 => ?_)
  refine PA_any hc hM hB hk (fun E9 hM9 hcu => m_quarrel hM9 (hD.askS FrL.rf) d32 (fun h _ => absurd h (nor h1 h2)) (fun _ _ D9 f9 z9 => ⟨rfl, D9, rfl, hc.frQ f9, z9⟩))
theorem a_move {x y : Int32} (hc : Cst E I D Z ax ao (eCu E) nn nm ng ns nl nc) (hM : ModS E am) (hB : Bd k E) (hk : k ≤ 511) : Wp (f_X11_move Z (some ax) x y) (E, D, I) (PA Z ax am ao k [(eI, 13, 1)] (f_X12_move (some am) x y) D) := by
  have hD := hc.2.2.2
  have b1 := hD.1.1.2
  have b2 := hD.2.1.1
  have b3 := hD.2.2.1.1
  have b4 := hD.2.2.2.1.1
  have b5 := hD.2.2.2.2.1.1
  have d3 := hD.1.2.1
  have d7 := hD.2.1.2.1
  have d9 := hD.2.2.1.2.1
  have d12 := hD.2.2.2.1.2.1
  have d32 := hD.2.2.2.2.1.2.1
  refine c_move hc (fun h => PA_thr hc hM hB hk (c := 1) hx_1 (by decide) (fun E9 hM9 hcu => m_move hM9 (hcu ▸ hD) (fun _ _ => rfl) (fun a b _ _ => absurd h (nor a b)) (fun n up wu hn e hu e2 _ _ => absurd h (ran hn e (by omega))) (fun n up wu hn e hu e2 _ _ _ => absurd h (ran hn e (by omega))))) (fun a b h => PA_thr hc hM hB hk (c := 1) hx_1 (by decide) (fun E9 hM9 hcu => m_move hM9 (hcu ▸ hD) (fun h _ => absurd h (nor a b)) (fun _ _ _ _ => rfl) (fun n up wu hn e hu e2 _ _ => absurd h (ran hu e2 (by omega))) (fun n up wu hn e hu e2 _ _ _ => absurd h (ran hu e2 (by omega))))) (fun n up wu hn e hu e2 hw hor => ?_) (fun n up wu hn e hu e2 hw h0 hnot E1 I1 hq => ?_)
  · refine PA_ans hB hk (hc.bad (r := 0)) hM (by omega) (by omega) rfl (by simp [ds]) (fun E9 hM9 hcu => m_move hM9 (hcu ▸ hD) (fun h _ => absurd h (ran hn e (by omega))) (fun _ _ h _ => absurd h (ran hu e2 (by omega))) (fun _ _ _ _ _ _ _ _ _ => ⟨rfl, rfl⟩) (fun n' up' wu' hn' e' hu' e2' hw' h0' hnot' => ?_))
    have q1 := nIi e e' (by omega) (by omega)
    have q2 := nIi e2 e2' (by omega) (by omega)
    subst q1 q2
    have q3 := chn_det b1 _ _ _ hw hw'
    subst q3
    exact absurd hor (fun q => q.elim h0' hnot')
  · have hs1 : SamT 1 E1 I1 (eR E1 (12, n, 0) 1 (some (12, up, 0))) I1 := SamT.eR rfl
    have hp : pot (eR E1 (12, n, 0) 1 (some (12, up, 0))) = pot E1 := pot_cg (SamT.eR (I := I1) rfl) (SamT.eR (I := I1) rfl)
    have m1 : eMc E1 + pot E ≤ eMc E + pot E1 := hq.2.2.1
    have m2 : eMs E1 + 4 * pot E ≤ eMs E + 4 * pot E1 := hq.2.2.2.1
    refine PA_rel hB hk ((hc.qk hq).mv hu hw hnot) ((hq.mod hM).cg hs1 rfl) (by rw [hp]; show eMc E1 + _ ≤ _; omega) (by rw [hp]; show eMs E1 + _ ≤ _; omega) hq.1.2.2.2.2 (fun E9 hM9 hcu => m_move hM9 (hcu ▸ hD) (fun h _ => absurd h (ran hn e (by omega))) (fun _ _ h _ => absurd h (ran hu e2 (by omega))) (fun n' up' wu' hn' e' hu' e2' hw' hor' => ?_) (fun n' up' wu' hn' e' hu' e2' hw' h0' hnot' D9 f9 z9 => ?_))
    · have q1 := nIi e e' (by omega) (by omega)
      have q2 := nIi e2 e2' (by omega) (by omega)
      subst q1 q2
      have q3 := chn_det b1 _ _ _ hw hw'
      subst q3
      exact absurd hor' (fun q => q.elim h0 hnot)
    · have q1 := nIi e e' (by omega) (by omega)
      have q2 := nIi e2 e2' (by omega) (by omega)
      subst q1 q2
      exact ⟨rfl, D9, rfl, f9, z9⟩
end SD
