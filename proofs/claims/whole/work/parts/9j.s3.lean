/-! ===== the calls that change ===== -/
section SC
variable {E : Es} {I : Tg → Nat → Int32} {D : Nat → Nat → Int32} {Z : Nat → Nat} {nn nm ng ns nl nc ax am ao k : Nat}
theorem a_node {x : Int32} (hc : Cst E I D Z ax ao (eCu E) nn nm ng ns nl nc) (hM : ModS E am) (hB : Bd k E) (hk : k ≤ 511) : Wp (f_X11_node Z (some ax) x) (E, D, I) (PA Z ax am ao k [(eI, 12, 1), (eS, 15, 2)] (f_X12_node (some am) x) D) := by
  have hD := hc.2.2.2
  have b1 := hD.1.1.2
  have b2 := hD.2.1.1
  have b3 := hD.2.2.1.1
  have b4 := hD.2.2.2.1.1
  have b5 := hD.2.2.2.2.1.1
  have d3 := hD.1.2.1
  have d7 := hD.2.1.2.1
  have d9 := hD.2.2.1.2.1
  have d12 := hD.2.2.2.1.2.1
  have d32 := hD.2.2.2.2.1.2.1
  refine c_node hc (fun h => PA_thr hc hM hB hk (c := 1) hx_1 (by decide) (fun E9 hM9 hcu => m_node hM9 d3 b1 (fun _ _ => rfl) (fun a b _ _ => absurd h (nor a b)) (fun a b _ => absurd h (nor a b)))) (fun a b e => PA_thr hc hM hB hk (c := 2) ((hx_n eIS).trans hx_1) (by decide) (fun E9 hM9 hcu => m_node hM9 d3 b1 (fun h _ => absurd h (nor a b)) (fun _ _ _ _ => rfl) (fun _ _ q => absurd e (by omega)))) (fun a b e E1 I1 hN hc1 => ?_)
  refine PA_ans hB hk hc1 (hM.cg hN.2.2.2 hN.2.2.1) hN.1 hN.2.1 hN.2.2.1 (by simp [nodD, ds]) (fun E9 hM9 hcu => ?_)
  exact m_node hM9 d3 b1 (fun h _ => absurd h (nor a b)) (fun _ _ q _ => absurd q (by omega)) (fun _ _ _ => ⟨rfl, rfl⟩)
theorem a_machine {x : Int32} (hc : Cst E I D Z ax ao (eCu E) nn nm ng ns nl nc) (hM : ModS E am) (hB : Bd k E) (hk : k ≤ 511) : Wp (f_X11_machine Z (some ax) x) (E, D, I) (PA Z ax am ao k [(eI, 12, 1), (eS, 15, 2)] (f_X12_machine (some am) x) D) := by
  have hD := hc.2.2.2
  have b1 := hD.1.1.2
  have b2 := hD.2.1.1
  have b3 := hD.2.2.1.1
  have b4 := hD.2.2.2.1.1
  have b5 := hD.2.2.2.2.1.1
  have d3 := hD.1.2.1
  have d7 := hD.2.1.2.1
  have d9 := hD.2.2.1.2.1
  have d12 := hD.2.2.2.1.2.1
  have d32 := hD.2.2.2.2.1.2.1
  refine c_machine hc (fun h => PA_thr hc hM hB hk (c := 1) hx_1 (by decide) (fun E9 hM9 hcu => m_machine hM9 d3 b1 d7 b2 (fun _ _ => rfl) (fun a b _ _ => absurd h (nor a b)) (fun a b _ => absurd h (nor a b)))) (fun a b e => PA_thr hc hM hB hk (c := 2) ((hx_n eIS).trans hx_1) (by decide) (fun E9 hM9 hcu => m_machine hM9 d3 b1 d7 b2 (fun h _ => absurd h (nor a b)) (fun _ _ _ _ => rfl) (fun _ _ q => absurd e (by omega)))) (fun a b e E1 I1 hN hc1 => ?_)
  refine PA_ans hB hk hc1 (hM.cg hN.2.2.2 hN.2.2.1) hN.1 hN.2.1 hN.2.2.1 (by unfold mchD; rw [ds_ne (fun q => absurd q.2 (by decide)), dfl_ne (by decide), ds_ne (fun q => absurd q.1 (by decide)), ds_eq]) (fun E9 hM9 hcu => ?_)
  exact m_machine hM9 d3 b1 d7 b2 (fun h _ => absurd h (nor a b)) (fun _ _ q _ => absurd q (by omega)) (fun _ _ _ => ⟨rfl, rfl⟩)
theorem a_block {x b : Int32} (hz : b = 0 ∨ b = 1) (hc : Cst E I D Z ax ao (eCu E) nn nm ng ns nl nc) (hM : ModS E am) (hB : Bd k E) (hk : k ≤ 511) : Wp (f_X11_block (some ax) x b) (E, D, I) (PA Z ax am ao k [(eI, 20, 1)] (f_X12_block (some am) x b) D) := by
  have hD := hc.2.2.2
  have b1 := hD.1.1.2
  have b2 := hD.2.1.1
  have b3 := hD.2.2.1.1
  have b4 := hD.2.2.2.1.1
  have b5 := hD.2.2.2.2.1.1
  have d3 := hD.1.2.1
  have d7 := hD.2.1.2.1
  have d9 := hD.2.2.1.2.1
  have d12 := hD.2.2.2.1.2.1
  have d32 := hD.2.2.2.2.1.2.1
  refine c_block hc hz (fun h => PA_thr hc hM hB hk (c := 1) hx_1 (by decide) (fun E9 hM9 hcu => m_block hM9 d3 b1 (fun i _ => hD.1.2.2.2.1 i) hz (fun _ _ => rfl) (fun i hi e => absurd h (ran hi e (by omega))))) (fun i hi e I1 hc1 => ?_)
  refine PA_ans hB hk hc1 hM (by omega) (by omega) rfl (by simp [ds]) (fun E9 hM9 hcu => m_block hM9 d3 b1 (fun i _ => hD.1.2.2.2.1 i) hz (fun h _ => absurd h (ran hi e (by omega))) (fun j hj e2 => ?_))
  have q := nIi e e2 (by omega) (by omega)
  subst q
  exact ⟨rfl, rfl⟩
theorem a_group (hc : Cst E I D Z ax ao (eCu E) nn nm ng ns nl nc) (hM : ModS E am) (hB : Bd k E) (hk : k ≤ 511) : Wp (f_X11_group (some ax)) (E, D, I) (PA Z ax am ao k [(eS, 11, 1)] (f_X12_group (some am)) D) := by
  have hD := hc.2.2.2
  have b1 := hD.1.1.2
  have b2 := hD.2.1.1
  have b3 := hD.2.2.1.1
  have b4 := hD.2.2.2.1.1
  have b5 := hD.2.2.2.2.1.1
  have d3 := hD.1.2.1
  have d7 := hD.2.1.2.1
  have d9 := hD.2.2.1.2.1
  have d12 := hD.2.2.2.1.2.1
  have d32 := hD.2.2.2.2.1.2.1
  refine c_group hc (fun e => PA_thr hc hM hB hk (c := 1) hx_1 (by decide) (fun E9 hM9 hcu => m_group hM9 d9 b3 (fun _ _ => rfl) (fun q => absurd e (by omega)))) (fun e I1 hc1 => ?_)
  exact PA_ans hB hk hc1 hM (by omega) (by omega) rfl (by simp [ds]) (fun E9 hM9 hcu => m_group hM9 d9 b3 (fun q _ => absurd q (by omega)) (fun _ => ⟨rfl, rfl⟩))
theorem a_set (hc : Cst E I D Z ax ao (eCu E) nn nm ng ns nl nc) (hM : ModS E am) (hB : Bd k E) (hk : k ≤ 511) : Wp (f_X11_set Z (some ax)) (E, D, I) (PA Z ax am ao k [(eS, 11, 1)] (f_X12_set (some am)) D) := by
  have hD := hc.2.2.2
  have b1 := hD.1.1.2
  have b2 := hD.2.1.1
  have b3 := hD.2.2.1.1
  have b4 := hD.2.2.2.1.1
  have b5 := hD.2.2.2.2.1.1
  have d3 := hD.1.2.1
  have d7 := hD.2.1.2.1
  have d9 := hD.2.2.1.2.1
  have d12 := hD.2.2.2.1.2.1
  have d32 := hD.2.2.2.2.1.2.1
  refine c_set hc (fun e => PA_thr hc hM hB hk (c := 1) hx_1 (by decide) (fun E9 hM9 hcu => m_set hM9 d12 b4 (fun _ _ => rfl) (fun q => absurd e (by omega)))) (fun e E1 I1 hN hc1 => ?_)
  exact PA_ans hB hk hc1 (hM.cg hN.2.2.2 hN.2.2.1) hN.1 hN.2.1 hN.2.2.1 (by simp [ds]) (fun E9 hM9 hcu => m_set hM9 d12 b4 (fun q _ => absurd q (by omega)) (fun _ => ⟨rfl, rfl⟩))
theorem a_joins {x y b : Int32} (hz : b = 0 ∨ b = 1) (hc : Cst E I D Z ax ao (eCu E) nn nm ng ns nl nc) (hM : ModS E am) (hB : Bd k E) (hk : k ≤ 511) : Wp (f_X11_joins (some ax) x y b) (E, D, I) (PA Z ax am ao k [(eI, 22, 1)] (f_X12_joins (some am) x y b) D) := by
  have hD := hc.2.2.2
  have b1 := hD.1.1.2
  have b2 := hD.2.1.1
  have b3 := hD.2.2.1.1
  have b4 := hD.2.2.2.1.1
  have b5 := hD.2.2.2.2.1.1
  have d3 := hD.1.2.1
  have d7 := hD.2.1.2.1
  have d9 := hD.2.2.1.2.1
  have d12 := hD.2.2.2.1.2.1
  have d32 := hD.2.2.2.2.1.2.1
  refine c_joins hc hz (fun h => PA_thr hc hM hB hk (c := 1) hx_1 (by decide) (fun E9 hM9 hcu => m_joins hM9 d9 b3 d7 b2 hz (fun _ _ => rfl) (fun a b _ _ => absurd h (nor a b)) (fun g m hg e hm e2 => absurd h (ran hg e (by omega))))) (fun a b h => PA_thr hc hM hB hk (c := 1) hx_1 (by decide) (fun E9 hM9 hcu => m_joins hM9 d9 b3 d7 b2 hz (fun h _ => absurd h (nor a b)) (fun _ _ _ _ => rfl) (fun g m hg e hm e2 => absurd h (ran hm e2 (by first | omega | decide))))) (fun g m hg e hm e2 E1 m1 m2 m3 m4 s1 hc1 => ?_)
  refine PA_ans hB hk hc1 (hM.cg s1 m3) (by omega) (by omega) m3 (by simp [ds]) (fun E9 hM9 hcu => m_joins hM9 d9 b3 d7 b2 hz (fun h _ => absurd h (ran hg e (by omega))) (fun _ _ h _ => absurd h (ran hm e2 (by first | omega | decide))) (fun g' m' hg' e' hm' e2' => ?_))
  have q1 := nIi e e' (by omega) (by omega)
  have q2 := nIi e2 e2' (by omega) (by omega)
  subst q1 q2
  exact ⟨rfl, rfl⟩
theorem a_within {x y b : Int32} (hz : b = 0 ∨ b = 1) (hc : Cst E I D Z ax ao (eCu E) nn nm ng ns nl nc) (hM : ModS E am) (hB : Bd k E) (hk : k ≤ 511) : Wp (f_X11_within (some ax) x y b) (E, D, I) (PA Z ax am ao k [(eI, 22, 1)] (f_X12_within (some am) x y b) D) := by
  have hD := hc.2.2.2
  have b1 := hD.1.1.2
  have b2 := hD.2.1.1
  have b3 := hD.2.2.1.1
  have b4 := hD.2.2.2.1.1
  have b5 := hD.2.2.2.2.1.1
  have d3 := hD.1.2.1
  have d7 := hD.2.1.2.1
  have d9 := hD.2.2.1.2.1
  have d12 := hD.2.2.2.1.2.1
  have d32 := hD.2.2.2.2.1.2.1
  refine c_within hc hz (fun h => PA_thr hc hM hB hk (c := 1) hx_1 (by decide) (fun E9 hM9 hcu => m_within hM9 d9 b3 hz (fun _ _ => rfl) (fun a b _ _ => absurd h (nor a b)) (fun g m hg e hm e2 => absurd h (ran hg e (by omega))))) (fun a b h => PA_thr hc hM hB hk (c := 1) hx_1 (by decide) (fun E9 hM9 hcu => m_within hM9 d9 b3 hz (fun h _ => absurd h (nor a b)) (fun _ _ _ _ => rfl) (fun g m hg e hm e2 => absurd h (ran hm e2 (by first | omega | decide))))) (fun g m hg e hm e2 I1 hc1 => ?_)
  refine PA_ans hB hk hc1 hM (by omega) (by omega) rfl (by simp [ds]) (fun E9 hM9 hcu => m_within hM9 d9 b3 hz (fun h _ => absurd h (ran hg e (by omega))) (fun _ _ h _ => absurd h (ran hm e2 (by first | omega | decide))) (fun g' m' hg' e' hm' e2' => ?_))
  have q1 := nIi e e' (by omega) (by omega)
  have q2 := nIi e2 e2' (by omega) (by omega)
  subst q1 q2
  exact ⟨rfl, rfl⟩
theorem a_member {x y : Int32} (hc : Cst E I D Z ax ao (eCu E) nn nm ng ns nl nc) (hM : ModS E am) (hB : Bd k E) (hk : k ≤ 511) : Wp (f_X11_member (some ax) x y) (E, D, I) (PA Z ax am ao k [(eI, 20, 1)] (f_X12_member (some am) x y) D) := by
  have hD := hc.2.2.2
  have b1 := hD.1.1.2
  have b2 := hD.2.1.1
  have b3 := hD.2.2.1.1
  have b4 := hD.2.2.2.1.1
  have b5 := hD.2.2.2.2.1.1
  have d3 := hD.1.2.1
  have d7 := hD.2.1.2.1
  have d9 := hD.2.2.1.2.1
  have d12 := hD.2.2.2.1.2.1
  have d32 := hD.2.2.2.2.1.2.1
  refine c_member hc (fun h => PA_thr hc hM hB hk (c := 1) hx_1 (by decide) (fun E9 hM9 hcu => m_member hM9 d9 b3 d7 b2 (fun g h _ => hD.2.2.1.2.2.2.2.2 g h) (fun _ _ => rfl) (fun a b _ _ => absurd h (nor a b)) (fun g m hg e hm e2 => absurd h (ran hg e (by omega))))) (fun a b h => PA_thr hc hM hB hk (c := 1) hx_1 (by decide) (fun E9 hM9 hcu => m_member hM9 d9 b3 d7 b2 (fun g h _ => hD.2.2.1.2.2.2.2.2 g h) (fun h _ => absurd h (nor a b)) (fun _ _ _ _ => rfl) (fun g m hg e hm e2 => absurd h (ran hm e2 (by first | omega | decide))))) (fun g m hg e hm e2  => ?_)
  refine PA_ans hB hk (hc.bad (r := 0)) hM (by omega) (by omega) rfl (by simp [ds]) (fun E9 hM9 hcu => m_member hM9 d9 b3 d7 b2 (fun g h _ => hD.2.2.1.2.2.2.2.2 g h) (fun h _ => absurd h (ran hg e (by omega))) (fun _ _ h _ => absurd h (ran hm e2 (by first | omega | decide))) (fun g' m' hg' e' hm' e2' => ?_))
  have q1 := nIi e e' (by omega) (by omega)
  have q2 := nIi e2 e2' (by omega) (by omega)
  subst q1 q2
  exact ⟨rfl, rfl⟩
theorem a_fact {x y v : Int32} (hc : Cst E I D Z ax ao (eCu E) nn nm ng ns nl nc) (hM : ModS E am) (hB : Bd k E) (hk : k ≤ 511) : Wp (f_X11_fact (some ax) x y v) (E, D, I) (PA Z ax am ao k [(eI, 15, 1), (eA, 19, 2)] (f_X12_fact (some am) x y v) D) := by
  have hD := hc.2.2.2
  have b1 := hD.1.1.2
  have b2 := hD.2.1.1
  have b3 := hD.2.2.1.1
  have b4 := hD.2.2.2.1.1
  have b5 := hD.2.2.2.2.1.1
  have d3 := hD.1.2.1
  have d7 := hD.2.1.2.1
  have d9 := hD.2.2.1.2.1
  have d12 := hD.2.2.2.1.2.1
  have d32 := hD.2.2.2.2.1.2.1
  have nf : ∀ j, j < 8 → y = nI j → ¬ v < -1 → v ≤ 1 → ¬ (y < 0 ∨ ¬ y < 8 ∨ v < -1 ∨ ¬ v ≤ 1) := fun j hj e h1 h2 q => by
    rcases q with q | q | q | q
    · exact ran hj e (by omega) (.inl q)
    · exact ran hj e (by omega) (.inr q)
    · exact h1 q
    · exact q h2
  refine c_fact hc (fun h => PA_thr hc hM hB hk (c := 1) hx_1 (by decide) (fun E9 hM9 hcu => m_fact hM9 d7 b2 (fun _ _ => rfl) (fun a b _ _ => absurd h (nor a b)) (fun i j hi e hj e2 h1 h2 => absurd h (ran hi e (by omega))))) (fun a b h => PA_thr hc hM hB hk (c := 2) ((hx_n eIA).trans hx_1) (by decide) (fun E9 hM9 hcu => m_fact hM9 d7 b2 (fun h _ => absurd h (nor a b)) (fun _ _ _ _ => rfl) (fun i j hi e hj e2 h1 h2 => absurd h (nf j hj e2 h1 h2)))) (fun i j hi e hj e2 h1 h2 I1 hc1 => ?_)
  refine PA_ans hB hk hc1 hM (by omega) (by omega) rfl (by simp [ds]) (fun E9 hM9 hcu => m_fact hM9 d7 b2 (fun h _ => absurd h (ran hi e (by omega))) (fun _ _ h _ => absurd h (nf j hj e2 h1 h2)) (fun i' j' hi' e' hj' e2' _ _ => ?_))
  have q1 := nIi e e' (by omega) (by omega)
  have q2 := nIi e2 e2' (by omega) (by omega)
  subst q1 q2
  exact ⟨rfl, rfl⟩
theorem a_tell {x y v : Int32} (hc : Cst E I D Z ax ao (eCu E) nn nm ng ns nl nc) (hM : ModS E am) (hB : Bd k E) (hk : k ≤ 511) : Wp (f_X11_tell (some ax) x y v) (E, D, I) (PA Z ax am ao k [(eI, 22, 1), (eA, 26, 2)] (f_X12_tell (some am) x y v) D) := by
  have hD := hc.2.2.2
  have b1 := hD.1.1.2
  have b2 := hD.2.1.1
  have b3 := hD.2.2.1.1
  have b4 := hD.2.2.2.1.1
  have b5 := hD.2.2.2.2.1.1
  have d3 := hD.1.2.1
  have d7 := hD.2.1.2.1
  have d9 := hD.2.2.1.2.1
  have d12 := hD.2.2.2.1.2.1
  have d32 := hD.2.2.2.2.1.2.1
  refine c_tell hc (fun h => PA_thr hc hM hB hk (c := 1) hx_1 (by decide) (fun E9 hM9 hcu => m_tell hM9 d12 b4 (fun _ _ => rfl) (fun a b _ _ => absurd h (nor a b)) (fun g m hg e hm e2 => absurd h (ran hg e (by omega))))) (fun a b h => PA_thr hc hM hB hk (c := 2) ((hx_n eIA).trans hx_1) (by decide) (fun E9 hM9 hcu => m_tell hM9 d12 b4 (fun h _ => absurd h (nor a b)) (fun _ _ _ _ => rfl) (fun g m hg e hm e2 => absurd h (ran hm e2 (by first | omega | decide))))) (fun g m hg e hm e2 I1 hc1 => ?_)
  refine PA_ans hB hk hc1 hM (by omega) (by omega) rfl (by simp [ds]) (fun E9 hM9 hcu => m_tell hM9 d12 b4 (fun h _ => absurd h (ran hg e (by omega))) (fun _ _ h _ => absurd h (ran hm e2 (by first | omega | decide))) (fun g' m' hg' e' hm' e2' => ?_))
  have q1 := nIi e e' (by omega) (by omega)
  have q2 := nIi e2 e2' (by omega) (by omega)
  subst q1 q2
  exact ⟨rfl, rfl⟩
theorem a_untell {x y : Int32} (hc : Cst E I D Z ax ao (eCu E) nn nm ng ns nl nc) (hM : ModS E am) (hB : Bd k E) (hk : k ≤ 511) : Wp (f_X11_untell (some ax) x y) (E, D, I) (PA Z ax am ao k [(eI, 20, 1), (eA, 24, 2)] (f_X12_untell (some am) x y) D) := by
  have hD := hc.2.2.2
  have b1 := hD.1.1.2
  have b2 := hD.2.1.1
  have b3 := hD.2.2.1.1
  have b4 := hD.2.2.2.1.1
  have b5 := hD.2.2.2.2.1.1
  have d3 := hD.1.2.1
  have d7 := hD.2.1.2.1
  have d9 := hD.2.2.1.2.1
  have d12 := hD.2.2.2.1.2.1
  have d32 := hD.2.2.2.2.1.2.1
  refine c_untell hc (fun h => PA_thr hc hM hB hk (c := 1) hx_1 (by decide) (fun E9 hM9 hcu => m_untell hM9 d12 b4 (fun _ _ => rfl) (fun a b _ _ => absurd h (nor a b)) (fun g m hg e hm e2 => absurd h (ran hg e (by omega))))) (fun a b h => PA_thr hc hM hB hk (c := 2) ((hx_n eIA).trans hx_1) (by decide) (fun E9 hM9 hcu => m_untell hM9 d12 b4 (fun h _ => absurd h (nor a b)) (fun _ _ _ _ => rfl) (fun g m hg e hm e2 => absurd h (ran hm e2 (by first | omega | decide))))) (fun g m hg e hm e2 I1 hc1 => ?_)
  refine PA_ans hB hk hc1 hM (by omega) (by omega) rfl (by simp [ds]) (fun E9 hM9 hcu => m_untell hM9 d12 b4 (fun h _ => absurd h (ran hg e (by omega))) (fun _ _ h _ => absurd h (ran hm e2 (by first | omega | decide))) (fun g' m' hg' e' hm' e2' => ?_))
  have q1 := nIi e e' (by omega) (by omega)
  have q2 := nIi e2 e2' (by omega) (by omega)
  subst q1 q2
  exact ⟨rfl, rfl⟩
theorem a_law {x v : Int32} (hc : Cst E I D Z ax ao (eCu E) nn nm ng ns nl nc) (hM : ModS E am) (hB : Bd k E) (hk : k ≤ 511) : Wp (f_X11_law (some ax) x v) (E, D, I) (PA Z ax am ao k [(eA, 13, 1)] (f_X12_law (some am) x v) D) := by
  have hD := hc.2.2.2
  have b1 := hD.1.1.2
  have b2 := hD.2.1.1
  have b3 := hD.2.2.1.1
  have b4 := hD.2.2.2.1.1
  have b5 := hD.2.2.2.2.1.1
  have d3 := hD.1.2.1
  have d7 := hD.2.1.2.1
  have d9 := hD.2.2.1.2.1
  have d12 := hD.2.2.2.1.2.1
  have d32 := hD.2.2.2.2.1.2.1
  have nf : ∀ s, s < 12 → x = nI s → ¬ v < 0 → v < 3 → ¬ ((x < 0 ∨ ¬ x < 12) ∨ (v < 0 ∨ ¬ v < 3)) := fun s hs e h1 h2 q => q.elim (ran hs e (by first | omega | decide)) (nor h1 h2)
  refine c_law hc (fun h => PA_thr hc hM hB hk (c := 1) hx_1 (by decide) (fun E9 hM9 hcu => m_law hM9 (fun _ _ => rfl) (fun s hs e h1 h2 => absurd h (nf s hs e h1 h2)))) (fun s hs e h1 h2 I1 hc1 => ?_)
  refine PA_ans hB hk hc1 hM (by omega) (by omega) rfl (by simp [ds]) (fun E9 hM9 hcu => m_law hM9 (fun h _ => absurd h (nf s hs e h1 h2)) (fun s' hs' e' _ _ => ?_))
  have q1 := nIi e e' (by omega) (by omega)
  subst q1
  exact ⟨rfl, rfl⟩
theorem a_end {x : Int32} (hc : Cst E I D Z ax ao (eCu E) nn nm ng ns nl nc) (hM : ModS E am) (hB : Bd k E) (hk : k ≤ 511) : Wp (f_X11_end (some ax) x) (E, D, I) (PA Z ax am ao k [(eI, 19, 1)] (f_X12_end (some am) x) D) := by
  have hD := hc.2.2.2
  have b1 := hD.1.1.2
  have b2 := hD.2.1.1
  have b3 := hD.2.2.1.1
  have b4 := hD.2.2.2.1.1
  have b5 := hD.2.2.2.2.1.1
  have d3 := hD.1.2.1
  have d7 := hD.2.1.2.1
  have d9 := hD.2.2.1.2.1
  have d12 := hD.2.2.2.1.2.1
  have d32 := hD.2.2.2.2.1.2.1
  refine c_end hc (fun h => PA_thr hc hM hB hk (c := 1) hx_1 (by decide) (fun E9 hM9 hcu => m_end hM9 d32 b5 (fun l hl => (hD.2.2.2.2.1.2.2.2.1 l hl).2.2.2.2.1) (fun _ _ => rfl) (fun l hl e => absurd h (ran hl e (by omega))))) (fun l hl e E1 I1 hN hc1 => ?_)
  refine PA_ans hB hk hc1 (hM.cg hN.2.2.2 hN.2.2.1) hN.1 hN.2.1 hN.2.2.1 (by simp [ds]) (fun E9 hM9 hcu => m_end hM9 d32 b5 (fun l hl => (hD.2.2.2.2.1.2.2.2.1 l hl).2.2.2.2.1) (fun h _ => absurd h (ran hl e (by omega))) (fun l' hl' e' => ?_))
  have q1 := nIi e e' (by omega) (by omega)
  subst q1
  exact ⟨rfl, rfl⟩
end SC
