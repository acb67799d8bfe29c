/-! ===== the ends of a turn ===== -/
section SB
variable {E E1 : Es} {I I1 : Tg → Nat → Int32} {D D' : Nat → Nat → Int32} {Z : Nat → Nat} {cap nn nm ng ns nl nc nn' nm' ng' ns' nl' nc' ax am ao k : Nat} {hs : List (String × Nat × Int32)} {fm : Mo Int32}
theorem Cst.sw {w : Int64} {sz : Nat} (h : Cst E I D Z ax ao cap nn nm ng ns nl nc) : Cst (Sw E w sz) I D Z ax ao cap nn nm ng ns nl nc := by
  obtain ⟨h1, ⟨h2, h3, ⟨h4, h5, h6⟩, h7⟩, h8⟩ := h
  refine ⟨h1, ⟨h2, h3, ⟨h4, fun g m hg hm => ?_, h6⟩, h7⟩, h8⟩
  show lb (eLg (eG E (19, 0, 0) 0 w) (4, 1, 0) g) m = _
  rw [eG_ne (by simp)]
  exact h5 g m hg hm
theorem Cst.frD (h : Cst E I D Z ax ao cap nn nm ng ns nl nc) (hF : FrL frA frK D D') : Cst E I D' Z ax ao cap nn nm ng ns nl nc := ⟨h.1, h.2.1.frL hF, h.2.2.1, h.2.2.2.frL hF⟩
theorem hx_1 {X : String} {p : Nat} {c : Int32} : hx ((X, p, c) :: hs) X = mp c := by
  unfold hx
  rw [List.find?_cons_of_pos (by exact decide_eq_true rfl)]
theorem hx_n {X Y : String} {p : Nat} {c : Int32} (h : Y ≠ X) : hx ((Y, p, c) :: hs) X = hx hs X := by
  unfold hx
  rw [List.find?_cons_of_neg (by exact fun e => h (of_decide_eq_true e))]
theorem eIA : eI ≠ eA := by decide
theorem eIS : eI ≠ eS := by decide
theorem eAS : eA ≠ eS := by decide
theorem Bd.up (hB : Bd k E) (h1 : eMc E1 + pot E ≤ eMc E + 1000 + pot E1) (h2 : eMs E1 + 4 * pot E ≤ eMs E + 10000 + 4 * pot E1) (h3 : eCu E1 = eCu E) (h4 : pot E1 ≤ 1200) : Bd (k + 1) E1 := by
  obtain ⟨b1, b2, b3, b4⟩ := hB
  exact ⟨by omega, by omega, by omega, h4⟩
theorem Fin9.o (hc : Cst E1 I1 D' Z ax ao (eCu E1) nn' nm' ng' ns' nl' nc') : eKd E1 (2, 0, 0) ≠ 0 ∧ eAd E1 (19, 0, 0) = ao ∧ eKd E1 (19, 0, 0) = 3 ∧ eLn E1 (19, 0, 0) = 1 := by
  obtain ⟨⟨-, -, h1⟩, h2, -, -, -, -, -, -, -, -, -, -, -, -, -, -, -, h3⟩ := hc.1.1
  exact ⟨by rw [h2]; decide, h1, h3⟩
theorem Sw_o {w : Int64} {sz : Nat} : eLg (Sw E w sz) (19, 0, 0) 0 = w := eG_eq (E := E) (t := (19, 0, 0)) (k := 0) (v := w)
theorem PA_thr {X : String} {c : Int32} (hc : Cst E I D Z ax ao (eCu E) nn nm ng ns nl nc) (hM : ModS E am) (hB : Bd k E) (hk : k ≤ 511) (hx1 : hx hs X = mp c) (hc0 : c ≠ 0) (W : ∀ E', ModS E' am → eCu E' = eCu E → Wp fm (E', D, I) (fun _ g2 => g2 = (E', ds D 0 0 c, I))) : PA Z ax am ao k hs fm D (.inr X) (eXc E 1 6, D, I) := by
  have hp := pot_le hc.2.2.1
  have hB1 : Bd (k + 1) (eXc E 1 6) := hB.up (E1 := eXc E 1 6) (by show eMc E + 1 + pot E ≤ _ + pot E; omega) (by show eMs E + 6 + 4 * pot E ≤ _ + 4 * pot E; omega) rfl hp
  refine ⟨eXc E 1 6, I, c, rfl, hB1.ok (by omega), Fin9.o hc, hM, ⟨hx1, hc0⟩, fun w sz => wp_imp (W (Sw (eXc E 1 6) w sz) hM rfl) (fun b g2 hq => ⟨_, _, _, hq, ⟨nn, nm, ng, ns, nl, nc, ?_, hM, hB1⟩, Sw_o, ds_eq, fun v e => by cases e⟩)⟩
  have h2 : Cst (eXc E 1 6) I (ds D 0 0 c) Z ax ao (eCu E) nn nm ng ns nl nc := hc.bad
  exact h2.sw
theorem PA_ans {v : Int32} (hB : Bd k E) (hk : k ≤ 511) (hc1 : Cst E1 I1 D' Z ax ao (eCu E) nn' nm' ng' ns' nl' nc') (hM1 : ModS E1 am) (hb1 : eMc E1 + pot E ≤ eMc E + 1000 + pot E1) (hb2 : eMs E1 + 4 * pot E ≤ eMs E + 10000 + 4 * pot E1) (hcu : eCu E1 = eCu E) (h0 : D' 0 0 = 0) (W : ∀ E', ModS E' am → eCu E' = eCu E → Wp fm (E', D, I1) (fun b g2 => b = v ∧ g2 = (E', D', I1))) : PA Z ax am ao k hs fm D (.inl v) (E1, D, I1) := by
  have hB1 : Bd (k + 1) E1 := hB.up hb1 hb2 hcu (pot_le hc1.2.2.1)
  rw [← hcu] at hc1
  refine ⟨E1, I1, 0, rfl, hB1.ok (by omega), Fin9.o hc1, hM1, rfl, fun w sz => wp_imp (W (Sw E1 w sz) hM1 hcu) (fun b g2 hq => ?_)⟩
  exact ⟨_, _, _, hq.2, ⟨nn', nm', ng', ns', nl', nc', hc1.sw, hM1, hB1⟩, Sw_o, h0, fun v e => by rw [hq.1]; exact Sum.inl.inj e⟩
theorem ModS.cg (hM : ModS E am) (h : SamT 1 E I E1 I1) (hcu : eCu E1 = eCu E) : ModS E1 am := by
  unfold ModS at hM ⊢
  simp only [(h _ _).1, (h _ _).2.1, (h _ _).2.2.1, (h _ _).2.2.2.1 _, hcu]
  exact hM
theorem Qk.mod (hq : Qk E I E1 I1) (hM : ModS E am) : ModS E1 am := by
  obtain ⟨⟨f1, f2, f3, f4, f5⟩, -, -⟩ := hq
  unfold ModS at hM ⊢
  have k1 : ∀ b c, eAd E1 (1, b, c) = eAd E (1, b, c) ∧ eKd E1 (1, b, c) = eKd E (1, b, c) ∧ eLn E1 (1, b, c) = eLn E (1, b, c) := fun b c => f1 (1, b, c) (by simp) (by simp)
  have k2 : ∀ b c j, eRf E1 (1, b, c) j = eRf E (1, b, c) j := fun b c j => f2 _ _ (by simp) (by simp) (by simp)
  simp only [(k1 _ _).1, (k1 _ _).2.1, (k1 _ _).2.2, k2, f5]
  exact hM
theorem PA_rel {v : Int32} {Dm : Nat → Nat → Int32} (hB : Bd k E) (hk : k ≤ 511) (hc1 : Cst E1 I1 Dm Z ax ao (eCu E) nn' nm' ng' ns' nl' nc') (hM1 : ModS E1 am) (hb1 : eMc E1 + pot E ≤ eMc E + 1000 + pot E1) (hb2 : eMs E1 + 4 * pot E ≤ eMs E + 10000 + 4 * pot E1) (hcu : eCu E1 = eCu E) (W : ∀ E', ModS E' am → eCu E' = eCu E → Wp fm (E', D, I1) (fun b g2 => b = v ∧ ∃ D', g2 = (E', D', I1) ∧ FrL frA frK Dm D' ∧ D' 0 0 = 0)) : PA Z ax am ao k hs fm D (.inl v) (E1, D, I1) := by
  have hB1 : Bd (k + 1) E1 := hB.up hb1 hb2 hcu (pot_le hc1.2.2.1)
  rw [← hcu] at hc1
  refine ⟨E1, I1, 0, rfl, hB1.ok (by omega), Fin9.o hc1, hM1, rfl, fun w sz => wp_imp (W (Sw E1 w sz) hM1 hcu) (fun b g2 hq => ?_)⟩
  obtain ⟨q1, D', q2, q3, q4⟩ := hq
  exact ⟨_, _, _, q2, ⟨nn', nm', ng', ns', nl', nc', (hc1.frD q3).sw, hM1, hB1⟩, Sw_o, q4, fun v e => by rw [q1]; exact Sum.inl.inj e⟩
theorem PA_ask {v : Int32} (hc : Cst E I D Z ax ao (eCu E) nn nm ng ns nl nc) (hM : ModS E am) (hB : Bd k E) (hk : k ≤ 511) (hq : Qk E I E1 I1) (W : ∀ E', ModS E' am → eCu E' = eCu E → Wp fm (E', D, I1) (fun b g2 => b = v ∧ ∃ D', g2 = (E', D', I1) ∧ FrL frA frK D D' ∧ D' 0 0 = 0)) : PA Z ax am ao k hs fm D (.inl v) (E1, D, I1) := PA_rel hB hk (hc.qk hq) (hq.mod hM) (by have := hq.2.2.1; omega) (by have := hq.2.2.2.1; omega) hq.1.2.2.2.2 W
/-- cases that cannot be -/
theorem nor {x n : Int32} (h1 : ¬ x < 0) (h2 : x < n) : ¬ (x < 0 ∨ ¬ x < n) := fun q => q.elim h1 (fun q => q h2)
theorem ran {x : Int32} {n i : Nat} (hi : i < n) (e : x = nI i) (hn : n < 2 ^ 31) : ¬ (x < 0 ∨ ¬ x < nI n) := by
  rw [e]
  exact nor (nI_pos (by omega)) ((nI_ltI (by omega) hn).mpr hi)
theorem nIi {x : Int32} {i j : Nat} (e : x = nI i) (e2 : x = nI j) (hi : i < 2 ^ 31) (hj : j < 2 ^ 31) : i = j := (nI_eq hi hj).mp (e.symm.trans e2)
end SB
