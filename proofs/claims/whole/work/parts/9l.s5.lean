/-! ===== the turns: link, and the calls that never throw ===== -/
section SE
variable {E E' : Es} {I I' : Tg → Nat → Int32} {D : Nat → Nat → Int32} {Z : Nat → Nat} {cap nn nm ng ns nl nc ax am ao k : Nat}
theorem SamT.ex {a : Nat} (hE : EqC E E') (hI : ∀ t : Tg, t.1 ≠ 1 → ∀ k, I' t k = I t k) (ha : Nat.beq a 1 = false) : SamT a E I E' I' := fun b c => by
  have h1 : ((a, b, c) : Tg).1 ≠ 1 := fun e => by
    have e2 : a = 1 := e
    subst e2; cases ha
  obtain ⟨q1, q2, q3, q4, q5⟩ := hE (a, b, c) h1
  exact ⟨q1, q2, q3, q4, q5, hI (a, b, c) h1⟩
theorem Cst.ex (h : Cst E I D Z ax ao cap nn nm ng ns nl nc) (hE : EqC E E') (hI : ∀ t : Tg, t.1 ≠ 1 → ∀ k, I' t k = I t k) : Cst E' I' D Z ax ao cap nn nm ng ns nl nc := by
  have s : ∀ a, Nat.beq a 1 = false → SamT a E I E' I' := fun a ha => SamT.ex hE hI ha
  obtain ⟨hT, hDat, hC, hDI⟩ := h
  exact ⟨hT.cg (s 0 rfl) (s 2 rfl) (s 4 rfl) (s 5 rfl) (s 6 rfl) (s 7 rfl) (s 10 rfl) (s 11 rfl) (s 19 rfl), ⟨hDat.1.cg (s 3 rfl) (s 12 rfl) (s 13 rfl) rfl rfl rfl, hDat.2.1.cg (s 20 rfl) (s 14 rfl) rfl rfl, hDat.2.2.1.cg (s 4 rfl) rfl rfl rfl, hDat.2.2.2.1.cg (s 21 rfl) (s 15 rfl) (fun k => (s 2 rfl 1 0).2.2.2.2.2 k) rfl rfl rfl, hDat.2.2.2.2.1.cg (s 22 rfl) (s 16 rfl) (s 17 rfl) rfl rfl rfl rfl rfl (fun _ _ => rfl), hDat.2.2.2.2.2.cg (s 5 rfl) ((s 2 rfl 0 0).2.2.2.2.2 8) rfl rfl rfl⟩, hC.cg (s 8 rfl) (s 9 rfl), hDI⟩
theorem a_link {x y od fo b : Int32} (hZ : ZO Z) (hf01 : fo = 0 ∨ fo = 1) (hc : Cst E I D Z ax ao (eCu E) nn nm ng ns nl nc) (hM : ModS E am) (hB : Bd k E) (hk : k ≤ 511) : Wp (f_X11_link Z (some ax) x y od fo b) (E, D, I) (PA Z ax am ao k [(eI, 19, 1), (eA, 23, 2), (eS, 27, 3)] (f_X12_link Z (some am) x y od fo b) D) := by
  have hD := hc.2.2.2
  have b1 := hD.1.1.2
  have b4 := hD.2.2.2.1.1
  have b5 := hD.2.2.2.2.1.1
  obtain ⟨tp, htp⟩ := hD.2.2.2.2.2
  have htp2 := htp.1
  have h40 := hB.2.2.1
  have nf : ∀ (od b : Int32) o t, o < 100 → od = nI o → t ≤ tp → b = nI t → ¬ ((od < 0 ∨ ¬ od < 100) ∨ (b < 0 ∨ ¬ b < nI (tp + 1))) := fun od b o t ho e ht e2 q => q.elim (ran ho e (by first | omega | decide)) (ran (n := tp + 1) (by omega) e2 (by omega))
  refine c_link hZ hc htp hf01 (fun h => PA_thr hc hM hB hk (c := 1) hx_1 (by decide) (fun E9 hM9 hcu => m_link hZ hM9 (by omega) (hcu ▸ hD) htp hf01 (fun _ _ => rfl) (fun a b _ _ => absurd h (nor a b)) (fun a b _ _ _ _ => absurd h (nor a b)) (fun a b _ _ _ _ _ _ => absurd h (nor a b)) (fun n set o t hn e _ _ _ _ _ _ _ => absurd h (ran hn e (by omega))))) (fun a b h => PA_thr hc hM hB hk (c := 1) hx_1 (by decide) (fun E9 hM9 hcu => m_link hZ hM9 (by omega) (hcu ▸ hD) htp hf01 (fun h' _ => absurd h' (nor a b)) (fun _ _ _ _ => rfl) (fun _ _ a b _ _ => absurd h (nor a b)) (fun _ _ a b _ _ _ _ => absurd h (nor a b)) (fun n set o t _ _ hs e _ _ _ _ _ => absurd h (ran hs e (by omega))))) (fun a b c d h => PA_thr hc hM hB hk (c := 2) ((hx_n eIA).trans hx_1) (by decide) (fun E9 hM9 hcu => m_link hZ hM9 (by omega) (hcu ▸ hD) htp hf01 (fun h' _ => absurd h' (nor a b)) (fun _ _ h' _ => absurd h' (nor c d)) (fun _ _ _ _ _ _ => rfl) (fun _ _ _ _ e f _ _ => absurd h (fun q => q.elim (nor e.1 e.2) (nor f.1 f.2))) (fun n set o t _ _ _ _ ho e ht e2 _ => absurd h (nf _ _ o t ho e ht e2)))) (fun a b c d e f h => PA_thr hc hM hB hk (c := 3) ((hx_n eIS).trans ((hx_n eAS).trans hx_1)) (by decide) (fun E9 hM9 hcu => m_link hZ hM9 (by omega) (hcu ▸ hD) htp hf01 (fun h' _ => absurd h' (nor a b)) (fun _ _ h' _ => absurd h' (nor c d)) (fun _ _ _ _ h' _ => absurd h' (fun q => q.elim (nor e.1 e.2) (nor f.1 f.2))) (fun _ _ _ _ _ _ _ _ => rfl) (fun n set o t _ _ _ _ _ _ _ _ hl => absurd h (by omega)))) (fun n set o t hn e hs e2 ho e3 ht e4 hl => ⟨fun f hf I1 s1 hF => ?_, fun e9 cs hp E1 I1 hN hpt hT1 hL => ?_⟩)
  · have hB1 : Bd (k + 1) E := hB.up (by omega) (by omega) rfl (pot_le hc.2.2.1)
    refine ⟨E, I1, 0, rfl, hB1.ok (by omega), Fin9.o hc, hM, rfl, fun w sz => ?_⟩
    refine m_link (E := Sw E w sz) hZ hM h40 hD htp hf01 (fun h' _ => absurd h' (ran hn e (by omega))) (fun _ _ h' _ => absurd h' (ran hs e2 (by omega))) (fun _ _ _ _ h' _ => absurd h' (nf _ _ o t ho e3 ht e4)) (fun _ _ _ _ _ _ h' _ => absurd h' (by omega)) (fun n' set' o' t' hn' e' hs' e2' ho' e3' ht' e4' hl' => ?_)
    have q4 := nIi e4 e4' (by omega) (by omega)
    subst q4
    refine ⟨fun f' hf' E2 D2 I2 hX hFD => ?_, fun e' cs' hp' => ?_⟩
    · have ef : f = f' := Sum.inr.inj (hf.symm.trans hf')
      subst ef
      obtain ⟨x1, x2, x3, x4, x5, x6, x7⟩ := hX
      have x4 : eMs E2 + 2 * eCu E = eMs E + 2 * eCu E2 := x4
      have x5 : eMc E2 + eCu E ≤ eMc E + eCu E2 := x5
      have x6 : eCu E ≤ eCu E2 := x6
      have hC2 : Cst E2 I2 D2 Z ax ao (eCu E2) nn nm ng ns nl nc := ((hF D2 (eCu E2) x6 hFD).sw (w := w) (sz := sz)).ex x2 x3
      have hpt : pot E2 = pot E := show pot E2 = pot (Sw E w sz) from pot_cg (SamT.ex (I := I1) x2 x3 rfl) (SamT.ex (I := I1) x2 x3 rfl)
      obtain ⟨y1, y2, y3, y4⟩ := hB
      refine ⟨E2, D2, I2, rfl, ⟨nn, nm, ng, ns, nl, nc, hC2, x1, ⟨by omega, by omega, x7, by omega⟩⟩, ?_, hFD.2.1, fun v ev => Sum.inl.inj ev⟩
      rw [(x2 (19, 0, 0) (by simp)).2.2.2.2 0]
      exact Sw_o
    · rw [hf] at hp'
      cases hp'
  · have hp2 := pot_le hc.2.2.1
    have hB1 : Bd (k + 1) E1 := hB.up hN.1 hN.2.1 hN.2.2.1 (by omega)
    have hM1 : ModS E1 am := hM.cg hN.2.2.2 hN.2.2.1
    have hcu : eCu E1 = eCu E := hN.2.2.1
    have ho9 : eKd E1 (2, 0, 0) ≠ 0 ∧ eAd E1 (19, 0, 0) = ao ∧ eKd E1 (19, 0, 0) = 3 ∧ eLn E1 (19, 0, 0) = 1 := by
      obtain ⟨⟨-, -, h1⟩, h2, -, -, -, -, -, -, -, -, -, -, -, -, -, -, -, h3⟩ := hT1.1
      exact ⟨by rw [h2]; decide, h1, h3⟩
    refine ⟨E1, I1, 0, rfl, hB1.ok (by omega), ho9, hM1, rfl, fun w sz => ?_⟩
    refine m_link (E := Sw E1 w sz) hZ hM1 (by show eCu E1 ≤ _; omega) (hcu ▸ hD) htp hf01 (fun h' _ => absurd h' (ran hn e (by omega))) (fun _ _ h' _ => absurd h' (ran hs e2 (by omega))) (fun _ _ _ _ h' _ => absurd h' (nf _ _ o t ho e3 ht e4)) (fun _ _ _ _ _ _ h' _ => absurd h' (by omega)) (fun n' set' o' t' hn' e' hs' e2' ho' e3' ht' e4' hl' => ?_)
    have q4 := nIi e4 e4' (by omega) (by omega)
    have q1 := nIi e e' (by omega) (by omega)
    have q2 := nIi e2 e2' (by omega) (by omega)
    subst q4 q1 q2
    refine ⟨fun f' hf' => ?_, fun e' cs' hp' E2 D2 I2 hX hLD => ?_⟩
    · rw [hp] at hf'
      cases hf'
    · have ef : (e9, cs) = (e', cs') := Sum.inl.inj (hp.symm.trans hp')
      have ef2 : cs = cs' := congrArg Prod.snd ef
      subst ef2
      obtain ⟨x1, x2, x3, x4, x5, x6, x7⟩ := hX
      have x4 : eMs E2 + 2 * eCu E1 = eMs E1 + 2 * eCu E2 := x4
      have x5 : eMc E2 + eCu E1 ≤ eMc E1 + eCu E2 := x5
      have x6 : eCu E1 ≤ eCu E2 := x6
      have hC2 : Cst E2 I2 D2 Z ax ao (eCu E2) nn nm ng ns (nl + 1) (nc + cs.length) := ((hL D2 (eCu E2) hLD).sw (w := w) (sz := sz)).ex x2 x3
      have hpt2 : pot E2 = pot E1 := show pot E2 = pot (Sw E1 w sz) from pot_cg (SamT.ex (I := I1) x2 x3 rfl) (SamT.ex (I := I1) x2 x3 rfl)
      obtain ⟨y1, y2, y3, y4⟩ := hB1
      refine ⟨E2, D2, I2, rfl, ⟨nn, nm, ng, ns, nl + 1, nc + cs.length, hC2, x1, ⟨by omega, by omega, x7, by omega⟩⟩, ?_, hLD.2.1, fun v ev => Sum.inl.inj ev⟩
      rw [(x2 (19, 0, 0) (by simp)).2.2.2.2 0]
      exact Sw_o
theorem PD_of {v : Int32} {fm : Mo Int32} {I1 : Tg → Nat → Int32} (hc : Cst E I D Z ax ao (eCu E) nn nm ng ns nl nc) (hM : ModS E am) (hB : Bd k E) (hk : k ≤ 511) (W : Wp fm (E, D, I1) (fun b g2 => b = v ∧ ∃ D2, g2 = (E, D2, I1) ∧ Cst E I1 D2 Z ax ao (eCu E) nn nm ng ns nl nc)) : ∃ E1 I9, (E, D, I1) = (E1, D, I9) ∧ (eMc E1 ≤ 601024 ∧ eMs E1 ≤ 7293034) ∧ ModS E1 am ∧ Wp fm (E1, D, I9) (fun b g2 => b = v ∧ ∃ E2 D2 I2, g2 = (E2, D2, I2) ∧ Fin9 Z ax am ao (k + 1) E2 D2 I2) := by
  have hB1 : Bd (k + 1) E := hB.up (by omega) (by omega) rfl (pot_le hc.2.2.1)
  refine ⟨E, I1, rfl, hB1.ok (by omega), hM, wp_imp W (fun b g2 hq => ?_)⟩
  obtain ⟨q1, D2, q2, q3⟩ := hq
  exact ⟨q1, E, D2, I1, q2, nn, nm, ng, ns, nl, nc, q3, hM, hB1⟩
end SE
