/-! ===== what holds between the law's turns ===== -/
def eSz (E : Es) (sz : Nat) : Es := (E.1, E.2.1, E.2.2.1, E.2.2.2.1, E.2.2.2.2.1, sz, E.2.2.2.2.2.2)
/-- the answer is laid down, and the heap has another size -/
def Sw (E : Es) (w : Int64) (sz : Nat) : Es := eSz (eG E (19, 0, 0) 0 w) sz
def Bd (k : Nat) (E : Es) : Prop := eMc E ≤ 3000 + 1010 * k + eCu E + pot E ∧ eMs E ≤ 60000 + 10010 * k + 2 * eCu E + 4 * pot E ∧ eCu E ≤ 40960 ∧ pot E ≤ 1200
def Fin9 (Z : Nat → Nat) (ax am ao k : Nat) (E : Es) (D : Nat → Nat → Int32) (I : Tg → Nat → Int32) : Prop := ∃ nn nm ng ns nl nc, Cst E I D Z ax ao (eCu E) nn nm ng ns nl nc ∧ ModS E am ∧ Bd k E
def Jk (Z : Nat → Nat) (ax am ao k : Nat) (h : Hs) (c n : Nat) : Prop := ∃ E D I, p_Rep (E, D, I) h ∧ c = eMc E ∧ n = eMs E ∧ Fin9 Z ax am ao k E D I
def PA (Z : Nat → Nat) (ax am ao k : Nat) (hs : List (String × Nat × Int32)) (fm : Mo Int32) (D : Nat → Nat → Int32) (r : Int32 ⊕ String) (g : Gh) : Prop := ∃ E1 I1 c, g = (E1, D, I1) ∧ (eMc E1 ≤ 601024 ∧ eMs E1 ≤ 7293034) ∧ (eKd E1 (2, 0, 0) ≠ 0 ∧ eAd E1 (19, 0, 0) = ao ∧ eKd E1 (19, 0, 0) = 3 ∧ eLn E1 (19, 0, 0) = 1) ∧ ModS E1 am ∧ (match r with
  | .inl _ => c = 0
  | .inr X => hx hs X = mp c ∧ c ≠ 0) ∧ ∀ w sz, Wp fm (Sw E1 w sz, D, I1) (fun b g2 => ∃ E2 D2 I2, g2 = (E2, D2, I2) ∧ Fin9 Z ax am ao (k + 1) E2 D2 I2 ∧ eLg E2 (19, 0, 0) 0 = w ∧ D2 0 0 = c ∧ ∀ v, r = .inl v → b = v)
section SA
variable {E E' : Es} {I I' : Tg → Nat → Int32} {D D' : Nat → Nat → Int32} {Z : Nat → Nat} {cap nn nm ng ns nl nc ax am ao k : Nat}
theorem p_Rep.sz {h : Hs} {sz : Nat} (r : p_Rep (E, D, I) h) (h2 : eKd E (2, 0, 0) ≠ 0) (hsz : ∀ q, sz ≤ q → h.1 q = none) : p_Rep (eSz E sz, D, I) (h.1, sz) := by
  obtain ⟨r1, r2, r3, r4, r5, r6, r7, r8⟩ := r
  refine ⟨rfl, r2, r3, hsz, r5, r6, r7, ?_⟩
  show eAd E (0, 0, 0) < sz
  have a1 : eAd E (0, 0, 0) < eAd E (2, 0, 0) := r7 _ h2
  have a2 : eAd E (2, 0, 0) < sz := Nat.lt_of_not_le (fun q => by
    have a3 : h.1 (eAd E (2, 0, 0)) = some _ := r2 (2, 0, 0) h2
    rw [hsz _ q] at a3
    cases a3)
  omega
theorem eG_id {t : Tg} {j : Nat} : eG E t j (eLg E t j) = E := by
  obtain ⟨a1, a2, a3, a4, a5, a6⟩ := E
  unfold eG
  congr 5
  funext u i
  split
  · rename_i e
    rw [e.1, e.2]
  · rfl
theorem pot_le (h : CScr E I) : pot E ≤ 1200 := by
  obtain ⟨⟨c1, x1, k1, l1⟩, c2, x2, k2, l2⟩ := h 0 (by omega)
  obtain ⟨⟨c3, x3, k3, l3⟩, c4, x4, k4, l4⟩ := h 1 (by omega)
  unfold pot
  rw [l1.cpO, l2.cpO, l3.cpO, l4.cpO]
  omega
theorem Bd.ok {k : Nat} (h : Bd k E) (hk : k ≤ 512) : eMc E ≤ 601024 ∧ eMs E ≤ 7293034 := by
  obtain ⟨h1, h2, h3, h4⟩ := h
  omega
theorem rdL {h : Hs} (r : p_Rep (E, D, I) h) (ha : eAd E (19, 0, 0) = ao) (hk : eKd E (19, 0, 0) = 3) (hn : eLn E (19, 0, 0) = 1) : aL (some ao) 0 h = some (eLg E (19, 0, 0) 0, h, 0, 0) := by
  rw [← ha]
  unfold aL
  rw [p_ar (g := (E, D, I)) (t := (19, 0, 0)) (u := 2) r hk (by omega), if_pos rfl]
  dsimp only
  rw [if_neg (fun e => e.elim (by decide) (fun e => by
    have e2 : eLn E (19, 0, 0) ≤ (0 : Int32).toNatClampNeg := e
    rw [hn] at e2
    exact absurd e2 (by decide)))]
  rfl
theorem stA {R : Room} (hR1 : R.cells = 601024) (hR2 : R.slots = 7293034) (hk : k ≤ 511) {hs : List (String × Nat × Int32)} {fx : Mo (Int32 ⊕ String)} {K : Int32 → Mo Int32} {tl : Int32 → Int64} {fm : Mo Int32} {h : Hs} (hK : ∀ v, K v = mb (sL (some ao) 0 (tl v)) (fun _ => mp 0)) (hr : p_Rep (E, D, I) h) (hax : eAd E (2, 0, 0) = ax) (h114 : eKd E (2, 0, 0) = 114) (W : Wp fx (E, D, I) (PA Z ax am ao k hs fm D)) : StepA R (mh hs (mo 14 (some ax) fx) K) (mo 15 (some am) fm) (mo 15 (some am) (f_X12_thrown (some am))) (aL (some ao) 0) tl (Jk Z ax am ao (k + 1)) h (eMc E) (eMs E) := by
  have WW : Wp (mh hs (mo 14 (some ax) fx) K) (E, D, I) (fun v g1 => ∃ E1 I1, g1 = (E1, D, I1) ∧ (eMc E1 ≤ 601024 ∧ eMs E1 ≤ 7293034) ∧ eKd E1 (2, 0, 0) ≠ 0 ∧ ModS E1 am ∧ ∀ sz, Wp fm (eSz E1 sz, D, I1) (fun b g2 => ∃ E2 D2 I2, g2 = (E2, D2, I2) ∧ Fin9 Z ax am ao (k + 1) E2 D2 I2 ∧ D2 0 0 = v ∧ (v = 0 → eLg E2 (19, 0, 0) 0 = tl b))) := by
    unfold mh
    refine wp_mb (wc_mo hax h114 (wp_imp W (fun r g hP => ?_)))
    obtain ⟨E1, I1, c, rfl, hb, ⟨h2, ha, h3, h4⟩, hM, hc, Wm⟩ := hP
    cases r with
    | inl v =>
      dsimp only at hc ⊢
      rw [hK]
      refine wc_sL (t := (19, 0, 0)) 0 ha h3 rfl (by omega) (by rw [h4]; omega) (wp_mp ?_)
      refine ⟨eG E1 (19, 0, 0) 0 (tl v), I1, rfl, hb, h2, hM, fun sz => wp_imp (Wm (tl v) sz) (fun b g2 hq => ?_)⟩
      obtain ⟨E2, D2, I2, q1, q2, q3, q4, q5⟩ := hq
      exact ⟨E2, D2, I2, q1, q2, q4.trans hc, fun _ => by rw [q3, q5 v rfl]⟩
    | inr X =>
      dsimp only at hc ⊢
      rw [hc.1]
      refine wp_mp ⟨E1, I1, rfl, hb, h2, hM, fun sz => ?_⟩
      have Wm := Wm (eLg E1 (19, 0, 0) 0) sz
      unfold Sw at Wm
      rw [eG_id] at Wm
      refine wp_imp Wm (fun b g2 hq => ?_)
      obtain ⟨E2, D2, I2, q1, q2, q3, q4, q5⟩ := hq
      exact ⟨E2, D2, I2, q1, q2, q4, fun e => absurd e hc.2⟩
  obtain ⟨v, h1, c, n, g1, e1, r1, q1, q2, E1, I1, rfl, hb, h2, hM, Wm⟩ := WW h hr
  have q1 : eMc E1 = eMc E + c := q1
  have q2 : eMs E1 = eMs E + n := q2
  refine ⟨v, h1, c, n, e1, fun sz hsz => ?_, by omega, by omega⟩
  have hM2 : ModS (eSz E1 sz) am := hM
  obtain ⟨b, h3, c2, n2, g2, e2, r2, q3, q4, E2, D2, I2, rfl, hF, hd, hl⟩ := (wc_mo (t := (1, 0, 0)) (ci := 15) hM2.1 hM2.2.1 (Wm sz)) (h1.1, sz) (r1.sz h2 hsz)
  obtain ⟨nn, nm, ng, ns, nl, nc, hC2, hM3, hB3⟩ := id hF
  have hok := hB3.ok (by omega)
  have q3 : eMc E2 = eMc E1 + c2 := q3
  have q4 : eMs E2 = eMs E1 + n2 := q4
  refine ⟨b, h3, c2, n2, e2, ?_, by omega, by omega⟩
  have Wt : Wp (mo 15 (some am) (f_X12_thrown (some am))) (E2, D2, I2) (fun x g3 => x = D2 0 0 ∧ g3 = (E2, D2, I2)) := by
    refine wc_mo (t := (1, 0, 0)) (ci := 15) hM3.1 hM3.2.1 ?_
    unfold f_X12_thrown
    exact wm_I hM3 rfl (wp_mp ⟨rfl, rfl⟩)
  obtain ⟨x, h4, c3, n3, g3, e3, r3, q5, q6, rfl, rfl⟩ := Wt h3 r2
  have q5 : eMc E2 = eMc E2 + c3 := q5
  have q6 : eMs E2 = eMs E2 + n3 := q6
  have hT := hC2.1.1
  refine ⟨h4, c3, n3, by rw [e3, hd], ⟨fun hv => ?_, E2, D2, I2, r3, by omega, by omega, hF⟩, by omega, by omega⟩
  rw [rdL r3 hT.1.2.2 hT.2.2.2.2.2.2.2.2.2.2.2.2.2.2.2.2.2.1 hT.2.2.2.2.2.2.2.2.2.2.2.2.2.2.2.2.2.2, hl hv]
theorem stD {R : Room} (hR1 : R.cells = 601024) (hR2 : R.slots = 7293034) (hk : k ≤ 511) {fx fm : Mo Int32} {h : Hs} (hr : p_Rep (E, D, I) h) (hax : eAd E (2, 0, 0) = ax) (h114 : eKd E (2, 0, 0) = 114) (W : Wp fx (E, D, I) (fun v g1 => ∃ E1 I1, g1 = (E1, D, I1) ∧ (eMc E1 ≤ 601024 ∧ eMs E1 ≤ 7293034) ∧ ModS E1 am ∧ Wp fm (E1, D, I1) (fun b g2 => b = v ∧ ∃ E2 D2 I2, g2 = (E2, D2, I2) ∧ Fin9 Z ax am ao (k + 1) E2 D2 I2))) : StepD R (mo 14 (some ax) fx) (mo 15 (some am) fm) (Jk Z ax am ao (k + 1)) h (eMc E) (eMs E) := by
  obtain ⟨v, h1, c, n, g1, e1, r1, q1, q2, E1, I1, rfl, hb, hM, Wm⟩ := (wc_mo (ci := 14) hax h114 W) h hr
  have q1 : eMc E1 = eMc E + c := q1
  have q2 : eMs E1 = eMs E + n := q2
  refine ⟨v, h1, c, n, e1, ?_, by omega, by omega⟩
  obtain ⟨b, h3, c2, n2, g2, e2, r2, q3, q4, rfl, E2, D2, I2, rfl, hF⟩ := (wc_mo (t := (1, 0, 0)) (ci := 15) hM.1 hM.2.1 Wm) h1 r1
  obtain ⟨nn, nm, ng, ns, nl, nc, hC2, hM3, hB3⟩ := id hF
  have hok := hB3.ok (by omega)
  have q3 : eMc E2 = eMc E1 + c2 := q3
  have q4 : eMs E2 = eMs E1 + n2 := q4
  exact ⟨h3, c2, n2, e2, ⟨E2, D2, I2, r2, by omega, by omega, hF⟩, by omega, by omega⟩
end SA
