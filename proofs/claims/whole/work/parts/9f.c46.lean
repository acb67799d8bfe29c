/-! ===== the class: what a faulty text leaves ===== -/
section DJ
variable {E E' : Es} {I I' : Tg → Nat → Int32} {D D' : Nat → Nat → Int32} {Z : Nat → Nat} {cap cu nn nm ng ns nl nc ax ao n set o : Nat} {fo : Int32} {cs : List Int32}
theorem pTxt_wf {B : Nat → Int32} {m e : Nat} (hz : Bz B m) (hng : ng ≤ 20) (hnn : nn ≤ 60) (h : pTxt B m ng nn = .inl (e, cs)) : ∃ n', n' ≤ 1 ∧ wfC ng nn cs 0 n' := by
  unfold pTxt at h
  by_cases c : sk B m 0 < m
  · rw [if_pos c] at h
    have hg := pAny_gd (ng := ng) (nn := nn) hz hng hnn 16 0 (sk B m 0) (by omega) (by omega)
    cases hr : pAny B m ng nn 16 0 (sk B m 0) with
    | inl r =>
      rw [hr] at h hg
      dsimp only at h
      by_cases c2 : sk B m r.1 < m
      · rw [if_pos c2] at h
        cases h
      · rw [if_neg c2] at h
        have e2 : (sk B m r.1, r.2) = (e, cs) := Sum.inl.inj h
        have e3 : r.2 = cs := congrArg Prod.snd e2
        rw [← e3]
        exact ⟨1, by omega, hg.2.2.2 0 (by omega)⟩
    | inr x =>
      rw [hr] at h
      cases h
  · rw [if_neg c] at h
    have e2 : (sk B m 0, ([] : List Int32)) = (e, cs) := Sum.inl.inj h
    have e3 : [] = cs := congrArg Prod.snd e2
    rw [← e3]
    exact ⟨0, by omega, rfl⟩
theorem DLnk.flt {pl : Nat} (a5 : DLnk cap D nn ng ns nl nc) (hL : FaulD D D' nc pl) (hcu : cap ≤ cu) : DLnk cu D' nn ng ns nl nc ∧ ∀ l, l < nl → cdl (D' 21) (D' 29) (D' 30) l = cdl (D 21) (D 29) (D 30) l := by
  obtain ⟨hF, l0, l15, l19, l22, l21⟩ := hL
  obtain ⟨c1, c2, ⟨c3, c3', c3''⟩, c4, c5, c6, c7, c8⟩ := id a5
  have r : ∀ j, j ≠ 0 → j ≠ 21 → D' j = D j := fun j h0 h21 => hF.1 j h0 (by simp only [List.mem_singleton]; exact h21)
  have hcd : ∀ l, l < nl → cdl (D' 21) (D' 29) (D' 30) l = cdl (D 21) (D 29) (D 30) l := fun l hl => by
    obtain ⟨f1, f2, f3, f4, f5, fr, to, n'', f6, f7, f8, f9, f10, f11⟩ := c4 l hl
    refine cdl_eq (by rw [r 29 (by decide) (by decide)]) (by rw [r 30 (by decide) (by decide)]) (fun k hk => l21 k ?_)
    rw [f7, nI_clamp (by omega)] at hk
    omega
  refine ⟨⟨c1, by rw [hF.2 32 (by decide)]; exact c2, ⟨l22, c3', by omega⟩, fun l hl => ?_, by rw [r 28 (by decide) (by decide)]; exact c5, by rw [r 31 (by decide) (by decide)]; exact c6, by rw [r 31 (by decide) (by decide)]; exact c7, by rw [r 31 (by decide) (by decide), r 26 (by decide) (by decide)]; exact c8⟩, hcd⟩
  have q := c4 l hl
  unfold LnkOk at q ⊢
  rw [hcd l hl, r 24 (by decide) (by decide), r 25 (by decide) (by decide), r 26 (by decide) (by decide), r 27 (by decide) (by decide), r 28 (by decide) (by decide), r 29 (by decide) (by decide), r 30 (by decide) (by decide)]
  exact q
theorem Cst.flt {pl : Nat} (hc : Cst E I D Z ax ao cap nn nm ng ns nl nc) (hL : FaulD D D' nc pl) (hcu : cap ≤ cu) (f0 : ∀ t k, t.1 ≠ 6 → t.1 ≠ 5 → t.1 ≠ 2 → I' t k = I t k) (f2 : ∀ k, I' (2, 1, 0) k = I (2, 1, 0) k) (f5 : I' (5, 0, 0) 1 = 0) (f51 : ∀ k, I' (5, 1, 0) k = I (5, 1, 0) k) (f8 : I' (2, 0, 0) 8 = nI pl) : Cst E I' D' Z ax ao cu nn nm ng ns nl nc := by
  obtain ⟨hT, hDat, hC, hDI⟩ := hc
  obtain ⟨a1, a2, a3, a4, a5, tp, a6⟩ := hDI
  obtain ⟨b1, b2⟩ := a5.flt hL hcu
  obtain ⟨hF, l0, l15, l19, l22, l21⟩ := hL
  have r : ∀ j, j ≠ 0 → j ≠ 21 → D' j = D j := fun j h0 h21 => hF.1 j h0 (by simp only [List.mem_singleton]; exact h21)
  have s : ∀ a, Nat.beq a 6 = false → Nat.beq a 5 = false → Nat.beq a 2 = false → SamT a E I E I' := fun a h6 h5 h2 b c => ⟨rfl, rfl, rfl, fun _ => rfl, fun _ => rfl, fun k => f0 _ _ (fun e => by
    have e2 : a = 6 := e
    subst e2; cases h6) (fun e => by
    have e2 : a = 5 := e
    subst e2; cases h5) (fun e => by
    have e2 : a = 2 := e
    subst e2; cases h2)⟩
  refine ⟨hT, ⟨hDat.1.cg (s 3 rfl rfl rfl) (s 12 rfl rfl rfl) (s 13 rfl rfl rfl) (r 1 (by decide) (by decide)) (r 2 (by decide) (by decide)) ?_, hDat.2.1.cg (s 20 rfl rfl rfl) (s 14 rfl rfl rfl) (r 4 (by decide) (by decide)) (r 5 (by decide) (by decide)), hDat.2.2.1.cg (s 4 rfl rfl rfl) (hF.2 9 (by decide)) (r 6 (by decide) (by decide)) (r 8 (by decide) (by decide)), hDat.2.2.2.1.cg (s 21 rfl rfl rfl) (s 15 rfl rfl rfl) f2 (r 10 (by decide) (by decide)) (r 11 (by decide) (by decide)) (r 13 (by decide) (by decide)), hDat.2.2.2.2.1.cg (s 22 rfl rfl rfl) (s 16 rfl rfl rfl) (s 17 rfl rfl rfl) (r 24 (by decide) (by decide)) (r 25 (by decide) (by decide)) (r 26 (by decide) (by decide)) (r 27 (by decide) (by decide)) (r 28 (by decide) (by decide)) b2, ⟨by rw [f5, l15], fun k hk => by rw [f51, r 14 (by decide) (by decide)]; exact hDat.2.2.2.2.2.2.1 k hk, by rw [f8, l19]⟩⟩, hC.cg (s 8 rfl rfl rfl) (s 9 rfl rfl rfl), a1.cg (hF.2 3 (by decide)) (r 1 (by decide) (by decide)) (r 2 (by decide) (by decide)), a2.cg (hF.2 7 (by decide)) (r 4 (by decide) (by decide)) (r 5 (by decide) (by decide)), a3.cg (hF.2 9 (by decide)) (r 6 (by decide) (by decide)) (r 8 (by decide) (by decide)), a4.cg (hF.2 12 (by decide)) (r 10 (by decide) (by decide)) (r 11 (by decide) (by decide)) (r 13 (by decide) (by decide)), b1, 0, by omega, l15⟩
  funext i
  unfold lnkN
  rw [r 31 (by decide) (by decide), r 28 (by decide) (by decide), r 24 (by decide) (by decide)]
/-- the class with a new link -/
theorem Cst.lnk {I2 : Tg → Nat → Int32} {c13 c22 n' : Nat} (hc : Cst E I D Z ax ao cap nn nm ng ns nl nc) (hL : LinkD D D' cu n set nl nc (nI o) fo cs) (hn : n < nn) (hs : set < ns) (ho : o < 100) (hf : fo = 0 ∨ fo = 1) (hnl : nl < 100) (hcl : cs.length ≤ 200) (hn' : n' ≤ 1) (hw : wfC ng nn cs 0 n') (f0 : ∀ t k, t.1 ≠ 6 → t.1 ≠ 5 → t.1 ≠ 2 → I2 t k = I t k) (f2 : ∀ k, I2 (2, 1, 0) k = I (2, 1, 0) k) (f5 : I2 (5, 0, 0) 1 = 0) (f51 : ∀ k, I2 (5, 1, 0) k = I (5, 1, 0) k) (f8 : I2 (2, 0, 0) 8 = -1) (sb : ∀ a, Nat.beq a 16 = false → Nat.beq a 17 = false → Nat.beq a 22 = false → Nat.beq a 13 = false → SamT a E I2 E' I') (so : ∀ a k c, k ≠ nl → (a = 16 ∨ a = 17) → eAd E' (a, k, c) = eAd E (a, k, c) ∧ eKd E' (a, k, c) = eKd E (a, k, c) ∧ eLn E' (a, k, c) = eLn E (a, k, c) ∧ (∀ j, eRf E' (a, k, c) j = eRf E (a, k, c) j) ∧ (∀ j, eLg E' (a, k, c) j = eLg E (a, k, c) j) ∧ (∀ j, I' (a, k, c) j = I2 (a, k, c) j)) (s13 : ∀ k c, k ≠ n → eKd E' (13, k, c) = eKd E (13, k, c) ∧ eLn E' (13, k, c) = eLn E (13, k, c) ∧ (∀ j, eRf E' (13, k, c) j = eRf E (13, k, c) j) ∧ (∀ j, I' (13, k, c) j = I2 (13, k, c) j)) (h22 : Lst E' I' 22 0 c22 ((List.range (nl + 1)).map (fun i => (16, i, 0)))) (k22 : c22 ≤ 300) (h13 : Lst E' I' 13 n c13 ((lnkL D nl n o ++ nl :: lnkR D nl n o).map (fun i => (16, i, 0)))) (k13 : c13 ≤ 300) (hx1 : eKd E' (16, nl, 0) = 107 ∧ I' (16, nl, 0) 0 = nI nl ∧ eRf E' (16, nl, 0) 1 = some (12, n, 0) ∧ eRf E' (16, nl, 0) 2 = some (15, set, 0) ∧ I' (16, nl, 0) 3 = nI o ∧ I' (16, nl, 0) 4 = fo ∧ I' (16, nl, 0) 6 = 0 ∧ eRf E' (16, nl, 0) 5 = some (17, nl, 0)) (hx2 : eKd E' (17, nl, 0) = 104 ∧ eRf E' (17, nl, 0) 0 = some (17, nl, 1) ∧ eKd E' (17, nl, 1) = 2 ∧ eLn E' (17, nl, 1) = cs.length ∧ ∀ i y, cs[i]? = some y → I' (17, nl, 1) i = cvS y) : Cst E' I' D' Z ax ao cu nn nm ng ns (nl + 1) (nc + cs.length) := by
  obtain ⟨hT, hDat, hC, hDI⟩ := hc
  have hDI' := hDI.lnk hL hn hs ho hf hnl hcl hn' hw
  have hnn := hDI.1.1.2
  have hns := hDI.2.2.2.1.1
  have hlk : ∀ i, i < nn → _ := fun i hi => lnkN_new hDI.2.2.2.2.1 hL hn hnn ho hnl hi
  obtain ⟨hF, l0, l15, l19, l22, l32, l21, l21', lcu, l24, l25, l26, l27, l29, l30, -⟩ := hL
  have s0 : ∀ a, Nat.beq a 6 = false → Nat.beq a 5 = false → Nat.beq a 2 = false → SamT a E I E I2 := fun a h6 h5 h2 b c => ⟨rfl, rfl, rfl, fun _ => rfl, fun _ => rfl, fun k => f0 _ _ (fun e => by
    have e2 : a = 6 := e
    subst e2; cases h6) (fun e => by
    have e2 : a = 5 := e
    subst e2; cases h5) (fun e => by
    have e2 : a = 2 := e
    subst e2; cases h2)⟩
  have sa : ∀ a, Nat.beq a 6 = false → Nat.beq a 5 = false → Nat.beq a 2 = false → Nat.beq a 16 = false → Nat.beq a 17 = false → Nat.beq a 22 = false → Nat.beq a 13 = false → SamT a E I E' I' := fun a h6 h5 h2 h16 h17 h22 h13 => (s0 a h6 h5 h2).tr (sb a h16 h17 h22 h13)
  have s12 := sa 12 rfl rfl rfl rfl rfl rfl rfl
  have s2 := sb 2 rfl rfl rfl rfl
  have s5 := sb 5 rfl rfl rfl rfl
  obtain ⟨⟨cn, kn, hLN⟩, hNo, hNx⟩ := hDat.1
  obtain ⟨⟨cl, kl, hLl⟩, hLn, hLx⟩ := hDat.2.2.2.2.1
  have hlc := hDI.2.2.2.2.1.2.2.2.1
  have hnc := hDI.2.2.2.2.1.2.2.1
  refine ⟨hT.cg (sb 0 rfl rfl rfl rfl) s2 (sb 4 rfl rfl rfl rfl) s5 (sb 6 rfl rfl rfl rfl) (sb 7 rfl rfl rfl rfl) (sb 10 rfl rfl rfl rfl) (sb 11 rfl rfl rfl rfl) (sb 19 rfl rfl rfl rfl), ⟨⟨⟨cn, kn, (sa 3 rfl rfl rfl rfl rfl rfl rfl).lst hLN⟩, fun i hi => ?_, fun i hi => ⟨by rw [(s12 i 0).2.1]; exact (hNx i hi).1, fun c => by rw [(s13 i c (by omega)).1]; exact (hNx i hi).2 c⟩⟩, hDat.2.1.cg (sa 20 rfl rfl rfl rfl rfl rfl rfl) (sa 14 rfl rfl rfl rfl rfl rfl rfl) (hF.1 4 (by decide) (by decide)) (hF.1 5 (by decide) (by decide)), hDat.2.2.1.cg (sa 4 rfl rfl rfl rfl rfl rfl rfl) (hF.2 9 (by decide)) (hF.1 6 (by decide) (by decide)) (hF.1 8 (by decide) (by decide)), hDat.2.2.2.1.cg (sa 21 rfl rfl rfl rfl rfl rfl rfl) (sa 15 rfl rfl rfl rfl rfl rfl rfl) (fun k => by rw [(s2 1 0).2.2.2.2.2, f2]) (hF.1 10 (by decide) (by decide)) (hF.1 11 (by decide) (by decide)) (hF.1 13 (by decide) (by decide)), ⟨⟨c22, k22, h22⟩, fun l hl => ?_, fun l hl => ⟨?_, fun c => ?_⟩⟩, ⟨by rw [(s5 0 0).2.2.2.2.2, f5, l15], fun k hk => by rw [(s5 1 0).2.2.2.2.2, f51, hF.1 14 (by decide) (by decide)]; exact hDat.2.2.2.2.2.2.1 k hk, by rw [(s2 0 0).2.2.2.2.2, f8, l19]⟩⟩, hC.cg (sa 8 rfl rfl rfl rfl rfl rfl rfl) (sa 9 rfl rfl rfl rfl rfl rfl rfl), hDI'⟩
  · obtain ⟨p1, p2, p3, p4, p5, c, p6, p7⟩ := hNo i hi
    obtain ⟨e1, e2, e3, e4, e5, e6⟩ := s12 i 0
    refine ⟨by rw [e2]; exact p1, by rw [e6]; exact p2, by rw [e4, hF.1 1 (by decide) (by decide)]; exact p3, by rw [e6, hF.1 2 (by decide) (by decide)]; exact p4, by rw [e4]; exact p5, ?_⟩
    rw [hlk i hi]
    by_cases e : i = n
    · subst e
      rw [if_pos rfl]
      exact ⟨c13, k13, h13⟩
    · rw [if_neg e]
      refine ⟨c, p6, ?_⟩
      exact ((s0 13 rfl rfl rfl).lst p7).cg (fun x => (s13 i x e).1) (fun x => (s13 i x e).2.1) (fun x k => (s13 i x e).2.2.1 k) ((s13 i 0 e).2.2.2 2)
  · by_cases e : l = nl
    · subst e
      obtain ⟨x1, x2, x3, x4, x5, x6, x7, x8⟩ := hx1
      obtain ⟨y1, y2, y3, y4, y5⟩ := hx2
      have hcd : cdl (D' 21) (D' 29) (D' 30) l = cs := cdl_new (by omega) (by rw [l29, if_pos rfl]) (by rw [l30, if_pos rfl]) l21'
      unfold LnkC
      rw [hcd, l24, l25, l26, l27, if_pos rfl, if_pos rfl, if_pos rfl, if_pos rfl, nI_clamp (by omega), nI_clamp (by omega)]
      refine ⟨x1, x2, x3, x4, x5, x6, ?_, x8, y1, y2, y3, y4, y5⟩
      rw [x7, hF.1 28 (by decide) (by decide), hDI.2.2.2.2.1.2.2.2.2.1 l (Nat.le_refl _)]
    · obtain ⟨p1, p2, p3, p4, p5, p6, p7, p8, p9, p10, p11, p12, p13⟩ := hLn l (by omega)
      obtain ⟨e1, e2, e3, e4, e5, e6⟩ := so 16 l 0 e (.inl rfl)
      obtain ⟨g1, g2, g3, g4, g5, g6⟩ := so 17 l 0 e (.inr rfl)
      obtain ⟨w1, w2, w3, w4, w5, w6⟩ := so 17 l 1 e (.inr rfl)
      have hcd : cdl (D' 21) (D' 29) (D' 30) l = cdl (D 21) (D 29) (D 30) l := by
        obtain ⟨_, _, _, _, _, fr, to, n'', f6, f7, f8, f9, f10, f11⟩ := hlc l (by omega)
        refine cdl_eq (by rw [l29, if_neg e]) (by rw [l30, if_neg e]) (fun k hk => l21 k ?_)
        rw [f7, nI_clamp (by omega)] at hk
        omega
      have i16 : ∀ j, I' (16, l, 0) j = I (16, l, 0) j := fun j => by rw [e6, f0 _ _ (by simp) (by simp) (by simp)]
      unfold LnkC
      rw [hcd, l24, l25, l26, l27, if_neg e, if_neg e, if_neg e, if_neg e]
      refine ⟨by rw [e2]; exact p1, by rw [i16]; exact p2, by rw [e4]; exact p3, by rw [e4]; exact p4, by rw [i16]; exact p5, by rw [i16]; exact p6, by rw [i16, hF.1 28 (by decide) (by decide)]; exact p7, by rw [e4]; exact p8, by rw [g2]; exact p9, by rw [g4]; exact p10, by rw [w2]; exact p11, by rw [w3]; exact p12, fun i c hi => by rw [w6, f0 _ _ (by simp) (by simp) (by simp)]; exact p13 i c hi⟩
  · rw [(so 16 l 0 (by omega) (.inl rfl)).2.1]
    exact (hLx l (by omega)).1
  · rw [(so 17 l c (by omega) (.inr rfl)).2.1]
    exact (hLx l (by omega)).2 c
end DJ
