/-! ===== the class: link ===== -/
section DK
variable {E : Es} {I : Tg → Nat → Int32} {D : Nat → Nat → Int32} {Z : Nat → Nat} {cap nn nm ng ns nl nc ax ao : Nat} {P : (Int32 ⊕ String) → Gh → Prop}
theorem c_link {x y od fo b : Int32} {tp : Nat} (hZ : ZO Z) (hc : Cst E I D Z ax ao cap nn nm ng ns nl nc) (htp : DTap D tp) (hf01 : fo = 0 ∨ fo = 1) (k1 : (x < 0 ∨ ¬ x < nI nn) → P (.inr eI) (eXc E 1 6, D, I)) (k2 : ¬ x < 0 → x < nI nn → (y < 0 ∨ ¬ y < nI ns) → P (.inr eI) (eXc E 1 6, D, I)) (k3 : ¬ x < 0 → x < nI nn → ¬ y < 0 → y < nI ns → ((od < 0 ∨ ¬ od < 100) ∨ (b < 0 ∨ ¬ b < nI (tp + 1))) → P (.inr eA) (eXc E 1 6, D, I)) (k4 : ¬ x < 0 → x < nI nn → ¬ y < 0 → y < nI ns → (¬ od < 0 ∧ od < 100) → (¬ b < 0 ∧ b < nI (tp + 1)) → nl = 100 → P (.inr eS) (eXc E 1 6, D, I)) (k5 : ∀ n set o t, n < nn → x = nI n → set < ns → y = nI set → o < 100 → od = nI o → t ≤ tp → b = nI t → nl < 100 → (∀ f, pTxt (fun k => if k < t then D 14 k &&& 255 else 0) t ng nn = .inr f → ∀ I', SamT 1 E I E I' → (∀ D' cu, cap ≤ cu → FaulD D D' nc f.2 → Cst E I' D' Z ax ao cu nn nm ng ns nl nc) → P (.inl (nI f.1 - 10)) (E, D, I')) ∧ (∀ e cs, pTxt (fun k => if k < t then D 14 k &&& 255 else 0) t ng nn = .inl (e, cs) → ∀ E' I', Nx E I E' I' → pot E' = pot E → StaC E' Z ax ao → (∀ D' cu, LinkD D D' cu n set nl nc od fo cs → Cst E' I' D' Z ax ao cu nn nm ng ns (nl + 1) (nc + cs.length)) → P (.inl (nI nl)) (E', D, I'))) : Wp (f_X11_link Z (some ax) x y od fo b) (E, D, I) P := by
  obtain ⟨hT, hDat, hC, hDI⟩ := id hc
  obtain ⟨⟨hz, hax, -⟩, t0, t1, t2, t3, t4, t5, t6, t7, t8, -⟩ := id hT.1
  obtain ⟨⟨cn, kn, hLN⟩, hNo, hNx⟩ := hDat.1
  obtain ⟨⟨cs0, ks, hLS⟩, hSe, hSx, -⟩ := hDat.2.2.2.1
  obtain ⟨⟨cl, kl, hLl⟩, hLn, hLx⟩ := hDat.2.2.2.2.1
  obtain ⟨w1, w2, w3⟩ := hDat.2.2.2.2.2
  have hnn := hDI.1.1.2
  have hng := hDI.2.2.1.1
  have hns := hDI.2.2.2.1.1
  have hnl := hDI.2.2.2.2.1.1
  obtain ⟨htp2, htp15⟩ := htp
  have hTp := hT.2.2.1
  unfold f_X11_link
  refine wc_R hax t0 t1 rfl ?_
  refine wc_call rfl hLN.1 (l_size hLN rfl rfl ?_)
  rw [List.length_map, List.length_range]
  refine c_need (by omega) k1 (fun n hn e => ?_)
  subst e
  have xn : ¬ nI n < 0 ∧ nI n < nI nn := ⟨nI_pos (by omega), (nI_ltI (by omega) (by omega)).mpr hn⟩
  refine wc_R hax t0 t4 rfl ?_
  refine wc_call rfl hLS.1 (l_size hLS rfl rfl ?_)
  rw [List.length_map, List.length_range]
  refine c_need (by omega) (k2 xn.1 xn.2) (fun set hs e => ?_)
  subst e
  have ys : ¬ nI set < 0 ∧ nI set < nI ns := ⟨nI_pos (by omega), (nI_ltI (by omega) (by omega)).mpr hs⟩
  refine c_choice (n := 100) (by omega) (fun h => k3 xn.1 xn.2 ys.1 ys.2 (.inl h)) (fun o ho e => ?_)
  subst e
  refine wc_R hax t0 t7 rfl ?_
  refine wc_call rfl hTp.1 ?_
  unfold f_X10_size
  refine wc_I (t := (5, 0, 0)) rfl rfl hTp.1 rfl (wp_mp ?_)
  rw [w1, htp15, nI_1]
  refine c_choice (n := tp + 1) (by omega) (fun h => k3 xn.1 xn.2 ys.1 ys.2 (.inr h)) (fun t ht e => ?_)
  subst e
  refine wc_R hax t0 t5 rfl ?_
  refine wc_call rfl hLl.1 (l_size hLl rfl rfl ?_)
  rw [List.length_map, List.length_range]
  refine c_room (lim := 100) (by omega) (by omega) (fun h => k4 xn.1 xn.2 ys.1 ys.2 ⟨nI_pos (by omega), (nI_ltI (b := 100) (by omega) (by omega)).mpr ho⟩ ⟨nI_pos (by omega), (nI_ltI (by omega) (by omega)).mpr ht⟩ (by omega)) (fun h100 => ?_)
  obtain ⟨kF, kG⟩ := k5 n set o t hn rfl hs rfl ho rfl (by omega) rfl h100
  clear k1 k2 k3 k4 k5
  refine wc_R hax t0 t8 rfl ?_
  refine wc_R hax t0 t3 rfl ?_
  refine wc_call rfl hT.2.1.1 ?_
  unfold f_X3_size
  refine wc_I (t := (4, 0, 0)) rfl rfl hT.2.1.1 rfl (wp_mp ?_)
  rw [hDat.2.2.1.1, hDI.2.2.1.2.1]
  refine wc_R hax t0 t1 rfl ?_
  refine wc_call rfl hLN.1 (l_size hLN rfl rfl ?_)
  rw [List.length_map, List.length_range]
  have hz0 : Bz (fun k => if k < t then D 14 k &&& 255 else 0) t := fun k hk => by dsimp only; rw [if_neg (by omega)]
  have rest : ∀ (v74 : Int32) (I1 : Tg → Nat → Int32), Fr6 I I1 → ∀ K : Int32 → Mo (Int32 ⊕ String), Wp (K (I1 (6, 0, 0) 6)) (E, D, us (us I1 (5, 0, 0) 1 0) (2, 0, 0) 8 (I1 (6, 0, 0) 6)) P → Wp (mb (gR 14 6 (some ax)) (fun v80 => mb (mo 13 v80 (f_X10_clear v80)) (fun _ => mb (gR 14 7 (some ax)) (fun v88 => mb (mo 5 v88 (f_X2_faultPlace v88)) (fun v91 => mb (pV 14 8 (some ax) (.int v91)) (fun _ => K v91)))))) (E, D, I1) P := by
    intro v74 I1 f1 K hK
    refine wc_R hax t0 t7 rfl ?_
    refine wc_call rfl hTp.1 ?_
    unfold f_X10_clear
    refine wc_P rfl rfl hTp.1 rfl rfl (wp_mp ?_)
    refine wc_R hax t0 t8 rfl ?_
    refine wc_call rfl hTp.2.2.2.2.1 ?_
    unfold f_X2_faultPlace
    refine wc_I rfl rfl hTp.2.2.2.2.1 rfl (wp_mp ?_)
    rw [us_ne (by simp)]
    exact wc_P hax rfl t0 rfl rfl hK
  have f0' : ∀ (I1 : Tg → Nat → Int32) (v : Int32), Fr6 I I1 → ∀ (u : Tg) k, u.1 ≠ 6 → u.1 ≠ 5 → u.1 ≠ 2 → us (us I1 (5, 0, 0) 1 0) (2, 0, 0) 8 v u k = I u k := fun I1 v f1 u k h6 h5 h2 => by
    rw [us_ne (fun q => h2 (by rw [q.1])), us_ne (fun q => h5 (by rw [q.1])), f1 u k h6]
  have f2' : ∀ (I1 : Tg → Nat → Int32) (v : Int32), Fr6 I I1 → ∀ k, us (us I1 (5, 0, 0) 1 0) (2, 0, 0) 8 v (2, 1, 0) k = I (2, 1, 0) k := fun I1 v f1 k => by
    rw [us_ne (by simp), us_ne (by simp), f1 _ k (by simp)]
  have f51' : ∀ (I1 : Tg → Nat → Int32) (v : Int32), Fr6 I I1 → ∀ k, us (us I1 (5, 0, 0) 1 0) (2, 0, 0) 8 v (5, 1, 0) k = I (5, 1, 0) k := fun I1 v f1 k => by
    rw [us_ne (by simp), us_ne (by simp), f1 _ k (by simp)]
  have f5' : ∀ (I1 : Tg → Nat → Int32) (v : Int32), us (us I1 (5, 0, 0) 1 0) (2, 0, 0) 8 v (5, 0, 0) 1 = 0 := fun I1 v => by
    rw [us_ne (by simp), us_eq]
  refine wc_call rfl hTp.2.2.2.2.1 ?_
  refine c_rTxt (B := fun k => if k < t then D 14 k &&& 255 else 0) (tp := tp) hZ hTp rfl ⟨by omega, htp2, by rw [w1]; exact htp15⟩ (fun k hk => by rw [w2 k (by omega), if_pos hk]) hz0 hng hnn (fun e cs I1 hp f1 hR => ?_) (fun c pl I1 hp f1 hR => ?_)
  · have kG := kG e cs hp
    obtain ⟨n', hn', hwf⟩ := pTxt_wf hz0 hng hnn hp
    have hcs : cs.length ≤ 100 := by have := hR.2.2.2.1.2; have := hR.2.1.2; omega
    refine rest 0 I1 f1 _ ?_
    have e6 := hR.2.2.1.2
    rw [e6]
    refine wp_pos rfl ?_
    have g0 := f0' I1 (-1) f1
    have g2 := f2' I1 (-1) f1
    have g51 := f51' I1 (-1) f1
    have g5 := f5' I1 (-1)
    have g8 : us (us I1 (5, 0, 0) 1 0) (2, 0, 0) 8 (-1) (2, 0, 0) 8 = -1 := us_eq
    have g68 : us (us I1 (5, 0, 0) 1 0) (2, 0, 0) 8 (-1) (6, 0, 0) 8 = nI cs.length := by rw [us_ne (by simp), us_ne (by simp)]; exact hR.2.2.2.1.1
    have g61 : ∀ i y, cs[i]? = some y → us (us I1 (5, 0, 0) 1 0) (2, 0, 0) 8 (-1) (6, 1, 0) i = cvS y := fun i y hy => by rw [us_ne (by simp), us_ne (by simp)]; exact hR.2.2.2.2 i y hy
    generalize us (us I1 (5, 0, 0) 1 0) (2, 0, 0) 8 (-1) = I2 at g0 g2 g51 g5 g8 g68 g61 ⊢
    clear rest f0' f2' f51' f5' hR e6 f1
    have sI : ∀ a, Nat.beq a 6 = false → Nat.beq a 5 = false → Nat.beq a 2 = false → SamT a E I E I2 := fun a h6 h5 h2 b c => ⟨rfl, rfl, rfl, fun _ => rfl, fun _ => rfl, fun k => g0 _ _ (fun e => by
      have e2 : a = 6 := e
      subst e2; cases h6) (fun e => by
      have e2 : a = 5 := e
      subst e2; cases h5) (fun e => by
      have e2 : a = 2 := e
      subst e2; cases h2)⟩
    have hLN2 := (sI 3 rfl rfl rfl).lst hLN
    have hLS2 := (sI 21 rfl rfl rfl).lst hLS
    have hLl2 := (sI 22 rfl rfl rfl).lst hLl
    refine wc_R hax t0 t1 rfl ?_
    refine wc_call rfl hLN2.1 (l_get hLN2 rfl rfl (t := (12, n, 0)) (by rw [List.getElem?_map, List.getElem?_range hn]; rfl) ?_)
    refine wc_ck rfl (hNo n hn).1 ?_
    refine wc_nO (16, nl, 0) rfl (hLx nl (Nat.le_refl _)).1 rfl rfl (fun E1 I3 d1 q1 q2 q3 q4 q5 q6 => ?_)
    have sc : ∀ a, Nat.beq a 16 = false → SamT a E I2 E1 I3 := fun a ha => (d1 (fun u => Nat.beq u.1 16) rfl).sam (fun _ _ => ha)
    have hT1 : StaC E1 Z ax ao := hT.cg (sc 0 rfl) (sc 2 rfl) (sc 4 rfl) (sc 5 rfl) (sc 6 rfl) (sc 7 rfl) (sc 10 rfl) (sc 11 rfl) (sc 19 rfl)
    obtain ⟨⟨hz1, hax1, -⟩, u0, u1, u2, u3, u4, u5, u6, u7, u8, -⟩ := id hT1.1
    have hLS3 := (sc 21 rfl).lst hLS2
    have hLl3 := (sc 22 rfl).lst hLl2
    refine wc_R hax1 u0 u5 rfl ?_
    refine wc_call rfl hLl3.1 (l_size hLl3 rfl rfl ?_)
    rw [List.length_map, List.length_range]
    refine wc_R hax1 u0 u4 rfl ?_
    refine wc_call rfl hLS3.1 (l_get hLS3 rfl rfl (t := (15, set, 0)) (by rw [List.getElem?_map, List.getElem?_range hs]; rfl) ?_)
    have k15 : eKd E1 (15, set, 0) = 103 := by rw [(sc 15 rfl set 0).2.1]; exact (hSe set hs).1
    refine wc_ck rfl k15 ?_
    refine wc_R hax1 u0 u8 rfl ?_
    refine wc_call rfl hT1.2.2.1.2.2.2.2.1 ?_
    refine c_filter (nl := nl) (s := cs.length) hT1.2.2.1 rfl (fun c => by rw [(sc 17 rfl nl c).2.1]; exact (hLx nl (Nat.le_refl _)).2 c) (by rw [(sc 6 rfl 0 0).2.2.2.2.2]; exact g68) (by omega) (fun E2 I4 d2 r1 r2 r3 r4 r5 r6 r7 r8 => ?_)
    have sd : ∀ a, Nat.beq a 17 = false → SamT a E1 I3 E2 I4 := fun a ha => (d2 (fun u => Nat.beq u.1 17) rfl rfl).sam (fun _ _ => ha)
    have v16 := sd 16 rfl nl 0
    have kL : eKd E2 (16, nl, 0) = 107 := by rw [v16.2.1]; exact q1
    have kA : eAd E2 (16, nl, 0) = eAd E1 (16, nl, 0) := v16.1
    have a12 : eAd E2 (12, n, 0) = eAd E (12, n, 0) := by rw [(sd 12 rfl n 0).1, (sc 12 rfl n 0).1]
    have a15 : eAd E2 (15, set, 0) = eAd E1 (15, set, 0) := (sd 15 rfl set 0).1
    have k12 : eKd E2 (12, n, 0) = 109 := by rw [(sd 12 rfl n 0).2.1, (sc 12 rfl n 0).2.1]; exact (hNo n hn).1
    have k15' : eKd E2 (15, set, 0) = 103 := by rw [(sd 15 rfl set 0).2.1]; exact k15
    refine wc_call (t := (16, nl, 0)) kA kL ?_
    unfold f_X4_init
    refine wc_call (t := (16, nl, 0)) kA kL (wp_mp ?_)
    refine wc_P (t := (16, nl, 0)) kA rfl kL rfl rfl ?_
    refine wc_PR (t := (16, nl, 0)) (u := (12, n, 0)) kA a12 kL rfl rfl (.inl (by rw [k12]; decide)) ?_
    refine wc_PR (t := (16, nl, 0)) (u := (15, set, 0)) kA a15 kL rfl rfl (.inl (by show eKd E2 _ ≠ 0; rw [k15']; decide)) ?_
    refine wc_P (t := (16, nl, 0)) kA rfl kL rfl rfl ?_
    refine wc_Z (t := (16, nl, 0)) kA rfl kL rfl rfl hf01 ?_
    refine wc_PR (t := (16, nl, 0)) (u := (17, nl, 0)) kA rfl kL rfl rfl (.inl (by show eKd E2 _ ≠ 0; rw [r1]; decide)) (wp_mp ?_)
    have d : ∀ p : Tg → Bool, p (16, nl, 0) = true → p (17, nl, 0) = true → p (17, nl, 1) = true → Dif p E I2 (eR (eR (eR E2 (16, nl, 0) 1 (some (12, n, 0))) (16, nl, 0) 2 (some (15, set, 0))) (16, nl, 0) 5 (some (17, nl, 0))) (us (us (us I4 (16, nl, 0) 0 (nI nl)) (16, nl, 0) 3 (nI o)) (16, nl, 0) 4 fo) := fun p h0 h1 h2 => (((((((d1 p h0).tr (d2 p h1 h2)).tr (Dif.us h0)).tr (Dif.eR h0)).tr (Dif.eR h0)).tr (Dif.us h0)).tr (Dif.us h0)).tr (Dif.eR h0)
    have x1 : eKd (eR (eR (eR E2 (16, nl, 0) 1 (some (12, n, 0))) (16, nl, 0) 2 (some (15, set, 0))) (16, nl, 0) 5 (some (17, nl, 0))) (16, nl, 0) = 107 := kL
    have x3 : eRf (eR (eR (eR E2 (16, nl, 0) 1 (some (12, n, 0))) (16, nl, 0) 2 (some (15, set, 0))) (16, nl, 0) 5 (some (17, nl, 0))) (16, nl, 0) 1 = some (12, n, 0) := by rw [eR_ne (fun q => absurd q.2 (by decide)), eR_ne (fun q => absurd q.2 (by decide))]; exact eR_eq
    have x4 : eRf (eR (eR (eR E2 (16, nl, 0) 1 (some (12, n, 0))) (16, nl, 0) 2 (some (15, set, 0))) (16, nl, 0) 5 (some (17, nl, 0))) (16, nl, 0) 2 = some (15, set, 0) := by rw [eR_ne (fun q => absurd q.2 (by decide))]; exact eR_eq
    have x8 : eRf (eR (eR (eR E2 (16, nl, 0) 1 (some (12, n, 0))) (16, nl, 0) 2 (some (15, set, 0))) (16, nl, 0) 5 (some (17, nl, 0))) (16, nl, 0) 5 = some (17, nl, 0) := eR_eq
    have x2 : us (us (us I4 (16, nl, 0) 0 (nI nl)) (16, nl, 0) 3 (nI o)) (16, nl, 0) 4 fo (16, nl, 0) 0 = nI nl := by rw [us_ne (fun q => absurd q.2 (by decide)), us_ne (fun q => absurd q.2 (by decide)), us_eq]
    have x5 : us (us (us I4 (16, nl, 0) 0 (nI nl)) (16, nl, 0) 3 (nI o)) (16, nl, 0) 4 fo (16, nl, 0) 3 = nI o := by rw [us_ne (fun q => absurd q.2 (by decide)), us_eq]
    have x6 : us (us (us I4 (16, nl, 0) 0 (nI nl)) (16, nl, 0) 3 (nI o)) (16, nl, 0) 4 fo (16, nl, 0) 4 = fo := us_eq
    have x7 : us (us (us I4 (16, nl, 0) 0 (nI nl)) (16, nl, 0) 3 (nI o)) (16, nl, 0) 4 fo (16, nl, 0) 6 = 0 := by rw [us_ne (fun q => absurd q.2 (by decide)), us_ne (fun q => absurd q.2 (by decide)), us_ne (fun q => absurd q.2 (by decide)), v16.2.2.2.2.2]; exact q3 6
    have y1 : eKd (eR (eR (eR E2 (16, nl, 0) 1 (some (12, n, 0))) (16, nl, 0) 2 (some (15, set, 0))) (16, nl, 0) 5 (some (17, nl, 0))) (17, nl, 0) = 104 := r1
    have y2 : eRf (eR (eR (eR E2 (16, nl, 0) 1 (some (12, n, 0))) (16, nl, 0) 2 (some (15, set, 0))) (16, nl, 0) 5 (some (17, nl, 0))) (17, nl, 0) 0 = some (17, nl, 1) := by rw [eR_ne (by simp), eR_ne (by simp), eR_ne (by simp)]; exact r2
    have y3 : eKd (eR (eR (eR E2 (16, nl, 0) 1 (some (12, n, 0))) (16, nl, 0) 2 (some (15, set, 0))) (16, nl, 0) 5 (some (17, nl, 0))) (17, nl, 1) = 2 := r3
    have y4 : eLn (eR (eR (eR E2 (16, nl, 0) 1 (some (12, n, 0))) (16, nl, 0) 2 (some (15, set, 0))) (16, nl, 0) 5 (some (17, nl, 0))) (17, nl, 1) = cs.length := r4
    have y5 : ∀ i y, cs[i]? = some y → us (us (us I4 (16, nl, 0) 0 (nI nl)) (16, nl, 0) 3 (nI o)) (16, nl, 0) 4 fo (17, nl, 1) i = cvS y := fun i y hy => by
      rw [us_ne (by simp), us_ne (by simp), us_ne (by simp), r5 i (List.getElem?_eq_some_iff.mp hy).1, (sc 6 rfl 1 0).2.2.2.2.2]
      exact g61 i y hy
    have m1 : eMc (eR (eR (eR E2 (16, nl, 0) 1 (some (12, n, 0))) (16, nl, 0) 2 (some (15, set, 0))) (16, nl, 0) 5 (some (17, nl, 0))) = eMc E + 3 := by show eMc E2 = _; rw [r6, q4]
    have m2 : eMs (eR (eR (eR E2 (16, nl, 0) 1 (some (12, n, 0))) (16, nl, 0) 2 (some (15, set, 0))) (16, nl, 0) 5 (some (17, nl, 0))) = eMs E + 7 + 1 + cs.length := by show eMs E2 = _; rw [r7, q5]; rfl
    have m3 : eCu (eR (eR (eR E2 (16, nl, 0) 1 (some (12, n, 0))) (16, nl, 0) 2 (some (15, set, 0))) (16, nl, 0) 5 (some (17, nl, 0))) = eCu E := by show eCu E2 = _; rw [r8, q6]
    have m4 : eAd (eR (eR (eR E2 (16, nl, 0) 1 (some (12, n, 0))) (16, nl, 0) 2 (some (15, set, 0))) (16, nl, 0) 5 (some (17, nl, 0))) (16, nl, 0) = eAd E1 (16, nl, 0) := kA
    generalize eR (eR (eR E2 (16, nl, 0) 1 (some (12, n, 0))) (16, nl, 0) 2 (some (15, set, 0))) (16, nl, 0) 5 (some (17, nl, 0)) = E3 at d x1 x3 x4 x8 y1 y2 y3 y4 m1 m2 m3 m4 ⊢
    generalize us (us (us I4 (16, nl, 0) 0 (nI nl)) (16, nl, 0) 3 (nI o)) (16, nl, 0) 4 fo = I5 at d x2 x5 x6 x7 y5 ⊢
    clear d1 d2 sc sd q1 q2 q3 q4 q5 q6 r1 r2 r3 r4 r5 r6 r7 r8 v16 kL kA a15 k12 k15' hLS3 hLl3
    have sb : ∀ a, Nat.beq a 16 = false → Nat.beq a 17 = false → SamT a E I2 E3 I5 := fun a ha hb => (d (fun u => Nat.beq u.1 16 || Nat.beq u.1 17) rfl rfl rfl).sam (fun _ _ => by show (Nat.beq a 16 || Nat.beq a 17) = false; rw [ha, hb]; rfl)
    have so : ∀ a k c, k ≠ nl → _ := fun a k c hk => (d (fun u => Nat.beq u.2.1 nl) (by simp) (by simp) (by simp)) (a, k, c) (by show Nat.beq k nl = false; exact nbq hk)
    have hT3 : StaC E3 Z ax ao := hT.cg (sb 0 rfl rfl) (sb 2 rfl rfl) (sb 4 rfl rfl) (sb 5 rfl rfl) (sb 6 rfl rfl) (sb 7 rfl rfl) (sb 10 rfl rfl) (sb 11 rfl rfl) (sb 19 rfl rfl)
    obtain ⟨⟨hz3, hax3, -⟩, p0, p1, p2, p3, p4, p5, -⟩ := id hT3.1
    have hL3 := (sb 22 rfl rfl).lst hLl2
    have hK : ∀ t ∈ (List.range nl).map (fun i => ((16, i, 0) : Tg)), eKd E3 t = 107 ∧ ¬ (t.1 = 22 ∧ t.2.1 = 0) := fun t ht => by
      obtain ⟨k, hk, rfl⟩ := List.mem_map.mp ht
      have hk := List.mem_range.mp hk
      refine ⟨?_, by simp⟩
      rw [(so 16 k 0 (by omega)).2.1]
      exact (hLn k hk).1
    refine wc_R hax3 p0 p5 rfl ?_
    refine wc_call rfl hL3.1 ?_
    refine l_add (ci := 7) (t := (16, nl, 0)) hL3 rfl rfl hz3 rfl m4 x1 (by simp) (by rw [List.length_map, List.length_range]; omega) (fun t ht => by rw [(hK t ht).1]; decide) (fun t ht => (hK t ht).2) (fun E4 I6 c22 l1 l2 l3 l4 l5 => ?_)
    rw [List.length_map, List.length_range] at l2
    rw [show (List.range nl).map (fun i => ((16, i, 0) : Tg)) ++ [(16, nl, 0)] = (List.range (nl + 1)).map (fun i => ((16, i, 0) : Tg)) by rw [List.range_succ, List.map_append]; rfl] at l1
    have se : ∀ a, Nat.beq a 22 = false → SamT a E3 I5 E4 I6 := fun a ha => SamT.agO l3 ha
    have e12 : eAd E4 (12, n, 0) = eAd E (12, n, 0) := by rw [(se 12 rfl n 0).1, (sb 12 rfl rfl n 0).1]
    have k12 : eKd E4 (12, n, 0) = 109 := by rw [(se 12 rfl n 0).2.1, (sb 12 rfl rfl n 0).2.1]; exact (hNo n hn).1
    have r12 : eRf E4 (12, n, 0) 3 = some (13, n, 0) := by rw [(se 12 rfl n 0).2.2.2.1, (sb 12 rfl rfl n 0).2.2.2.1]; exact (hNo n hn).2.2.2.2.1
    have e16 : eAd E4 (16, nl, 0) = eAd E1 (16, nl, 0) := by rw [(se 16 rfl nl 0).1, m4]
    have k16 : eKd E4 (16, nl, 0) = 107 := by rw [(se 16 rfl nl 0).2.1]; exact x1
    have i16 : I6 (16, nl, 0) 3 = nI o := by rw [(se 16 rfl nl 0).2.2.2.2.2]; exact x5
    obtain ⟨-, -, -, -, -, c13, hc13, hL13⟩ := id (hNo n hn)
    have hDL := hDI.2.2.2.2.1
    have hle := lnkN_le (D := D) (nl := nl) (i := n)
    have hL13' : Lst E4 I6 13 n c13 ((lnkL D nl n o).map (fun i => ((16, i, 0) : Tg)) ++ (lnkR D nl n o).map (fun i => ((16, i, 0) : Tg))) := by
      rw [← List.map_append, ← lnkN_split hDL]
      exact (se 13 rfl).lst ((sb 13 rfl rfl).lst ((sI 13 rfl rfl rfl).lst hL13))
    have hlen : ((lnkL D nl n o).map (fun i => ((16, i, 0) : Tg)) ++ (lnkR D nl n o).map (fun i => ((16, i, 0) : Tg))).length ≤ nl := by
      rw [← List.map_append, ← lnkN_split hDL, List.length_map]
      exact hle
    have old : ∀ l ∈ lnkN D nl n, l < nl := fun l hl => srt_lt hDL.1 hDL.2.2.2.2.2.1 l (lnkN_iff.mp hl).1
    have iold : ∀ l, l < nl → I6 (16, l, 0) 3 = D 26 l := fun l hl => by
      rw [(se 16 rfl l 0).2.2.2.2.2, (so 16 l 0 (by omega)).2.2.2.2.2, g0 _ _ (by simp) (by simp) (by simp)]
      exact (hLn l hl).2.2.2.2.1
    refine wc_call (t := (12, n, 0)) e12 k12 ?_
    refine c_ins (t := (16, nl, 0)) (o := o) hL13' (by rw [(se 0 rfl 0 0).1]; exact hz3) e12 k12 r12 e16 k16 rfl (by simp) i16 ho (by omega) (fun u hu => ?_) (fun u hu => ?_) (fun u hu => ?_) (fun E5 I7 c13' j1 j2 j3 j4 => ?_)
    · rw [← List.map_append, ← lnkN_split hDL] at hu
      obtain ⟨l, hl, rfl⟩ := List.mem_map.mp hu
      refine ⟨?_, rfl⟩
      have hl := old l hl
      rw [(se 16 rfl l 0).2.1, (so 16 l 0 (by omega)).2.1]
      exact (hLn l hl).1
    · obtain ⟨l, hl, rfl⟩ := List.mem_map.mp hu
      obtain ⟨h1, h2⟩ := List.mem_filter.mp hl
      have hll := old l h1
      obtain ⟨v, hv, ev⟩ := (hDL.2.2.2.1 l hll).2.2.1
      have h2 := of_decide_eq_true h2
      rw [ev, nI_clamp (by omega)] at h2
      exact ⟨v, hv, by rw [iold l hll, ev], h2⟩
    · obtain ⟨l, hl, rfl⟩ := List.mem_map.mp hu
      obtain ⟨h1, h2⟩ := List.mem_filter.mp hl
      have hll := old l h1
      obtain ⟨v, hv, ev⟩ := (hDL.2.2.2.1 l hll).2.2.1
      have h3 : ¬ (D 26 l).toNatClampNeg ≤ o := fun q => by rw [decide_eq_true q] at h2; cases h2
      rw [ev, nI_clamp (by omega)] at h3
      exact ⟨v, hv, by rw [iold l hll, ev], by omega⟩
    have sf : ∀ a, Nat.beq a 13 = false → SamT a E4 I6 E5 I7 := fun a ha => SamT.agO j3 ha
    have s35 : ∀ a, Nat.beq a 22 = false → Nat.beq a 13 = false → SamT a E3 I5 E5 I7 := fun a h1 h2 => (se a h1).tr (sf a h2)
    obtain ⟨z1, z2, z3, z4, z5, z6⟩ := s35 16 rfl rfl nl 0
    obtain ⟨n1, n2, n3, n4, n5, n6⟩ := s35 17 rfl rfl nl 0
    obtain ⟨o1, o2, o3, o4, o5, o6⟩ := s35 17 rfl rfl nl 1
    refine wc_I (t := (16, nl, 0)) (by rw [z1, m4]) rfl (by rw [z2]; exact x1) rfl ?_
    rw [z6, x2]
    have s1 : ∀ a, Nat.beq a 16 = false → Nat.beq a 17 = false → Nat.beq a 22 = false → Nat.beq a 13 = false → SamT a E I2 E5 I7 := fun a h1 h2 h3 h4 => (sb a h1 h2).tr (s35 a h3 h4)
    have hp : pot E5 = pot E := pot_cg ((sI 8 rfl rfl rfl).tr (s1 8 rfl rfl rfl rfl)) ((sI 9 rfl rfl rfl).tr (s1 9 rfl rfl rfl rfl))
    refine wp_mp (kG E5 I7 ?_ hp (hT3.cg (s35 0 rfl rfl) (s35 2 rfl rfl) (s35 4 rfl rfl) (s35 5 rfl rfl) (s35 6 rfl rfl) (s35 7 rfl rfl) (s35 10 rfl rfl) (s35 11 rfl rfl) (s35 19 rfl rfl)) (fun D' cu hLD => ?_))
    · have b1 := l4.1
      have b2 := l4.2.1
      have b3 := j4.1
      have b4 := j4.2.1
      exact ⟨by omega, by omega, (j4.2.2.1.trans l4.2.2.1).trans m3, (sI 1 rfl rfl rfl).tr (s1 1 rfl rfl rfl rfl)⟩
    · rw [← List.map_cons (f := fun i => ((16, i, 0) : Tg)) (a := nl), ← List.map_append] at j1
      refine hc.lnk (I2 := I2) (c13 := c13') (c22 := c22) hLD hn hs ho hf01 h100 (by omega) hn' hwf g0 g2 g5 g51 g8 s1 (fun a k c hk ha => ?_) (fun k c hk => ?_) ((sf 22 rfl).lst l1) (by omega) j1 (by omega) ⟨by rw [z2]; exact x1, by rw [z6]; exact x2, by rw [z4]; exact x3, by rw [z4]; exact x4, by rw [z6]; exact x5, by rw [z6]; exact x6, by rw [z6]; exact x7, by rw [z4]; exact x8⟩ ⟨by rw [n2]; exact y1, by rw [n4]; exact y2, by rw [o2]; exact y3, by rw [o3]; exact y4, fun i y hy => by rw [o6]; exact y5 i y hy⟩
      · obtain ⟨v1, v2, v3, v4, v5, v6⟩ := so a k c hk
        obtain ⟨b1, b2, b3, b4, b5, b6⟩ := s35 a (by rcases ha with rfl | rfl <;> rfl) (by rcases ha with rfl | rfl <;> rfl) k c
        exact ⟨b1.trans v1, b2.trans v2, b3.trans v3, fun j => (b4 j).trans (v4 j), fun j => (b5 j).trans (v5 j), fun j => (b6 j).trans (v6 j)⟩
      · have g : ¬ (((13, k, c) : Tg).1 = 13 ∧ ((13, k, c) : Tg).2.1 = n) := fun q => hk q.2
        obtain ⟨b1, b2, b3, b4, b5, b6⟩ := j3 _ g
        obtain ⟨v1, v2, v3, v4, v5, v6⟩ := ((sb 13 rfl rfl).tr (se 13 rfl)) k c
        exact ⟨b2.trans v2, b3.trans v3, fun j => (b4 j).trans (v4 j), fun j => (b6 j).trans (v6 j)⟩
  · refine rest 0 I1 f1 _ ?_
    refine wp_neg (fun e => ?_) (wp_mp ?_)
    · have h3 := hR.2.2.1.2
      have := (nI_eq (b := 0) (by omega) (by omega)).mp e
      omega
    refine kF (c, pl) hp _ (fun b c => ⟨rfl, rfl, rfl, fun _ => rfl, fun _ => rfl, fun k => f0' I1 _ f1 _ _ (by simp) (by simp) (by simp)⟩) (fun D' cu hcu hFD => ?_)
    refine hc.flt hFD hcu (f0' I1 _ f1) (f2' I1 _ f1) (f5' I1 _) (f51' I1 _ f1) ?_
    rw [us_eq]
    exact hR.2.2.2.1
end DK
