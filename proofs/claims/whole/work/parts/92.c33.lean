/-! ===== the class: new things ===== -/
section DC
variable {α : Type} {E : Es} {I : Tg → Nat → Int32} {D : Nat → Nat → Int32} {Z : Nat → Nat} {Q : α → Gh → Prop}
theorem nbq {a b : Nat} (h : a ≠ b) : Nat.beq a b = false := by
  cases hq : Nat.beq a b with
  | false => rfl
  | true => exact absurd (Nat.eq_of_beq_eq_true hq) h
theorem wc_nO (t : Tg) {ci : Nat} {fs : List Value} {K : Option Nat → Mo α} (h1 : Nat.beq t.1 1 = false) (ht : eKd E t = 0) (ht0 : Nat.beq t.1 0 = false) (hfs : fs = (p_ty ci).map (fun ty => if ty = 0 then .int 0 else if ty = 1 then .null else .long 0)) (kk : ∀ E1 I1, (∀ p : Tg → Bool, p t = true → Dif p E I E1 I1) → eKd E1 t = 100 + ci → (∀ k, eRf E1 t k = none) → (∀ k, I1 t k = 0) → eMc E1 = eMc E + 1 → eMs E1 = eMs E + fs.length → eCu E1 = eCu E → Wp (K (some (eAd E1 t))) (E1, D, I1) Q) : Wp (mb (nO ci fs) K) (E, D, I) Q := by
  refine wp_nO t (fun e => by rw [e] at h1; cases h1) ht (fun e => by rw [e] at ht0; cases ht0) hfs ?_
  exact kk _ _ (fun p hp => Dif.nw hp) (if_pos rfl) (fun _ => if_pos rfl) (fun _ => if_pos rfl) rfl rfl rfl
theorem wc_nA (t : Tg) {u n : Nat} {i : Int32} {K : Option Nat → Mo α} (h1 : Nat.beq t.1 1 = false) (ht : eKd E t = 0) (ht0 : Nat.beq t.1 0 = false) (hu : u < 10) (hi : i = nI n) (hn : n ≤ 1000000) (kk : ∀ E1 I1, (∀ p : Tg → Bool, p t = true → Dif p E I E1 I1) → eKd E1 t = u + 1 → eLn E1 t = n → (∀ k, I1 t k = 0) → (∀ k, eRf E1 t k = none) → (∀ k, eLg E1 t k = 0) → eMc E1 = eMc E + 1 → eMs E1 = eMs E + n → eCu E1 = eCu E → Wp (K (some (eAd E1 t))) (E1, D, I1) Q) : Wp (mb (nA u i) K) (E, D, I) Q := by
  subst hi
  have e : (nI n).toNatClampNeg = n := nI_clamp (by omega)
  refine wp_nA t (fun e => by rw [e] at h1; cases h1) ht (fun e => by rw [e] at ht0; cases ht0) hu (nI_pos (by omega)) (by rw [e]; exact hn) ?_
  rw [e]
  exact kk _ _ (fun p hp => Dif.nw hp) (if_pos rfl) (if_pos rfl) (fun _ => if_pos rfl) (fun _ => if_pos rfl) (fun _ => if_pos rfl) rfl rfl rfl
theorem Dif.toAg {a b : Nat} {E' : Es} {I' : Tg → Nat → Int32} (h : ∀ p : Tg → Bool, (∀ c, p (a, b, c) = true) → Dif p E I E' I') : Ag a b E I E' I' := fun t ht => h (fun u => Nat.beq u.1 a && Nat.beq u.2.1 b) (fun c => by rw [Nat.beq_refl, Nat.beq_refl]; rfl) t (by
  by_cases e : t.1 = a
  · have e2 : t.2.1 ≠ b := fun q => ht ⟨e, q⟩
    have : Nat.beq t.2.1 b = false := by
      cases hq : Nat.beq t.2.1 b with
      | false => rfl
      | true => exact absurd (Nat.eq_of_beq_eq_true hq) e2
    simp only [this, Bool.and_false]
  · have : Nat.beq t.1 a = false := by
      cases hq : Nat.beq t.1 a with
      | false => rfl
      | true => exact absurd (Nat.eq_of_beq_eq_true hq) e
    simp only [this, Bool.false_and])
theorem l_new (a b : Nat) {K : Option Nat → Mo α} (h1 : Nat.beq a 1 = false) (h0 : Nat.beq a 0 = false) (hz : eAd E (0, 0, 0) = Z 0) (hk : ∀ c, eKd E (a, b, c) = 0) (kk : ∀ E1 I1, Ag a b E I E1 I1 → Lst E1 I1 a b 0 [] → eMc E1 = eMc E + 1 → eMs E1 = eMs E + 3 → eCu E1 = eCu E → Wp (K (some (eAd E1 (a, b, 0)))) (E1, D, I1) Q) : Wp (mb (nO 2 [.int 0, .null, .int 0]) (fun v => mb (mo 2 v (f_Jx4a65c_init_da8c8 Z v)) (fun _ => K v))) (E, D, I) Q := by
  refine wc_nO (a, b, 0) h1 (hk 0) h0 rfl (fun E1 I1 d1 q1 q2 q3 q4 q5 q6 => ?_)
  have g1 : Ag a b E I E1 I1 := Dif.toAg (fun p hp => d1 p (hp 0))
  have a0 : a ≠ 0 := fun e => by subst e; cases h0
  refine wc_call rfl q1 ?_
  unfold f_Jx4a65c_init_da8c8
  refine wc_call rfl q1 ?_
  unfold f_Jxc12de_init_da8c8
  refine wc_call rfl q1 ?_
  unfold f_Jxa1e45_init_da8c8
  refine wc_call rfl q1 (wp_mp (wp_mp ?_))
  refine wc_P rfl h1 q1 rfl rfl (wp_mp ?_)
  refine wc_PR (u := (0, 0, 0)) rfl (by rw [(g1 (0, 0, 0) (fun q => a0 q.1.symm)).1]; exact hz) q1 rfl rfl (.inr rfl) (wp_mp ?_)
  refine kk _ _ ((g1.tr Ag.us).tr Ag.eR) ?_ q4 q5 q6
  refine ⟨q1, by rw [us_ne (fun q => absurd q.2 (by decide))]; exact q3 2, Nat.le_refl _, by omega, fun _ => eR_eq, fun h => absurd rfl h, fun i t h => (by simp at h), fun c hc => ?_⟩
  have := d1 (fun u => decide (u = (a, b, 0))) (decide_eq_true rfl) (a, b, c) (decide_eq_false (fun e => by
    have e2 : c = 0 := congrArg (fun t : Tg => t.2.2) e
    omega))
  show eKd E1 (a, b, c) = 0
  rw [this.2.1]
  exact hk c
end DC
section DD
variable {E E' : Es} {I I' : Tg → Nat → Int32} {D : Nat → Nat → Int32} {Z : Nat → Nat} {cap nn nm ng ns nl nc ax ao : Nat} {P : (Int32 ⊕ String) → Gh → Prop}
theorem DI.set (hDI : DI cap D nn nm ng ns nl nc) (h : ns < 40) : DI cap (ds (ds D 0 0 0) 0 12 (nI (ns + 1))) nn nm ng (ns + 1) nl nc := by
  have r : ∀ j, j ≠ 0 → ds (ds D 0 0 0) 0 12 (nI (ns + 1)) j = D j := fun j hj => by rw [ds_row hj, ds_row hj]
  have s0 : ∀ k, k ≠ 0 → k ≠ 12 → ds (ds D 0 0 0) 0 12 (nI (ns + 1)) 0 k = D 0 k := fun k h0 h9 => by rw [ds_ne (fun q => h9 q.2), ds_ne (fun q => h0 q.2)]
  obtain ⟨a1, a2, a3, a4, a5, tp, a6⟩ := hDI
  obtain ⟨b1, b2, b3, b4, b5, b6⟩ := a4
  refine ⟨a1.cg (s0 3 (by decide) (by decide)) (r 1 (by decide)) (r 2 (by decide)), a2.cg (s0 7 (by decide) (by decide)) (r 4 (by decide)) (r 5 (by decide)), a3.cg (s0 9 (by decide) (by decide)) (r 6 (by decide)) (r 8 (by decide)), ⟨by omega, ds_eq, by rw [r 10 (by decide)]; exact b3, fun s hs => by rw [r 10 (by decide)]; exact b4 s (by omega), fun k hk => by rw [r 11 (by decide)]; exact b5 k (by omega), by rw [r 13 (by decide)]; exact b6⟩, ?_, tp, a6.cg (s0 15 (by decide) (by decide))⟩
  have a5' : DLnk cap (ds (ds D 0 0 0) 0 12 (nI (ns + 1))) nn ng ns nl nc := a5.cg (s0 32 (by decide) (by decide)) (s0 22 (by decide) (by decide)) (fun j hj => r j (by omega))
  obtain ⟨c1, c2, c3, c4, c5⟩ := a5'
  refine ⟨c1, c2, c3, fun l hl => ?_, c5⟩
  obtain ⟨f1, ⟨s, hs, f2⟩, f3⟩ := c4 l hl
  exact ⟨f1, ⟨s, by omega, f2⟩, f3⟩
theorem c_set (hc : Cst E I D Z ax ao cap nn nm ng ns nl nc) (k2 : ns = 40 → P (.inr eS) (eXc E 1 6, D, I)) (k3 : ns < 40 → ∀ E' I', Nx E I E' I' → Cst E' I' (ds (ds D 0 0 0) 0 12 (nI (ns + 1))) Z ax ao cap nn nm ng (ns + 1) nl nc → P (.inl (nI ns)) (E', D, I')) : Wp (f_X11_set Z (some ax)) (E, D, I) P := by
  obtain ⟨hT, hDat, hC, hDI⟩ := id hc
  obtain ⟨⟨hz, hax, -⟩, t0, t1, t2, t3, t4, -⟩ := id hT.1
  obtain ⟨⟨c, kc, hL⟩, hS, hSn, hlaw⟩ := hDat.2.2.2.1
  have hns := hDI.2.2.2.1.1
  unfold f_X11_set
  refine wc_R hax t0 t4 rfl ?_
  refine wc_call rfl hL.1 (l_size hL rfl rfl ?_)
  rw [List.length_map, List.length_range]
  refine c_room (lim := 40) (by omega) (by omega) (fun h => k2 (by omega)) (fun h => ?_)
  have k3 := k3 h
  refine wc_R hax t0 t4 rfl ?_
  refine wc_nO (15, ns, 0) rfl (hSn ns (Nat.le_refl _) 0) rfl rfl (fun E1 I1 d1 q1 q2 q3 q4 q5 q6 => ?_)
  refine wc_call rfl q1 ?_
  unfold f_X0_init
  refine wc_call rfl q1 (wp_mp ?_)
  have hp : (15, ns, 1) ≠ ((15, ns, 0) : Tg) := by simp
  refine wc_nA (15, ns, 1) (n := 12) rfl (by rw [(d1 (fun u => decide (u = (15, ns, 0))) (decide_eq_true rfl) (15, ns, 1) (decide_eq_false hp)).2.1]; exact hSn ns (Nat.le_refl _) 1) rfl (by omega) rfl (by omega) (fun E2 I2 d2 r1 r2 r3 r4 r5 r6 r7 r8 => ?_)
  have o := d2 (fun u => decide (u = (15, ns, 1))) (decide_eq_true rfl) (15, ns, 0) (decide_eq_false hp.symm)
  refine wc_PR (t := (15, ns, 0)) (u := (15, ns, 1)) (by rw [o.1]) rfl (by rw [o.2.1]; exact q1) rfl rfl (.inl (by rw [r1]; omega)) (wp_mp ?_)
  have d : ∀ p : Tg → Bool, p (15, ns, 0) = true → p (15, ns, 1) = true → Dif p E I (eR E2 (15, ns, 0) 0 (some (15, ns, 1))) I2 := fun p h0 h1 => ((d1 p h0).tr (d2 p h1)).tr (Dif.eR h0)
  have n1 : eKd (eR E2 (15, ns, 0) 0 (some (15, ns, 1))) (15, ns, 0) = 103 := by show eKd E2 _ = _; rw [o.2.1]; exact q1
  have n2 : eRf (eR E2 (15, ns, 0) 0 (some (15, ns, 1))) (15, ns, 0) 0 = some (15, ns, 1) := eR_eq
  have n3 : eKd (eR E2 (15, ns, 0) 0 (some (15, ns, 1))) (15, ns, 1) = 2 := r1
  have n4 : eLn (eR E2 (15, ns, 0) 0 (some (15, ns, 1))) (15, ns, 1) = 12 := r2
  have n5 : ∀ k, I2 (15, ns, 0) k = 0 := fun k => by rw [o.2.2.2.2.2]; exact q3 k
  have n6 : eMc (eR E2 (15, ns, 0) 0 (some (15, ns, 1))) = eMc E + 2 := by show eMc E2 = _; rw [r6, q4]
  have n7 : eMs (eR E2 (15, ns, 0) 0 (some (15, ns, 1))) = eMs E + 14 := by show eMs E2 = _; rw [r7, q5]; rfl
  have n8 : eCu (eR E2 (15, ns, 0) 0 (some (15, ns, 1))) = eCu E := by show eCu E2 = _; rw [r8, q6]
  have n9 : eAd E1 (15, ns, 0) = eAd (eR E2 (15, ns, 0) 0 (some (15, ns, 1))) (15, ns, 0) := by show _ = eAd E2 _; rw [o.1]
  generalize hE3 : eR E2 (15, ns, 0) 0 (some (15, ns, 1)) = E3 at d n1 n2 n3 n4 n6 n7 n8 n9 ⊢
  have sb : ∀ a, Nat.beq a 15 = false → SamT a E I E3 I2 := fun a ha => (d (fun u => Nat.beq u.1 15) rfl rfl).sam (fun _ _ => ha)
  have hL3 := (sb 21 rfl).lst hL
  have hK : ∀ t ∈ (List.range ns).map (fun i => ((15, i, 0) : Tg)), eKd E3 t = 103 ∧ ¬ (t.1 = 21 ∧ t.2.1 = 0) := fun t ht => by
    obtain ⟨i, hi, rfl⟩ := List.mem_map.mp ht
    have hi := List.mem_range.mp hi
    refine ⟨?_, by simp⟩
    rw [((d (fun u => Nat.beq u.1 15 && Nat.beq u.2.1 ns) (by simp) (by simp)) (15, i, 0) (by show (Nat.beq 15 15 && Nat.beq i ns) = false; rw [nbq (show i ≠ ns by omega)]; rfl)).2.1]
    exact (hS i hi).1
  refine wc_call (t := (21, 0, 0)) (by rw [(sb 21 rfl 0 0).1]) hL3.1 ?_
  refine l_add (ci := 3) (t := (15, ns, 0)) hL3 rfl rfl (by rw [(sb 0 rfl 0 0).1]; exact hz) (by rw [(sb 21 rfl 0 0).1]) n9.symm n1 (by simp) (by rw [List.length_map, List.length_range]; omega) (fun t ht => by rw [(hK t ht).1]; decide) (fun t ht => (hK t ht).2) (fun E4 I4 c' g1 g2 g3 g4 g5 => ?_)
  rw [List.length_map, List.length_range] at g2
  have sa : ∀ a, Nat.beq a 15 = false → Nat.beq a 21 = false → SamT a E I E4 I4 := fun a h15 h21 => (sb a h15).tr (SamT.agO g3 h21)
  have s2 := sa 2 rfl rfl 0 0
  rw [show (List.range ns).map (fun i => ((15, i, 0) : Tg)) ++ [(15, ns, 0)] = (List.range (ns + 1)).map (fun i => ((15, i, 0) : Tg)) by rw [List.range_succ, List.map_append]; rfl] at g1
  refine wc_R (t := (2, 0, 0)) (by rw [s2.1]; exact hax) (by rw [s2.2.1]; exact t0) (by rw [s2.2.2.2.1]; exact t4) rfl ?_
  refine wc_call rfl g1.1 (l_size g1 rfl rfl ?_)
  rw [List.length_map, List.length_range, show (1 : Int32) = nI 1 from rfl, pk_sub (by omega), Nat.add_sub_cancel]
  refine wp_mp (k3 E4 I4 ?_ ?_)
  · have hp : pot E4 = pot E := pot_cg (sa 8 rfl rfl) (sa 9 rfl rfl)
    have hc2 := hL.cap (E2 := E) (I2 := I) (c2 := 0)
    have m1 := g4.1
    have m2 := g4.2.1
    exact ⟨by omega, by omega, g4.2.2.1.trans n8, sa 1 rfl rfl⟩
  have r : ∀ j, j ≠ 0 → ds (ds D 0 0 0) 0 12 (nI (ns + 1)) j = D j := fun j hj => by rw [ds_row hj, ds_row hj]
  have s0 : ∀ k, k ≠ 0 → k ≠ 12 → ds (ds D 0 0 0) 0 12 (nI (ns + 1)) 0 k = D 0 k := fun k h0 h9 => by rw [ds_ne (fun q => h9 q.2), ds_ne (fun q => h0 q.2)]
  have s15 : SamT 15 E3 I2 E4 I4 := SamT.agO g3 rfl
  have so : ∀ i c, i ≠ ns → _ := fun i c hi => (d (fun u => Nat.beq u.1 15 && Nat.beq u.2.1 ns) (by simp) (by simp)) (15, i, c) (by show (Nat.beq 15 15 && Nat.beq i ns) = false; rw [nbq hi]; rfl)
  refine ⟨hT.cg (sa 0 rfl rfl) (sa 2 rfl rfl) (sa 4 rfl rfl) (sa 5 rfl rfl) (sa 6 rfl rfl) (sa 7 rfl rfl) (sa 10 rfl rfl) (sa 11 rfl rfl) (sa 19 rfl rfl), ⟨hDat.1.cg (sa 3 rfl rfl) (sa 12 rfl rfl) (sa 13 rfl rfl) (r 1 (by decide)) (r 2 (by decide)) ?_, hDat.2.1.cg (sa 20 rfl rfl) (sa 14 rfl rfl) (r 4 (by decide)) (r 5 (by decide)), hDat.2.2.1.cg (sa 4 rfl rfl) (s0 9 (by decide) (by decide)) (r 6 (by decide)) (r 8 (by decide)), ⟨⟨c', by omega, g1⟩, fun i hi => ?_, fun i hi x => ?_, fun k hk => ?_⟩, hDat.2.2.2.2.1.cg (sa 22 rfl rfl) (sa 16 rfl rfl) (sa 17 rfl rfl) (r 24 (by decide)) (r 25 (by decide)) (r 26 (by decide)) (r 27 (by decide)) (r 28 (by decide)) (fun l _ => by rw [r 21 (by decide), r 29 (by decide), r 30 (by decide)]), hDat.2.2.2.2.2.cg (sa 5 rfl rfl) ((sa 2 rfl rfl 0 0).2.2.2.2.2 8) (s0 15 (by decide) (by decide)) (r 14 (by decide)) (s0 19 (by decide) (by decide))⟩, hC.cg (sa 8 rfl rfl) (sa 9 rfl rfl), hDI.set h⟩
  · funext i
    unfold lnkN
    rw [r 31 (by decide), r 28 (by decide), r 24 (by decide)]
  · obtain ⟨e1, e2, e3, e4, e5, e6⟩ := s15 i 0
    obtain ⟨f1, f2, f3, f4, f5, f6⟩ := s15 i 1
    unfold SetC
    rw [e2, e4, e6, f2, f3, r 10 (by decide), r 11 (by decide)]
    by_cases e : i = ns
    · subst e
      exact ⟨n1, n2, n3, n4, by rw [n5, hDI.2.2.2.1.2.2.2.1 i (Nat.le_refl _)], fun k hk => by rw [f6, r3, hDI.2.2.2.1.2.2.2.2.1 _ (by omega)]⟩
    · obtain ⟨v1, v2, v3, v4, v5, v6⟩ := hS i (by omega)
      obtain ⟨w1, w2, w3, w4, w5, w6⟩ := so i 0 e
      obtain ⟨y1, y2, y3, y4, y5, y6⟩ := so i 1 e
      exact ⟨by rw [w2]; exact v1, by rw [w4]; exact v2, by rw [y2]; exact v3, by rw [y3]; exact v4, by rw [w6]; exact v5, fun k hk => by rw [f6, y6]; exact v6 k hk⟩
  · rw [(s15 i x).2.1, (so i x (by omega)).2.1]
    exact hSn i (by omega) x
  · rw [(sa 2 rfl rfl 1 0).2.2.2.2.2, r 13 (by decide)]
    exact hlaw k hk
end DD
