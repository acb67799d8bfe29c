/-! ===== the class: a new machine ===== -/
section DE
variable {E E' : Es} {I I' : Tg → Nat → Int32} {D : Nat → Nat → Int32} {Z : Nat → Nat} {cap nn nm ng ns nl nc ax ao : Nat} {P : (Int32 ⊕ String) → Gh → Prop}
theorem dfl_5 (D : Nat → Nat → Int32) (m : Nat) (k : Nat) : ∀ f, dfl D m f 5 k = if 8 * m ≤ k ∧ k < 8 * m + f then -1 else D 5 k := by
  intro f
  induction f with
  | zero => rw [if_neg (by omega)]; rfl
  | succ f ih =>
    rw [dfl]
    by_cases e : k = 8 * m + f
    · subst e; rw [ds_eq, if_pos (by omega)]
    · rw [ds_ne (fun q => e q.2), ih]
      by_cases e2 : 8 * m ≤ k ∧ k < 8 * m + f
      · rw [if_pos e2, if_pos (by omega)]
      · rw [if_neg e2, if_neg (by omega)]
def mchD (D : Nat → Nat → Int32) (nm : Nat) (x : Int32) : Nat → Nat → Int32 := ds (dfl (ds (ds D 0 0 0) 4 nm x) nm 8) 0 7 (nI (nm + 1))
theorem mchD_r {x : Int32} {j : Nat} (h0 : j ≠ 0) (h4 : j ≠ 4) (h5 : j ≠ 5) : mchD D nm x j = D j := by unfold mchD; rw [ds_row h0, dfl_ne h5, ds_row h4, ds_row h0]
theorem mchD_0 {x : Int32} {k : Nat} (h0 : k ≠ 0) (h7 : k ≠ 7) : mchD D nm x 0 k = D 0 k := by unfold mchD; rw [ds_ne (fun q => h7 q.2), dfl_ne (by decide), ds_ne (fun q => absurd q.1 (by decide)), ds_ne (fun q => h0 q.2)]
theorem mchD_4 {x : Int32} {k : Nat} : mchD D nm x 4 k = if k = nm then x else D 4 k := by
  unfold mchD
  rw [ds_ne (fun q => absurd q.1 (by decide)), dfl_ne (by decide)]
  by_cases e : k = nm
  · subst e; rw [ds_eq, if_pos rfl]
  · rw [ds_ne (fun q => e q.2), ds_ne (fun q => absurd q.1 (by decide)), if_neg e]
theorem mchD_5 {x : Int32} {k : Nat} : mchD D nm x 5 k = if 8 * nm ≤ k ∧ k < 8 * nm + 8 then -1 else D 5 k := by
  unfold mchD
  rw [ds_ne (fun q => absurd q.1 (by decide)), dfl_5, ds_ne (fun q => absurd q.1 (by decide)), ds_ne (fun q => absurd q.1 (by decide))]
theorem DI.mch {i : Nat} (hDI : DI cap D nn nm ng ns nl nc) (h : nm < 60) (hi : i < nn) : DI cap (mchD D nm (nI i)) nn (nm + 1) ng ns nl nc := by
  obtain ⟨a1, a2, a3, a4, a5, tp, a6⟩ := hDI
  obtain ⟨b1, b2, b3, b4⟩ := a2
  refine ⟨a1.cg (mchD_0 (by decide) (by decide)) (mchD_r (by decide) (by decide) (by decide)) (mchD_r (by decide) (by decide) (by decide)), ⟨by omega, by unfold mchD; exact ds_eq, fun m hm => ?_, fun m f hm hf => ?_⟩, ?_, a4.cg (mchD_0 (by decide) (by decide)) (mchD_r (by decide) (by decide) (by decide)) (mchD_r (by decide) (by decide) (by decide)) (mchD_r (by decide) (by decide) (by decide)), a5.cg (mchD_0 (by decide) (by decide)) (mchD_0 (by decide) (by decide)) (fun j hj => mchD_r (by omega) (by omega) (by omega)), tp, a6.cg (mchD_0 (by decide) (by decide))⟩
  · rw [mchD_4]
    by_cases e : m = nm
    · rw [if_pos e]; exact ⟨i, hi, rfl⟩
    · rw [if_neg e]; exact b3 m (by omega)
  · rw [mchD_5]
    by_cases e : m = nm
    · rw [if_pos (by omega)]; exact .inl rfl
    · rw [if_neg (by omega)]; exact b4 m f (by omega) hf
  · obtain ⟨c1, c2, c3, c4, c5⟩ : DGrp (mchD D nm (nI i)) nm ng := a3.cg (mchD_0 (by decide) (by decide)) (mchD_r (by decide) (by decide) (by decide)) (mchD_r (by decide) (by decide) (by decide))
    exact ⟨c1, c2, c3, fun m hm => c4 m (by omega), c5⟩
theorem c_machine {x : Int32} (hc : Cst E I D Z ax ao cap nn nm ng ns nl nc) (k1 : (x < 0 ∨ ¬ x < nI nn) → P (.inr eI) (eXc E 1 6, D, I)) (k2 : ¬ x < 0 → x < nI nn → nm = 60 → P (.inr eS) (eXc E 1 6, D, I)) (k3 : ¬ x < 0 → x < nI nn → nm < 60 → ∀ E' I', Nx E I E' I' → Cst E' I' (mchD D nm x) Z ax ao cap nn (nm + 1) ng ns nl nc → P (.inl (nI nm)) (E', D, I')) : Wp (f_X11_machine Z (some ax) x) (E, D, I) P := by
  obtain ⟨hT, hDat, hC, hDI⟩ := id hc
  obtain ⟨⟨hz, hax, -⟩, t0, t1, t2, -⟩ := id hT.1
  obtain ⟨⟨c, kc, hL⟩, hM, hMn⟩ := hDat.2.1
  obtain ⟨⟨cn, kn, hLN⟩, hNo, hNx⟩ := hDat.1
  have hnn := hDI.1.1.2
  have hnm := hDI.2.1.1
  unfold f_X11_machine
  refine wc_R hax t0 t1 rfl ?_
  refine wc_call rfl hLN.1 (l_size hLN rfl rfl ?_)
  rw [List.length_map, List.length_range]
  refine c_need (by omega) k1 (fun i hi e => ?_)
  subst e
  refine wc_R hax t0 t2 rfl ?_
  refine wc_call rfl hL.1 (l_size hL rfl rfl ?_)
  rw [List.length_map, List.length_range]
  refine c_room (lim := 60) (by omega) (by omega) (fun h => k2 (nI_pos (by omega)) ((nI_ltI (by omega) (by omega)).mpr hi) (by omega)) (fun h => ?_)
  have k3 := k3 (nI_pos (by omega)) ((nI_ltI (by omega) (by omega)).mpr hi) h
  refine wc_R hax t0 t2 rfl ?_
  refine wc_nO (14, nm, 0) rfl (hMn nm (Nat.le_refl _)) rfl rfl (fun E1 I1 d1 q1 q2 q3 q4 q5 q6 => ?_)
  have sc : ∀ a, Nat.beq a 14 = false → SamT a E I E1 I1 := fun a ha => (d1 (fun u => Nat.beq u.1 14) rfl).sam (fun _ _ => ha)
  have hLN1 := (sc 3 rfl).lst hLN
  have t2' := sc 2 rfl 0 0
  refine wc_R (t := (2, 0, 0)) (by rw [t2'.1]; exact hax) (by rw [t2'.2.1]; exact t0) (by rw [t2'.2.2.2.1]; exact t1) rfl ?_
  refine wc_call rfl hLN1.1 (l_get hLN1 rfl rfl (t := (12, i, 0)) (by rw [List.getElem?_map, List.getElem?_range hi]; rfl) ?_)
  have k12 : eKd E1 (12, i, 0) = 109 := by rw [(sc 12 rfl i 0).2.1]; exact (hNo i hi).1
  refine wc_ck rfl k12 ?_
  refine wc_call rfl q1 ?_
  unfold f_X5_init
  refine wc_call rfl q1 (wp_mp ?_)
  refine wc_PR (t := (14, nm, 0)) (u := (12, i, 0)) rfl rfl q1 rfl rfl (.inl (by rw [k12]; decide)) (wp_mp ?_)
  have d : ∀ p : Tg → Bool, p (14, nm, 0) = true → Dif p E I (eR E1 (14, nm, 0) 0 (some (12, i, 0))) I1 := fun p h0 => (d1 p h0).tr (Dif.eR h0)
  have n1 : eKd (eR E1 (14, nm, 0) 0 (some (12, i, 0))) (14, nm, 0) = 108 := q1
  have n2 : eRf (eR E1 (14, nm, 0) 0 (some (12, i, 0))) (14, nm, 0) 0 = some (12, i, 0) := eR_eq
  have n6 : eMc (eR E1 (14, nm, 0) 0 (some (12, i, 0))) = eMc E + 1 := q4
  have n7 : eMs (eR E1 (14, nm, 0) 0 (some (12, i, 0))) = eMs E + 3 := q5
  have n8 : eCu (eR E1 (14, nm, 0) 0 (some (12, i, 0))) = eCu E := q6
  have n9 : eAd E1 (14, nm, 0) = eAd (eR E1 (14, nm, 0) 0 (some (12, i, 0))) (14, nm, 0) := rfl
  generalize hE3 : eR E1 (14, nm, 0) 0 (some (12, i, 0)) = E3 at d n1 n2 n6 n7 n8 n9 ⊢
  have sb : ∀ a, Nat.beq a 14 = false → SamT a E I E3 I1 := fun a ha => (d (fun u => Nat.beq u.1 14) rfl).sam (fun _ _ => ha)
  have hL3 := (sb 20 rfl).lst hL
  have hK : ∀ t ∈ (List.range nm).map (fun i => ((14, i, 0) : Tg)), eKd E3 t = 108 ∧ ¬ (t.1 = 20 ∧ t.2.1 = 0) := fun t ht => by
    obtain ⟨k, hk, rfl⟩ := List.mem_map.mp ht
    have hk := List.mem_range.mp hk
    refine ⟨?_, by simp⟩
    rw [((d (fun u => Nat.beq u.1 14 && Nat.beq u.2.1 nm) (by simp)) (14, k, 0) (by show (Nat.beq 14 14 && Nat.beq k nm) = false; rw [nbq (show k ≠ nm by omega)]; rfl)).2.1]
    exact (hM k hk).1
  refine wc_call (t := (20, 0, 0)) (by rw [(sb 20 rfl 0 0).1]) hL3.1 ?_
  refine l_add (ci := 8) (t := (14, nm, 0)) hL3 rfl rfl (by rw [(sb 0 rfl 0 0).1]; exact hz) (by rw [(sb 20 rfl 0 0).1]) n9.symm n1 (by simp) (by rw [List.length_map, List.length_range]; omega) (fun t ht => by rw [(hK t ht).1]; decide) (fun t ht => (hK t ht).2) (fun E4 I4 c' g1 g2 g3 g4 g5 => ?_)
  rw [List.length_map, List.length_range] at g2
  have sa : ∀ a, Nat.beq a 14 = false → Nat.beq a 20 = false → SamT a E I E4 I4 := fun a h14 h20 => (sb a h14).tr (SamT.agO g3 h20)
  have s2 := sa 2 rfl rfl 0 0
  rw [show (List.range nm).map (fun i => ((14, i, 0) : Tg)) ++ [(14, nm, 0)] = (List.range (nm + 1)).map (fun i => ((14, i, 0) : Tg)) by rw [List.range_succ, List.map_append]; rfl] at g1
  refine wc_R (t := (2, 0, 0)) (by rw [s2.1]; exact hax) (by rw [s2.2.1]; exact t0) (by rw [s2.2.2.2.1]; exact t2) rfl ?_
  refine wc_call rfl g1.1 (l_size g1 rfl rfl ?_)
  rw [List.length_map, List.length_range, show (1 : Int32) = nI 1 from rfl, pk_sub (by omega), Nat.add_sub_cancel]
  refine wp_mp (k3 E4 I4 ?_ ?_)
  · have hp : pot E4 = pot E := pot_cg (sa 8 rfl rfl) (sa 9 rfl rfl)
    have m1 := g4.1
    have m2 := g4.2.1
    exact ⟨by omega, by omega, g4.2.2.1.trans n8, sa 1 rfl rfl⟩
  have r : ∀ j, j ≠ 0 → j ≠ 4 → j ≠ 5 → mchD D nm (nI i) j = D j := fun j h0 h4 h5 => mchD_r h0 h4 h5
  have s0 : ∀ k, k ≠ 0 → k ≠ 7 → mchD D nm (nI i) 0 k = D 0 k := fun k h0 h7 => mchD_0 h0 h7
  have s14 : SamT 14 E3 I1 E4 I4 := SamT.agO g3 rfl
  have so : ∀ k c, k ≠ nm → _ := fun k c hk => (d (fun u => Nat.beq u.1 14 && Nat.beq u.2.1 nm) (by simp)) (14, k, c) (by show (Nat.beq 14 14 && Nat.beq k nm) = false; rw [nbq hk]; rfl)
  refine ⟨hT.cg (sa 0 rfl rfl) (sa 2 rfl rfl) (sa 4 rfl rfl) (sa 5 rfl rfl) (sa 6 rfl rfl) (sa 7 rfl rfl) (sa 10 rfl rfl) (sa 11 rfl rfl) (sa 19 rfl rfl), ⟨hDat.1.cg (sa 3 rfl rfl) (sa 12 rfl rfl) (sa 13 rfl rfl) (r 1 (by decide) (by decide) (by decide)) (r 2 (by decide) (by decide) (by decide)) ?_, ⟨⟨c', by omega, g1⟩, fun k hk => ?_, fun k hk => ?_⟩, hDat.2.2.1.cg (sa 4 rfl rfl) (s0 9 (by decide) (by decide)) (r 6 (by decide) (by decide) (by decide)) (r 8 (by decide) (by decide) (by decide)), hDat.2.2.2.1.cg (sa 21 rfl rfl) (sa 15 rfl rfl) (fun k => (sa 2 rfl rfl 1 0).2.2.2.2.2 k) (r 10 (by decide) (by decide) (by decide)) (r 11 (by decide) (by decide) (by decide)) (r 13 (by decide) (by decide) (by decide)), hDat.2.2.2.2.1.cg (sa 22 rfl rfl) (sa 16 rfl rfl) (sa 17 rfl rfl) (r 24 (by decide) (by decide) (by decide)) (r 25 (by decide) (by decide) (by decide)) (r 26 (by decide) (by decide) (by decide)) (r 27 (by decide) (by decide) (by decide)) (r 28 (by decide) (by decide) (by decide)) (fun l _ => by rw [r 21 (by decide) (by decide) (by decide), r 29 (by decide) (by decide) (by decide), r 30 (by decide) (by decide) (by decide)]), hDat.2.2.2.2.2.cg (sa 5 rfl rfl) ((sa 2 rfl rfl 0 0).2.2.2.2.2 8) (s0 15 (by decide) (by decide)) (r 14 (by decide) (by decide) (by decide)) (s0 19 (by decide) (by decide))⟩, hC.cg (sa 8 rfl rfl) (sa 9 rfl rfl), hDI.mch h hi⟩
  · funext k
    unfold lnkN
    rw [r 31 (by decide) (by decide) (by decide), r 28 (by decide) (by decide) (by decide), r 24 (by decide) (by decide) (by decide)]
  · obtain ⟨e1, e2, e3, e4, e5, e6⟩ := s14 k 0
    unfold MacC
    rw [e2, e4, e6, e6]
    by_cases e : k = nm
    · subst e
      have z : ∀ f, f < 8 → mchD D k (nI i) 5 (8 * k + f) = -1 := fun f hf => by rw [mchD_5, if_pos (by omega)]
      refine ⟨n1, by rw [n2, mchD_4, if_pos rfl, nI_clamp (by omega)], fun f hf => ?_, fun f hf => ?_⟩
      · rw [q3, show (0 : Int32) = nI 0 from rfl, nI_bt _ hf, Nat.zero_testBit, decide_eq_false]
        exact fun q => q.2 (z f q.1)
      · rw [q3, show (0 : Int32) = nI 0 from rfl, nI_bt _ hf, Nat.zero_testBit, decide_eq_false]
        exact fun q => by
          have := q.2
          rw [z f q.1] at this
          exact absurd this (by decide)
    · obtain ⟨v1, v2, v3, v4⟩ := hM k (by omega)
      obtain ⟨w1, w2, w3, w4, w5, w6⟩ := so k 0 e
      have z : ∀ f, f < 8 → mchD D nm (nI i) 5 (8 * k + f) = D 5 (8 * k + f) := fun f hf => by rw [mchD_5, if_neg (by omega)]
      refine ⟨by rw [w2]; exact v1, by rw [w4, mchD_4, if_neg e]; exact v2, fun f hf => ?_, fun f hf => ?_⟩
      · rw [w6, v3 f hf]
        by_cases h8 : f < 8
        · rw [z f h8]
        · rw [decide_eq_false (fun q => h8 q.1), decide_eq_false (fun q => h8 q.1)]
      · rw [w6, v4 f hf]
        by_cases h8 : f < 8
        · rw [z f h8]
        · rw [decide_eq_false (fun q => h8 q.1), decide_eq_false (fun q => h8 q.1)]
  · rw [(s14 k 0).2.1, (so k 0 (by omega)).2.1]
    exact hMn k (by omega)
end DE
