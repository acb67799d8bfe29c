/-! ===== the class: a new node ===== -/
section DF
variable {E E' : Es} {I I' : Tg → Nat → Int32} {D : Nat → Nat → Int32} {Z : Nat → Nat} {cap nn nm ng ns nl nc ax ao : Nat} {P : (Int32 ⊕ String) → Gh → Prop}
def nodD (D : Nat → Nat → Int32) (nn : Nat) (x : Int32) : Nat → Nat → Int32 := ds (ds (ds D 0 0 0) 1 nn x) 0 3 (nI (nn + 1))
theorem nodD_r {x : Int32} {j : Nat} (h0 : j ≠ 0) (h1 : j ≠ 1) : nodD D nn x j = D j := by unfold nodD; rw [ds_row h0, ds_row h1, ds_row h0]
theorem nodD_0 {x : Int32} {k : Nat} (h0 : k ≠ 0) (h3 : k ≠ 3) : nodD D nn x 0 k = D 0 k := by unfold nodD; rw [ds_ne (fun q => h3 q.2), ds_ne (fun q => absurd q.1 (by decide)), ds_ne (fun q => h0 q.2)]
theorem nodD_1 {x : Int32} {k : Nat} : nodD D nn x 1 k = if k = nn then x else D 1 k := by
  unfold nodD
  rw [ds_ne (fun q => absurd q.1 (by decide))]
  by_cases e : k = nn
  · subst e; rw [ds_eq, if_pos rfl]
  · rw [ds_ne (fun q => e q.2), ds_ne (fun q => absurd q.1 (by decide)), if_neg e]
theorem chn_up {ab ab' : Nat → Int32} (h : ∀ k, k < nn → ab' k = ab k) : ∀ (w : List Nat) {v : Int32}, Chn ab nn w v → Chn ab' (nn + 1) w v
  | [], _, hc => hc
  | k :: w, _, hc => ⟨hc.1, by have := hc.2.1; omega, by rw [h k hc.2.1]; exact chn_up h w hc.2.2⟩
theorem wfC_nn : ∀ (cs : List Int32) (n n' : Nat), wfC ng nn cs n n' → wfC ng (nn + 1) cs n n' := by
  intro cs
  induction cs with
  | nil => intro n n' h; exact h
  | cons c cs ih =>
    intro n n' h
    rcases h with ⟨e, e2, h⟩ | ⟨e, e2, h⟩ | ⟨⟨v, e⟩, e2, h⟩
    · exact .inl ⟨e, e2, ih _ _ h⟩
    · exact .inr (.inl ⟨e, e2, ih _ _ h⟩)
    · refine .inr (.inr ⟨⟨v, ?_⟩, e2, ih _ _ h⟩)
      rcases e with e | e | ⟨e, hv⟩
      · exact .inl e
      · exact .inr (.inl e)
      · exact .inr (.inr ⟨e, by omega⟩)
theorem DI.nod {i : Nat} (hDI : DI cap D nn nm ng ns nl nc) (h : nn < 60) (hi : i < nn) : DI cap (nodD D nn (nI i)) (nn + 1) nm ng ns nl nc := by
  obtain ⟨a1, a2, a3, a4, a5, tp, a6⟩ := hDI
  obtain ⟨b1, b2, b3, b4, b5⟩ := a1
  have hk : ∀ k, k < nn → nodD D nn (nI i) 1 k = D 1 k := fun k hk => by rw [nodD_1, if_neg (by omega)]
  refine ⟨⟨by omega, by unfold nodD; exact ds_eq, fun k hk2 => ?_, by rw [nodD_r (by decide) (by decide)]; exact b4, fun k hk2 => by rw [nodD_r (by decide) (by decide)]; exact b5 k (by omega)⟩, ?_, a3.cg (nodD_0 (by decide) (by decide)) (nodD_r (by decide) (by decide)) (nodD_r (by decide) (by decide)), a4.cg (nodD_0 (by decide) (by decide)) (nodD_r (by decide) (by decide)) (nodD_r (by decide) (by decide)) (nodD_r (by decide) (by decide)), ?_, tp, a6.cg (nodD_0 (by decide) (by decide))⟩
  · by_cases e : k = nn
    · obtain ⟨w, hw⟩ := b3 i hi
      refine ⟨nn :: w, by rw [e], by omega, ?_⟩
      rw [nodD_1, if_pos rfl]
      exact chn_up hk w hw
    · obtain ⟨w, hw⟩ := b3 k (by omega)
      exact ⟨w, chn_up hk w hw⟩
  · obtain ⟨c1, c2, c3, c4⟩ : DMach (nodD D nn (nI i)) nn nm := a2.cg (nodD_0 (by decide) (by decide)) (nodD_r (by decide) (by decide)) (nodD_r (by decide) (by decide))
    exact ⟨c1, c2, fun m hm => by obtain ⟨k, hk, e⟩ := c3 m hm; exact ⟨k, by omega, e⟩, c4⟩
  · obtain ⟨c1, c2, c3, c4, c5⟩ : DLnk cap (nodD D nn (nI i)) nn ng ns nl nc := a5.cg (nodD_0 (by decide) (by decide)) (nodD_0 (by decide) (by decide)) (fun j hj => nodD_r (by omega) (by omega))
    refine ⟨c1, c2, c3, fun l hl => ?_, c5⟩
    obtain ⟨⟨k, hk, f1⟩, f2, f3, f4, f5, fr, to, n', f6, f7, f8, f9, f10, f11⟩ := c4 l hl
    exact ⟨⟨k, by omega, f1⟩, f2, f3, f4, f5, fr, to, n', f6, f7, f8, f9, f10, wfC_nn _ _ _ f11⟩
theorem c_node {x : Int32} (hc : Cst E I D Z ax ao cap nn nm ng ns nl nc) (k1 : (x < 0 ∨ ¬ x < nI nn) → P (.inr eI) (eXc E 1 6, D, I)) (k2 : ¬ x < 0 → x < nI nn → nn = 60 → P (.inr eS) (eXc E 1 6, D, I)) (k3 : ¬ x < 0 → x < nI nn → nn < 60 → ∀ E' I', Nx E I E' I' → Cst E' I' (nodD D nn x) Z ax ao cap (nn + 1) nm ng ns nl nc → P (.inl (nI nn)) (E', D, I')) : Wp (f_X11_node Z (some ax) x) (E, D, I) P := by
  obtain ⟨hT, hDat, hC, hDI⟩ := id hc
  obtain ⟨⟨hz, hax, -⟩, t0, t1, -⟩ := id hT.1
  obtain ⟨⟨c, kc, hL⟩, hNo, hNx⟩ := hDat.1
  have hnn := hDI.1.1.2
  unfold f_X11_node
  refine wc_R hax t0 t1 rfl ?_
  refine wc_call rfl hL.1 (l_size hL rfl rfl ?_)
  rw [List.length_map, List.length_range]
  refine c_need (by omega) k1 (fun i hi e => ?_)
  subst e
  refine wc_R hax t0 t1 rfl ?_
  refine wc_call rfl hL.1 (l_size hL rfl rfl ?_)
  rw [List.length_map, List.length_range]
  refine c_room (lim := 60) (by omega) (by omega) (fun h => k2 (nI_pos (by omega)) ((nI_ltI (by omega) (by omega)).mpr hi) (by omega)) (fun h => ?_)
  have k3 := k3 (nI_pos (by omega)) ((nI_ltI (by omega) (by omega)).mpr hi) h
  refine wc_R hax t0 t1 rfl ?_
  refine wc_nO (12, nn, 0) rfl (hNx nn (Nat.le_refl _)).1 rfl rfl (fun E1 I1 d1 q1 q2 q3 q4 q5 q6 => ?_)
  have sc : ∀ a, Nat.beq a 12 = false → SamT a E I E1 I1 := fun a ha => (d1 (fun u => Nat.beq u.1 12) rfl).sam (fun _ _ => ha)
  have hL1 := (sc 3 rfl).lst hL
  have t2' := sc 2 rfl 0 0
  refine wc_R (t := (2, 0, 0)) (by rw [t2'.1]; exact hax) (by rw [t2'.2.1]; exact t0) (by rw [t2'.2.2.2.1]; exact t1) rfl ?_
  refine wc_call rfl hL1.1 (l_size hL1 rfl rfl ?_)
  rw [List.length_map, List.length_range]
  refine wc_R (t := (2, 0, 0)) (by rw [t2'.1]; exact hax) (by rw [t2'.2.1]; exact t0) (by rw [t2'.2.2.2.1]; exact t1) rfl ?_
  refine wc_call rfl hL1.1 (l_get hL1 rfl rfl (t := (12, i, 0)) (by rw [List.getElem?_map, List.getElem?_range hi]; rfl) ?_)
  have o12 : ∀ k c, k ≠ nn → _ := fun k c hk => d1 (fun u => Nat.beq u.1 12 && Nat.beq u.2.1 nn) (by simp) (12, k, c) (by show (Nat.beq 12 12 && Nat.beq k nn) = false; rw [nbq hk]; rfl)
  have k12 : eKd E1 (12, i, 0) = 109 := by rw [(o12 i 0 (by omega)).2.1]; exact (hNo i hi).1
  refine wc_ck rfl k12 ?_
  refine wc_call rfl q1 ?_
  unfold f_X6_init
  refine wc_call rfl q1 (wp_mp ?_)
  refine l_new 13 nn rfl rfl (by rw [(sc 0 rfl 0 0).1]; exact hz) (fun x => by rw [(sc 13 rfl nn x).2.1]; exact (hNx nn (Nat.le_refl _)).2 x) (fun E2 I2 b1 b2 b3 b4 b5 => ?_)
  have s12 : SamT 12 E1 I1 E2 I2 := SamT.agO b1 rfl
  have k2' : eKd E2 (12, nn, 0) = 109 := by rw [(s12 nn 0).2.1]; exact q1
  have a2' : eAd E2 (12, nn, 0) = eAd E1 (12, nn, 0) := (s12 nn 0).1
  refine wc_PR (t := (12, nn, 0)) (u := (13, nn, 0)) a2' rfl k2' rfl rfl (.inl (by rw [b2.1]; decide)) ?_
  refine wc_P (t := (12, nn, 0)) a2' rfl k2' rfl rfl ?_
  refine wc_PR (t := (12, nn, 0)) (u := (12, i, 0)) a2' (s12 i 0).1 k2' rfl rfl (.inl (by show eKd E2 _ ≠ 0; rw [(s12 i 0).2.1, k12]; decide)) (wp_mp ?_)
  have d : ∀ p : Tg → Bool, p (12, nn, 0) = true → (∀ c, p (13, nn, c) = true) → Dif p E I (eR (eR E2 (12, nn, 0) 3 (some (13, nn, 0))) (12, nn, 0) 1 (some (12, i, 0))) (us I2 (12, nn, 0) 0 (nI nn)) := fun p h0 h1 => ((((d1 p h0).tr (Dif.ag b1 h1)).tr (Dif.eR h0)).tr (Dif.us h0)).tr (Dif.eR h0)
  have n1 : eKd (eR (eR E2 (12, nn, 0) 3 (some (13, nn, 0))) (12, nn, 0) 1 (some (12, i, 0))) (12, nn, 0) = 109 := k2'
  have n2 : eRf (eR (eR E2 (12, nn, 0) 3 (some (13, nn, 0))) (12, nn, 0) 1 (some (12, i, 0))) (12, nn, 0) 1 = some (12, i, 0) := eR_eq
  have n3 : eRf (eR (eR E2 (12, nn, 0) 3 (some (13, nn, 0))) (12, nn, 0) 1 (some (12, i, 0))) (12, nn, 0) 3 = some (13, nn, 0) := by rw [eR_ne (fun q => absurd q.2 (by decide))]; exact eR_eq
  have n4 : us I2 (12, nn, 0) 0 (nI nn) (12, nn, 0) 0 = nI nn := us_eq
  have n5 : us I2 (12, nn, 0) 0 (nI nn) (12, nn, 0) 2 = 0 := by rw [us_ne (fun q => absurd q.2 (by decide)), (s12 nn 0).2.2.2.2.2]; exact q3 2
  have nL : Lst (eR (eR E2 (12, nn, 0) 3 (some (13, nn, 0))) (12, nn, 0) 1 (some (12, i, 0))) (us I2 (12, nn, 0) 0 (nI nn)) 13 nn 0 [] := (((SamT.eR rfl).tr (SamT.us rfl)).tr (SamT.eR rfl) : SamT 13 E2 I2 _ _).lst b2
  have n6 : eMc (eR (eR E2 (12, nn, 0) 3 (some (13, nn, 0))) (12, nn, 0) 1 (some (12, i, 0))) = eMc E + 2 := by show eMc E2 = _; rw [b3, q4]
  have n7 : eMs (eR (eR E2 (12, nn, 0) 3 (some (13, nn, 0))) (12, nn, 0) 1 (some (12, i, 0))) = eMs E + 7 := by show eMs E2 = _; rw [b4, q5]; rfl
  have n8 : eCu (eR (eR E2 (12, nn, 0) 3 (some (13, nn, 0))) (12, nn, 0) 1 (some (12, i, 0))) = eCu E := by show eCu E2 = _; rw [b5, q6]
  have n9 : eAd E1 (12, nn, 0) = eAd (eR (eR E2 (12, nn, 0) 3 (some (13, nn, 0))) (12, nn, 0) 1 (some (12, i, 0))) (12, nn, 0) := a2'.symm
  generalize hE3 : eR (eR E2 (12, nn, 0) 3 (some (13, nn, 0))) (12, nn, 0) 1 (some (12, i, 0)) = E3 at d n1 n2 n3 n6 n7 n8 n9 nL ⊢
  generalize hI3 : us I2 (12, nn, 0) 0 (nI nn) = I3 at d n4 n5 nL ⊢
  have sb : ∀ a, Nat.beq a 12 = false → Nat.beq a 13 = false → SamT a E I E3 I3 := fun a ha hb => (d (fun u => Nat.beq u.1 12 || Nat.beq u.1 13) rfl (fun _ => rfl)).sam (fun _ _ => by show (Nat.beq a 12 || Nat.beq a 13) = false; rw [ha, hb]; rfl)
  have so : ∀ a k c, k ≠ nn → _ := fun a k c hk => (d (fun u => Nat.beq u.2.1 nn) (by simp) (by simp)) (a, k, c) (by show Nat.beq k nn = false; exact nbq hk)
  have hL3 := (sb 3 rfl rfl).lst hL
  have hK : ∀ t ∈ (List.range nn).map (fun i => ((12, i, 0) : Tg)), eKd E3 t = 109 ∧ ¬ (t.1 = 3 ∧ t.2.1 = 0) := fun t ht => by
    obtain ⟨k, hk, rfl⟩ := List.mem_map.mp ht
    have hk := List.mem_range.mp hk
    refine ⟨?_, by simp⟩
    rw [(so 12 k 0 (by omega)).2.1]
    exact (hNo k hk).1
  refine wc_call (t := (3, 0, 0)) (by rw [(sb 3 rfl rfl 0 0).1]) hL3.1 ?_
  refine l_add (ci := 9) (t := (12, nn, 0)) hL3 rfl rfl (by rw [(sb 0 rfl rfl 0 0).1]; exact hz) (by rw [(sb 3 rfl rfl 0 0).1]) n9.symm n1 (by simp) (by rw [List.length_map, List.length_range]; omega) (fun t ht => by rw [(hK t ht).1]; decide) (fun t ht => (hK t ht).2) (fun E4 I4 c' g1 g2 g3 g4 g5 => ?_)
  rw [List.length_map, List.length_range] at g2
  have s3 : ∀ a, Nat.beq a 3 = false → SamT a E3 I3 E4 I4 := fun a ha => SamT.agO g3 ha
  have sa : ∀ a, Nat.beq a 12 = false → Nat.beq a 13 = false → Nat.beq a 3 = false → SamT a E I E4 I4 := fun a h12 h13 h3 => (sb a h12 h13).tr (s3 a h3)
  have s2 := sa 2 rfl rfl rfl 0 0
  rw [show (List.range nn).map (fun i => ((12, i, 0) : Tg)) ++ [(12, nn, 0)] = (List.range (nn + 1)).map (fun i => ((12, i, 0) : Tg)) by rw [List.range_succ, List.map_append]; rfl] at g1
  refine wc_R (t := (2, 0, 0)) (by rw [s2.1]; exact hax) (by rw [s2.2.1]; exact t0) (by rw [s2.2.2.2.1]; exact t1) rfl ?_
  refine wc_call rfl g1.1 (l_size g1 rfl rfl ?_)
  rw [List.length_map, List.length_range, show (1 : Int32) = nI 1 from rfl, pk_sub (by omega), Nat.add_sub_cancel]
  refine wp_mp (k3 E4 I4 ?_ ?_)
  · have hp : pot E4 = pot E := pot_cg (sa 8 rfl rfl rfl) (sa 9 rfl rfl rfl)
    have m1 := g4.1
    have m2 := g4.2.1
    exact ⟨by omega, by omega, g4.2.2.1.trans n8, sa 1 rfl rfl rfl⟩
  have r : ∀ j, j ≠ 0 → j ≠ 1 → nodD D nn (nI i) j = D j := fun j h0 h1 => nodD_r h0 h1
  have s0 : ∀ k, k ≠ 0 → k ≠ 3 → nodD D nn (nI i) 0 k = D 0 k := fun k h0 h3 => nodD_0 h0 h3
  have hlk : ∀ k, lnkN (nodD D nn (nI i)) nl k = lnkN D nl k := fun k => by
    unfold lnkN
    rw [r 31 (by decide) (by decide), r 28 (by decide) (by decide), r 24 (by decide) (by decide)]
  have hl0 : lnkN D nl nn = [] := by
    refine List.filter_eq_nil_iff.mpr (fun l hl q => ?_)
    have e := (of_decide_eq_true q).2
    obtain ⟨k, hk, e2⟩ := (hDI.2.2.2.2.1.2.2.2.1 l (srt_lt hDI.2.2.2.2.1.1 hDI.2.2.2.2.1.2.2.2.2.2.1 l hl)).1
    rw [e2] at e
    have := (nI_eq (by omega) (by omega)).mp e
    omega
  refine ⟨hT.cg (sa 0 rfl rfl rfl) (sa 2 rfl rfl rfl) (sa 4 rfl rfl rfl) (sa 5 rfl rfl rfl) (sa 6 rfl rfl rfl) (sa 7 rfl rfl rfl) (sa 10 rfl rfl rfl) (sa 11 rfl rfl rfl) (sa 19 rfl rfl rfl), ⟨⟨⟨c', by omega, g1⟩, fun k hk => ?_, fun k hk => ⟨?_, fun x => ?_⟩⟩, hDat.2.1.cg (sa 20 rfl rfl rfl) (sa 14 rfl rfl rfl) (r 4 (by decide) (by decide)) (r 5 (by decide) (by decide)), hDat.2.2.1.cg (sa 4 rfl rfl rfl) (s0 9 (by decide) (by decide)) (r 6 (by decide) (by decide)) (r 8 (by decide) (by decide)), hDat.2.2.2.1.cg (sa 21 rfl rfl rfl) (sa 15 rfl rfl rfl) (fun k => (sa 2 rfl rfl rfl 1 0).2.2.2.2.2 k) (r 10 (by decide) (by decide)) (r 11 (by decide) (by decide)) (r 13 (by decide) (by decide)), hDat.2.2.2.2.1.cg (sa 22 rfl rfl rfl) (sa 16 rfl rfl rfl) (sa 17 rfl rfl rfl) (r 24 (by decide) (by decide)) (r 25 (by decide) (by decide)) (r 26 (by decide) (by decide)) (r 27 (by decide) (by decide)) (r 28 (by decide) (by decide)) (fun l _ => by rw [r 21 (by decide) (by decide), r 29 (by decide) (by decide), r 30 (by decide) (by decide)]), hDat.2.2.2.2.2.cg (sa 5 rfl rfl rfl) ((sa 2 rfl rfl rfl 0 0).2.2.2.2.2 8) (s0 15 (by decide) (by decide)) (r 14 (by decide) (by decide)) (s0 19 (by decide) (by decide))⟩, hC.cg (sa 8 rfl rfl rfl) (sa 9 rfl rfl rfl), hDI.nod h hi⟩
  · obtain ⟨e1, e2, e3, e4, e5, e6⟩ := s3 12 rfl k 0
    unfold NodC
    rw [e2, e4, e4, e6, e6, hlk]
    by_cases e : k = nn
    · subst e
      refine ⟨n1, n4, by rw [n2, nodD_1, if_pos rfl]; unfold upT; rw [if_neg (nI_pos (by omega)), nI_clamp (by omega)], by rw [n5, r 2 (by decide) (by decide), hDI.1.2.2.2.2 k (Nat.le_refl _)], n3, 0, by omega, ?_⟩
      rw [hl0]
      exact (s3 13 rfl).lst nL
    · obtain ⟨v1, v2, v3, v4, v5, cc, v6, v7⟩ := hNo k (by omega)
      obtain ⟨w1, w2, w3, w4, w5, w6⟩ := so 12 k 0 e
      refine ⟨by rw [w2]; exact v1, by rw [w6]; exact v2, by rw [w4, nodD_1, if_neg e]; exact v3, by rw [w6, r 2 (by decide) (by decide)]; exact v4, by rw [w4]; exact v5, cc, v6, (s3 13 rfl).lst ?_⟩
      exact v7.cg (fun x => (so 13 k x e).2.1) (fun x => (so 13 k x e).2.2.1) (fun x j => (so 13 k x e).2.2.2.1 j) ((so 13 k 0 e).2.2.2.2.2 2)
  · rw [(s3 12 rfl k 0).2.1, (so 12 k 0 (by omega)).2.1]
    exact (hNx k (by omega)).1
  · rw [(s3 13 rfl k x).2.1, (so 13 k x (by omega)).2.1]
    exact (hNx k (by omega)).2 x
end DF
