/-! ===== the model: reach, quarrels ===== -/
section MK
variable {E : Es} {D : Nat → Nat → Int32} {I : Tg → Nat → Int32} {am : Nat} {nn nm ng ns nl nc s m : Nat} {Q : Int32 → Gh → Prop}
theorem rchL_out {l m : Nat} {ss : List Nat} (h : (D 24 l).toNatClampNeg ∉ wy (D 1) 61 (D 4 m)) : rchL D nl l m ss = [] := by
  unfold rchL
  rw [List.filter_eq_nil_iff.mpr (fun s _ => by unfold rchB; rw [decide_eq_false h]; simp)]
  rfl
theorem rchM_len {l : Nat} : ∀ ms : List Nat, (rchM D nl l ms).length ≤ 12 * ms.length := by
  intro ms
  induction ms with
  | nil => exact Nat.le_refl _
  | cons m ms ih =>
    unfold rchM at ih ⊢
    rw [List.flatMap_cons, List.length_append, List.length_cons]
    have : (rchL D nl l m (List.range' 0 12)).length ≤ 12 := by
      unfold rchL
      rw [List.length_map]
      exact Nat.le_trans (List.length_filter_le _ _) (by rw [List.length_range']; omega)
    omega
theorem m_reaches_20 (hM : ModS E am) (hD : DI (eCu E) D nn nm ng ns nl nc) {l : Nat} (hl : l < nl) {k : Nat} (hk : k ≤ 100000) (hdone : Rdone Q E D I k (rchM D nl l (List.range' 0 nm))) : ∀ (d m fu : Nat) (D' : Nat → Nat → Int32) (done : List (Nat × Nat)), d + m = nm → d < fu → done ++ rchM D nl l (List.range' m d) = rchM D nl l (List.range' 0 nm) → done.length ≤ k → FrL frA frK D D' → D' 0 0 = 0 → (∀ g, g < ng → Cl (D 8) ng g (D' 33 g)) → Wp (f_X12_reaches_20 (some am) (nI l) (nI k) fu (nI done.length) (nI m)) (E, D', I) Q := by
  have hl100 : l < 100 := by have := hD.2.2.2.2.1.1; omega
  obtain ⟨n24, hn24, e24⟩ := (hD.2.2.2.2.1.2.2.2.1 l hl).1
  have hnm := hD.2.1.1
  have hnn := hD.1.1.2
  have hL720 : (rchM D nl l (List.range' 0 nm)).length ≤ 720 := by
    have := rchM_len (D := D) (nl := nl) (l := l) (List.range' 0 nm)
    rw [List.length_range'] at this
    omega
  intro d
  induction d with
  | zero =>
    intro m fu D' done hm hf hL hlen hF h00 hc
    cases fu with
    | zero => exact absurd hf (Nat.not_lt_zero _)
    | succ fu =>
      rw [f_X12_reaches_20]
      refine wm_I hM rfl ?_
      rw [hF.2 7 (by decide), hD.2.1.2.1]
      refine wp_pos ((nI_leI (by omega) (by omega)).mpr (by omega)) (wp_mp ?_)
      rw [show List.range' m 0 = [] from rfl, show rchM D nl l [] = [] from rfl, List.append_nil] at hL
      rw [hL] at hlen ⊢
      exact (hdone D' hF h00).2 hlen
  | succ d ih =>
    intro m fu D' done hm hf hL hlen hF h00 hc
    cases fu with
    | zero => exact absurd hf (Nat.not_lt_zero _)
    | succ fu =>
      obtain ⟨i, r, hi, e4, hw⟩ := hD.way (m := m) (by omega)
      have hwl := chn_len hnn hw
      have ewy : wy (D 1) 61 (D 4 m) = i :: r := chn_wy hnn _ 61 hw (by omega)
      have hL2 : done ++ rchL D nl l m (List.range' 0 12) ++ rchM D nl l (List.range' (m + 1) d) = rchM D nl l (List.range' 0 nm) := by
        rw [← hL, show List.range' m (d + 1) = m :: List.range' (m + 1) d from rfl]
        unfold rchM
        rw [List.flatMap_cons, List.append_assoc]
      rw [f_X12_reaches_20]
      refine wm_I hM rfl ?_
      rw [hF.2 7 (by decide), hD.2.1.2.1]
      refine wp_neg (fun e => by have := (nI_leI (by omega) (by omega)).mp e; omega) ?_
      refine wm_R hM (by decide) (by decide) rfl ?_
      refine wm_a hM m rfl (by show m < 60; omega) rfl (by decide) (by decide) (by omega) ?_
      rw [hF.1 4 (by decide) (by decide)]
      refine wm_R hM (by decide) (by decide) rfl ?_
      refine wm_a hM l rfl (by show l < 100; omega) rfl (by decide) (by decide) (by omega) ?_
      rw [hF.1 24 (by decide) (by decide), e24]
      refine wm_call hM (m_isBelow (nn := nn) (w := i :: r) hM hnn (by omega) (by rw [hF.1 1 (by decide) (by decide)]; exact hw) ?_)
      by_cases hin : n24 ∈ i :: r
      · rw [if_pos hin]
        refine wp_neg (by decide) ?_
        refine wm_call hM (m_yesOf hM (by omega) ?_)
        rw [hF.1 5 (by decide) (by decide)]
        have nx : ∀ D2 n, FrL frA frK D D2 → D2 0 0 = 0 → (∀ g, g < ng → Cl (D 8) ng g (D2 33 g)) → n = (done ++ rchL D nl l m (List.range' 0 12)).length → n ≤ k → Wp (f_X12_reaches_20 (some am) (nI l) (nI k) fu (nI n) (nI (m + 1))) (E, D2, I) Q := fun D2 n q1 q2 q3 q4 q5 => by
          subst q4
          exact ih (m + 1) fu D2 _ (by omega) (by omega) hL2 q5 q1 q2 q3
        have go := m_reaches_63 hM hD hl (m := m) (by omega) hk (by rw [ewy, e24, nI_clamp (by omega)]; exact hin) hdone done hL2 hL720 nx 12 0 fuL D' [] (by omega) (fu_ok (by omega)) rfl
        rw [show rchL D nl l m [] = [] from rfl, List.append_nil] at go
        exact go hlen hF h00 hc
      · rw [if_neg hin]
        refine wp_pos rfl ?_
        unfold f_X12_reaches_162
        rw [nI_1]
        refine ih (m + 1) fu D' done (by omega) (by omega) ?_ hlen hF h00 hc
        rw [← hL2, rchL_out (by rw [ewy, e24, nI_clamp (by omega)]; exact hin), List.append_nil]
/-- the reach of a link -/
noncomputable def rchD (D : Nat → Nat → Int32) (nl nm l : Nat) : List (Nat × Nat) := if D 28 l = 0 then rchM D nl l (List.range' 0 nm) else []
theorem rchD_len {l : Nat} (hnm : nm ≤ 60) : (rchD D nl nm l).length ≤ 720 := by
  unfold rchD
  split
  · have := rchM_len (D := D) (nl := nl) (l := l) (List.range' 0 nm)
    rw [List.length_range'] at this
    omega
  · exact Nat.zero_le _
theorem m_reaches (hM : ModS E am) (hD : DI (eCu E) D nn nm ng ns nl nc) {l : Nat} (hl : l < nl) {k : Nat} (hk : k ≤ 100000) {D0 : Nat → Nat → Int32} (hD0 : D0 = ds D 0 0 0) (hdone : Rdone Q E D I k (rchD D nl nm l)) : Wp (f_X12_reaches (some am) (nI l) (nI k)) (E, D0, I) Q := by
  have hl100 : l < 100 := by have := hD.2.2.2.2.1.1; omega
  subst hD0
  have hF0 : FrL frA frK D (ds D 0 0 0) := FrL.rf.sc (by decide)
  unfold f_X12_reaches
  refine wm_R hM (by decide) (by decide) rfl ?_
  refine wm_a hM l rfl (by show l < 100; omega) rfl (by decide) (by decide) (by omega) ?_
  rw [ds_ne (by omega)]
  unfold rchD at hdone
  refine wp_ite (fun c => ?_) (fun c => ?_)
  · rw [if_pos c] at hdone
    refine wm_call hM (m_groupsAnew (D := ds D 0 0 0) hM (ng := ng) (by rw [ds_ne (by omega)]; exact hD.2.2.1.2.1) hD.2.2.1.1 (fun D1 q1 q2 => ?_))
    rw [ds_row (by decide)] at q2
    have hF : FrL frA frK D D1 := ⟨fun j h0 hj => by rw [q1 j (fun e => hj (by rw [e]; decide)), ds_row h0], fun k hk => by rw [q1 0 (by decide), ds_ne (fun e => hk (by rw [e.2]; decide))]⟩
    have hnm := hD.2.1.1
    exact m_reaches_20 hM hD hl hk hdone nm 0 fuL D1 [] (by omega) (fu_ok (by omega)) rfl (Nat.zero_le _) hF (by rw [q1 0 (by decide), ds_eq]) q2
  · rw [if_neg c] at hdone
    exact wp_mp ((hdone _ hF0 ds_eq).2 (Nat.zero_le _))
theorem m_reach (hM : ModS E am) (hD : DI (eCu E) D nn nm ng ns nl nc) {x : Int32} (k1 : (x < 0 ∨ ¬ x < nI nl) → ∀ r, Q r (E, ds D 0 0 1, I)) (k3 : ∀ l, l < nl → x = nI l → ∀ D', FrL frA frK D D' → D' 0 0 = 0 → Q (nI (rchD D nl nm l).length) (E, D', I)) : Wp (f_X12_reach (some am) x) (E, D, I) Q := by
  have hnl := hD.2.2.2.2.1.1
  unfold f_X12_reach
  refine wm_P hM rfl ?_
  refine wm_I hM rfl ?_
  rw [ds_ne (by omega), hD.2.2.2.2.1.2.1]
  refine wm_call hM (m_none hM ds_eq (fun h1 h2 => ?_) (fun h => ?_))
  · obtain ⟨l, hl, rfl⟩ := nI_of h1
    have hl2 : l < nl := (nI_ltI hl (by omega)).mp h2
    refine wp_pos rfl ?_
    refine wm_call hM (m_reaches (k := 100000) hM hD hl2 (by omega) rfl (fun D' hF h0 => ⟨fun p hp _ _ => ?_, fun _ => ?_⟩))
    · have := (List.getElem?_eq_some_iff.mp hp).1
      have := rchD_len (D := D) (nl := nl) (l := l) hD.2.1.1
      omega
    · exact wp_mp (k3 l hl2 rfl D' hF h0)
  · refine wp_neg (by decide) ?_
    rw [ds_ds]
    exact wp_mp (k1 h 0)
/-- the k-th pair's part -/
def pAt (L : List (Nat × Nat)) (k : Int32) (w : Int32) : Int32 := if k < 0 then -1 else match L[k.toNatClampNeg]? with
  | some p => if w = 0 then nI p.1 else nI p.2
  | none => -1
theorem m_reached (hM : ModS E am) (hD : DI (eCu E) D nn nm ng ns nl nc) {x k w : Int32} (k1 : (x < 0 ∨ ¬ x < nI nl) → ∀ r, Q r (E, ds D 0 0 1, I)) (k2 : ¬ x < 0 → x < nI nl → (w < 0 ∨ ¬ w < 2) → ∀ r, Q r (E, ds D 0 0 2, I)) (k3 : ∀ l, l < nl → x = nI l → ¬ w < 0 → w < 2 → ∀ D', FrL frA frK D D' → D' 0 0 = 0 → Q (pAt (rchD D nl nm l) k w) (E, D', I)) : Wp (f_X12_reached (some am) x k w) (E, D, I) Q := by
  have hnl := hD.2.2.2.2.1.1
  have hF0 : FrL frA frK D (ds D 0 0 0) := FrL.rf.sc (by decide)
  have e2 : w ≤ 1 ↔ w < 2 := by
    rw [Int32.le_iff_toInt_le, Int32.lt_iff_toInt_lt]
    show w.toInt ≤ 1 ↔ w.toInt < 2
    omega
  unfold f_X12_reached
  refine wm_P hM rfl ?_
  refine wm_I hM rfl ?_
  rw [ds_ne (by omega), hD.2.2.2.2.1.2.1]
  refine wm_call hM (m_none hM ds_eq (fun h1 h2 => ?_) (fun h => ?_))
  · obtain ⟨l, hl, rfl⟩ := nI_of h1
    have hl2 : l < nl := (nI_ltI hl (by omega)).mp h2
    have hlen := rchD_len (D := D) (nl := nl) (l := l) hD.2.1.1
    refine wp_pos rfl ?_
    have bad : (w < 0 ∨ ¬ w < 2) → Wp (f_X12_reached_27 (some am) (nI l) k w (some am)) (E, ds D 0 0 0, I) Q := fun h => by
      unfold f_X12_reached_27 f_X12_reached_32
      refine wm_call hM (m_bad1 hM ?_)
      refine wp_neg (by decide) ?_
      rw [ds_ds]
      exact wp_mp (k2 h1 h2 h 0)
    refine wp_ite (fun c => bad (.inl c)) (fun c1 => wp_ite (fun c2 => ?_) (fun c => bad (.inr (fun e => c (e2.mpr e)))))
    have k3 := k3 l hl2 rfl c1 (e2.mp c2)
    unfold f_X12_reached_32
    refine wm_call hM (m_bad0 hM ?_)
    refine wp_pos rfl ?_
    unfold pAt at k3
    refine wp_ite (fun c => ?_) (fun c => ?_)
    · have k3 := k3 _ hF0 ds_eq
      rw [if_pos c] at k3
      exact wp_mp k3
    · simp only [if_neg c] at k3
      obtain ⟨j, hj, rfl⟩ := nI_of c
      simp only [nI_clamp hj] at k3
      refine wp_ite (fun c3 => ?_) (fun c3 => ?_)
      · have hb : 100000 < j := (nI_ltI (a := 100000) (by omega) hj).mp c3
        have k3 := k3 _ hF0 ds_eq
        rw [List.getElem?_eq_none (by omega)] at k3
        exact wp_mp k3
      · have hj5 : j ≤ 100000 := Nat.le_of_not_lt fun h => c3 ((nI_ltI (a := 100000) (by omega) hj).mpr h)
        refine wm_call hM (m_reaches (k := j) hM hD hl2 hj5 rfl (fun D' hF h0 => ⟨fun p hp q1 q2 => ?_, fun hle => ?_⟩))
        · have k3 := k3 D' hF h0
          rw [hp] at k3
          refine wp_pos ((nI_ltI hj (by omega)).mpr (by omega)) ?_
          dsimp only at k3
          refine wp_ite (fun c4 => ?_) (fun c4 => ?_)
          · rw [if_pos c4] at k3
            refine wm_I hM rfl ?_
            rw [q1]
            exact wp_mp k3
          · rw [if_neg c4] at k3
            refine wm_I hM rfl ?_
            rw [q2]
            exact wp_mp k3
        · have k3 := k3 D' hF h0
          rw [List.getElem?_eq_none hle] at k3
          exact wp_neg (fun e => by have := (nI_ltI hj (by omega)).mp e; omega) (wp_mp k3)
  · refine wp_neg (by decide) ?_
    rw [ds_ds]
    exact wp_mp (k1 h 0)
/-! quarrels -/
def unlB (D : Nat → Nat → Int32) (a b : Nat) : Bool := decide (D 28 a = 0) && (decide (D 28 b = 0) && (decide (D 24 a = D 24 b) && (decide (D 27 a = D 27 b) && (decide (D 26 a = D 26 b) && (List.range' 0 12).any (fun s => decide (D 13 s = 0) && (tlD D s a && (tlD D s b && decide (vlD D s a ≠ vlD D s b))))))))
theorem m_areUnlike_67 (hM : ModS E am) (hS : AskS D ns nl) {a b : Nat} (ha : a < nl) (hb : b < nl) : ∀ (d s fu : Nat), d + s = 12 → d < fu → Q (b2i ((List.range' s d).any (fun s => decide (D 13 s = 0) && (tlD D s a && (tlD D s b && decide (vlD D s a ≠ vlD D s b)))))) (E, D, I) → Wp (f_X12_areUnlike_67 (some am) (nI a) (nI b) fu (nI s)) (E, D, I) Q := by
  obtain ⟨h40, h100, h25, -⟩ := id hS
  obtain ⟨z, hz, ez⟩ := h25 a ha
  obtain ⟨z2, hz2, ez2⟩ := h25 b hb
  intro d
  induction d with
  | zero =>
    intro s fu hs hf k
    cases fu with
    | zero => exact absurd hf (Nat.not_lt_zero _)
    | succ fu =>
      rw [f_X12_areUnlike_67, show s = 12 by omega]
      exact wp_pos (by decide) (wp_rz (.inl rfl) k)
  | succ d ih =>
    intro s fu hs hf k
    cases fu with
    | zero => exact absurd hf (Nat.not_lt_zero _)
    | succ fu =>
      rw [List.range'_succ, List.any_cons] at k
      have et1 : tlD D s a = bt (D 10 z) s := by unfold tlD; rw [ez, nI_clamp (by omega)]
      have et2 : tlD D s b = bt (D 10 z2) s := by unfold tlD; rw [ez2, nI_clamp (by omega)]
      have skip : (decide (D 13 s = 0) && (tlD D s a && (tlD D s b && decide (vlD D s a ≠ vlD D s b)))) = false → Wp (f_X12_areUnlike_127 (f_X12_areUnlike_67 (some am) (nI a) (nI b) fu) (some am) (nI a) (nI b) (nI s)) (E, D, I) Q := fun h => by
        rw [h, Bool.false_or] at k
        unfold f_X12_areUnlike_127
        rw [nI_1]
        exact ih (s + 1) fu (by omega) (by omega) k
      rw [f_X12_areUnlike_67]
      refine wp_neg (fun e => by have := (nI_leI (a := 12) (by omega) (by omega)).mp e; omega) ?_
      refine wm_R hM (by decide) (by decide) rfl ?_
      refine wm_a hM s rfl (by show s < 12; omega) rfl (by decide) (by decide) (by omega) ?_
      refine wp_ite (fun c => ?_) (fun c => skip (by rw [decide_eq_false c]; rfl))
      refine wm_R hM (by decide) (by decide) rfl ?_
      refine wm_a hM a rfl (by show a < 100; omega) rfl (by decide) (by decide) (by omega) ?_
      rw [ez]
      refine wm_call hM (m_tells hM (by omega) (by omega) ?_)
      cases hb1 : bt (D 10 z) s with
      | false => exact wp_pos rfl (skip (by rw [et1, hb1]; simp))
      | true =>
        refine wp_neg (by decide) ?_
        refine wm_R hM (by decide) (by decide) rfl ?_
        refine wm_a hM b rfl (by show b < 100; omega) rfl (by decide) (by decide) (by omega) ?_
        rw [ez2]
        refine wm_call hM (m_tells hM (by omega) (by omega) ?_)
        cases hb2 : bt (D 10 z2) s with
        | false => exact wp_pos rfl (skip (by rw [et2, hb2]; simp))
        | true =>
          refine wp_neg (by decide) ?_
          refine wm_call hM (m_valueOf hM hS (by omega) ha ?_)
          refine wm_call hM (m_valueOf hM hS (by omega) hb ?_)
          refine wp_ite (fun e => skip (by simp [e])) (fun e => ?_)
          rw [et1, et2, hb1, hb2, decide_eq_true c, decide_eq_true e] at k
          exact wp_rz (.inr rfl) k
theorem m_areUnlike (hM : ModS E am) (hS : AskS D ns nl) {a b : Nat} (ha : a < nl) (hb : b < nl) (k : Q (b2i (unlB D a b)) (E, D, I)) : Wp (f_X12_areUnlike (some am) (nI a) (nI b)) (E, D, I) Q := by
  have h100 := hS.2.1
  unfold unlB at k
  unfold f_X12_areUnlike
  refine wm_R hM (by decide) (by decide) rfl ?_
  refine wm_a hM a rfl (by show a < 100; omega) rfl (by decide) (by decide) (by omega) ?_
  refine wp_ite (fun c1 => ?_) (fun c => ?_)
  · rw [decide_eq_true c1, Bool.true_and] at k
    refine wm_R hM (by decide) (by decide) rfl ?_
    refine wm_a hM b rfl (by show b < 100; omega) rfl (by decide) (by decide) (by omega) ?_
    refine wp_ite (fun c1 => ?_) (fun c => ?_)
    · rw [decide_eq_true c1, Bool.true_and] at k
      refine wm_R hM (by decide) (by decide) rfl ?_
      refine wm_a hM a rfl (by show a < 100; omega) rfl (by decide) (by decide) (by omega) ?_
      refine wm_R hM (by decide) (by decide) rfl ?_
      refine wm_a hM b rfl (by show b < 100; omega) rfl (by decide) (by decide) (by omega) ?_
      refine wp_ite (fun c1 => ?_) (fun c => ?_)
      · rw [decide_eq_true c1, Bool.true_and] at k
        refine wm_R hM (by decide) (by decide) rfl ?_
        refine wm_a hM a rfl (by show a < 100; omega) rfl (by decide) (by decide) (by omega) ?_
        refine wm_R hM (by decide) (by decide) rfl ?_
        refine wm_a hM b rfl (by show b < 100; omega) rfl (by decide) (by decide) (by omega) ?_
        refine wp_ite (fun c1 => ?_) (fun c => ?_)
        · rw [decide_eq_true c1, Bool.true_and] at k
          refine wm_R hM (by decide) (by decide) rfl ?_
          refine wm_a hM a rfl (by show a < 100; omega) rfl (by decide) (by decide) (by omega) ?_
          refine wm_R hM (by decide) (by decide) rfl ?_
          refine wm_a hM b rfl (by show b < 100; omega) rfl (by decide) (by decide) (by omega) ?_
          refine wp_ite (fun c1 => ?_) (fun c => ?_)
          · rw [decide_eq_true c1, Bool.true_and] at k
            exact m_areUnlike_67 hM hS ha hb 12 0 fuL (by omega) (fu_ok (by omega)) k
          · rw [decide_eq_false c] at k
            exact wp_rz (.inl rfl) k
        · rw [decide_eq_false c] at k
          exact wp_rz (.inl rfl) k
      · rw [decide_eq_false c] at k
        exact wp_rz (.inl rfl) k
    · rw [decide_eq_false c] at k
      exact wp_rz (.inl rfl) k
  · rw [decide_eq_false c] at k
    exact wp_rz (.inl rfl) k
end MK
