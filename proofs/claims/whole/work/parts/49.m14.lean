/-! ===== the model: move ===== -/
section MN
variable {E : Es} {D : Nat → Nat → Int32} {I : Tg → Nat → Int32} {am : Nat} {nn nm ng ns nl nc : Nat} {Q : Int32 → Gh → Prop}
theorem chgM_app (D D1 : Nat → Nat → Int32) (nl : Nat) : ∀ a b, chgM D D1 nl (a ++ b) = chgM D D1 nl a + chgM D D1 nl b := by
  intro a b
  induction a with
  | nil => rw [List.nil_append, chgM, Nat.zero_add]
  | cons m a ih => rw [List.cons_append, chgM, chgM, ih, Nat.add_assoc]
theorem chgL_le (D D1 : Nat → Nat → Int32) (nl m : Nat) : chgL D D1 nl m (List.range' 0 12) ≤ 12 := by
  unfold chgL
  exact Nat.le_trans (List.length_filter_le _ _) (by rw [List.length_range']; omega)
theorem chgM_le (D D1 : Nat → Nat → Int32) (nl : Nat) : ∀ a : List Nat, chgM D D1 nl a ≤ 12 * a.length := by
  intro a
  induction a with
  | nil => exact Nat.le_refl _
  | cons m a ih =>
    rw [chgM, List.length_cons]
    have := chgL_le D D1 nl m
    omega
theorem m_move_171 {D1 : Nat → Nat → Int32} (hM : ModS E am) (hD : DI (eCu E) D nn nm ng ns nl nc) (hD1 : DI (eCu E) D1 nn nm ng ns nl nc) (kk : ∀ D', FrL frA frK D1 D' → D' 0 0 = 0 → Q (nI (chgM D D1 nl (List.range' 0 nm))) (E, D', I)) : ∀ (d m fu : Nat) (D' : Nat → Nat → Int32) (pre : List Nat), d + m = nm → d < fu → List.range' 0 nm = pre ++ List.range' m d → FrL frA frK D1 D' → D' 0 0 = 0 → (∀ g, g < ng → Cl (D1 8) ng g (D' 33 g)) → WasI D D' nl (12 * nm) → Wp (f_X12_move_171 (some am) fu (nI (chgM D D1 nl pre)) (nI m)) (E, D', I) Q := by
  have hnm := hD1.2.1.1
  intro d
  induction d with
  | zero =>
    intro m fu D' pre hs hf hp hF h00 hc hW
    cases fu with
    | zero => exact absurd hf (Nat.not_lt_zero _)
    | succ fu =>
      rw [f_X12_move_171]
      refine wm_I hM rfl ?_
      rw [hF.2 7 (by decide), hD1.2.1.2.1]
      refine wp_pos ((nI_leI (by omega) (by omega)).mpr (by omega)) (wp_mp ?_)
      rw [show List.range' m 0 = [] from rfl, List.append_nil] at hp
      rw [← hp]
      exact kk D' hF h00
  | succ d ih =>
    intro m fu D' pre hs hf hp hF h00 hc hW
    cases fu with
    | zero => exact absurd hf (Nat.not_lt_zero _)
    | succ fu =>
      have hm : m < nm := by omega
      have hp2 : List.range' 0 nm = (pre ++ [m]) ++ List.range' (m + 1) d := by rw [hp, show List.range' m (d + 1) = m :: List.range' (m + 1) d from rfl, List.append_assoc]; rfl
      have hpl : chgM D D1 nl pre ≤ 720 := by
        have h1 : pre.length ≤ 60 := by
          have := congrArg List.length hp
          rw [List.length_append, List.length_range', List.length_range'] at this
          omega
        have := chgM_le D D1 nl pre
        omega
      obtain ⟨i, r, hi, e4, hw⟩ := hD1.way hm
      have hnn := hD1.1.1.2
      have ewy : wy (D1 1) 61 (D1 4 m) = i :: r := chn_wy hnn _ 61 hw (by have := chn_len hnn hw; omega)
      rw [f_X12_move_171]
      refine wm_I hM rfl ?_
      rw [hF.2 7 (by decide), hD1.2.1.2.1]
      refine wp_neg (fun e => by have := (nI_leI (by omega) (by omega)).mp e; omega) ?_
      refine wm_call hM (m_yesOf hM (by omega) ?_)
      rw [hF.1 5 (by decide) (by decide)]
      refine wm_call hM (m_makes (D := D') (w := i :: r) hM (hD1.askL (ks := []) hF hc) (by omega) ?_ (by simp) (fun D2 q1 q2 => ?_))
      · rw [hF.1 1 (by decide) (by decide), hF.1 4 (by decide) (by decide)]
        exact hw
      · rw [rowK_fr hF] at q2
        have hF2 : FrL frA frK D1 D2 := (hF.tr q1).wk (by decide) (by decide)
        have go := m_move_196 (Q := Q) (I := I) (k171 := f_X12_move_171 (some am) fu) (c0 := chgM D D1 nl pre) hM hD hD1 hm hpl (fun D3 r1 r2 r3 r4 => by
          have e : chgM D D1 nl pre + chgL D D1 nl m (List.range' 0 12) = chgM D D1 nl (pre ++ [m]) := by rw [chgM_app, chgM, chgM, Nat.add_zero]
          rw [e]
          exact ih (m + 1) fu D3 (pre ++ [m]) (by omega) (by omega) hp2 r1 r2 r3 r4) 12 0 fuL D2 [] (by omega) (fu_ok (by omega)) rfl hF2 (by rw [q1.2 0 (by decide), h00]) (fun g hg => by rw [q1.1 33 (by decide) (by decide)]; exact hc g hg) (by rw [ewy]; exact q2) (by unfold WasI; rw [q1.1 44 (by decide) (by decide)]; exact hW)
        exact go
theorem m_move_52 (hM : ModS E am) (hD : DI (eCu E) D nn nm ng ns nl nc) {n up : Nat} (hn : n < nn) {wu : List Nat} (hu : Chn (D 1) nn wu (nI up)) (hnu : n ∉ wu) (kk : ∀ D', FrL frA frK (ds D 1 n (nI up)) D' → D' 0 0 = 0 → Q (nI (chgM D (ds D 1 n (nI up)) nl (List.range' 0 nm))) (E, D', I)) : ∀ (d m fu : Nat) (D' : Nat → Nat → Int32), d + m = nm → d < fu → FrL frA frK D D' → D' 0 0 = 0 → (∀ g, g < ng → Cl (D 8) ng g (D' 33 g)) → WasI D D' nl (12 * m) → Wp (f_X12_move_52 (some am) (nI n) (nI up) fu (nI m)) (E, D', I) Q := by
  have hnm := hD.2.1.1
  have hnn := hD.1.1.2
  intro d
  induction d with
  | zero =>
    intro m fu D' hs hf hF h00 hc hW
    cases fu with
    | zero => exact absurd hf (Nat.not_lt_zero _)
    | succ fu =>
      rw [f_X12_move_52]
      refine wm_I hM rfl ?_
      rw [hF.2 7 (by decide), hD.2.1.2.1]
      refine wp_pos ((nI_leI (by omega) (by omega)).mpr (by omega)) ?_
      refine wm_R hM (by decide) (by decide) rfl ?_
      refine wm_s hM n rfl (by show n < 60; omega) rfl (by decide) (by decide) (by omega) ?_
      have hF1 : FrL frA frK (ds D 1 n (nI up)) (ds D' 1 n (nI up)) := ⟨fun j h0 hj => by
        by_cases e : j = 1
        · subst e
          funext k
          unfold ds
          rw [hF.1 1 (by decide) (by decide)]
        · rw [ds_row e, ds_row e, hF.1 j h0 hj], fun k hk => by rw [ds_ne (by omega), ds_ne (by omega), hF.2 k hk]⟩
      refine m_move_171 hM hD (hD.move hu hnu) kk nm 0 fuL _ [] (by omega) (fu_ok (by omega)) rfl hF1 (by rw [ds_ne (by omega)]; exact h00) (fun g hg => by rw [ds_row (by decide), ds_row (by decide)]; exact hc g hg) ?_
      unfold WasI at hW ⊢
      rw [ds_row (by decide), show 12 * nm = 12 * m by omega]
      exact hW
  | succ d ih =>
    intro m fu D' hs hf hF h00 hc hW
    cases fu with
    | zero => exact absurd hf (Nat.not_lt_zero _)
    | succ fu =>
      have hm : m < nm := by omega
      obtain ⟨i, r, hi, e4, hw⟩ := hD.way hm
      have ewy : wy (D 1) 61 (D 4 m) = i :: r := chn_wy hnn _ 61 hw (by have := chn_len hnn hw; omega)
      rw [f_X12_move_52]
      refine wm_I hM rfl ?_
      rw [hF.2 7 (by decide), hD.2.1.2.1]
      refine wp_neg (fun e => by have := (nI_leI (by omega) (by omega)).mp e; omega) ?_
      refine wm_call hM (m_yesOf hM (by omega) ?_)
      rw [hF.1 5 (by decide) (by decide)]
      refine wm_call hM (m_makes (D := D') (w := i :: r) hM (hD.askL (ks := []) hF hc) (by omega) ?_ (by simp) (fun D2 q1 q2 => ?_))
      · rw [hF.1 1 (by decide) (by decide), hF.1 4 (by decide) (by decide)]
        exact hw
      · rw [rowK_fr hF] at q2
        have hF2 : FrL frA frK D D2 := (hF.tr q1).wk (by decide) (by decide)
        exact m_move_74 hM hD hm (fun D3 r1 r2 r3 r4 => ih (m + 1) fu D3 (by omega) (by omega) r1 r2 r3 r4) 12 0 fuL D2 (by omega) (fu_ok (by omega)) hF2 (by rw [q1.2 0 (by decide), h00]) (fun g hg => by rw [q1.1 33 (by decide) (by decide)]; exact hc g hg) (by rw [ewy]; exact q2) (by unfold WasI; rw [q1.1 44 (by decide) (by decide)]; exact hW)
theorem m_move (hM : ModS E am) (hD : DI (eCu E) D nn nm ng ns nl nc) {x y : Int32} (k1 : (x < 0 ∨ ¬ x < nI nn) → ∀ r, Q r (E, ds D 0 0 1, I)) (k2 : ¬ x < 0 → x < nI nn → (y < 0 ∨ ¬ y < nI nn) → ∀ r, Q r (E, ds D 0 0 1, I)) (k3 : ∀ n up wu, n < nn → x = nI n → up < nn → y = nI up → Chn (D 1) nn wu (nI up) → (n = 0 ∨ n ∈ wu) → Q (-1) (E, ds D 0 0 0, I)) (k4 : ∀ n up wu, n < nn → x = nI n → up < nn → y = nI up → Chn (D 1) nn wu (nI up) → n ≠ 0 → n ∉ wu → ∀ D', FrL frA frK (ds D 1 n (nI up)) D' → D' 0 0 = 0 → Q (nI (chgM D (ds D 1 n (nI up)) nl (List.range' 0 nm))) (E, D', I)) : Wp (f_X12_move (some am) x y) (E, D, I) Q := by
  have hnm := hD.2.1.1
  have hnn := hD.1.1.2
  unfold f_X12_move
  refine wm_P hM rfl ?_
  refine wm_I hM rfl ?_
  rw [ds_ne (by omega), hD.1.2.1]
  refine wm_call hM (m_none hM ds_eq (fun h1 h2 => ?_) (fun h => ?_))
  · refine wp_pos rfl ?_
    refine wm_I hM rfl ?_
    rw [ds_ne (by omega), hD.1.2.1]
    refine wm_call hM (m_none hM ds_eq (fun h3 h4 => ?_) (fun h => ?_))
    · obtain ⟨n, hn9, rfl⟩ := nI_of h1
      have hn : n < nn := (nI_ltI hn9 (by omega)).mp h2
      obtain ⟨up, hu9, rfl⟩ := nI_of h3
      have hup : up < nn := (nI_ltI hu9 (by omega)).mp h4
      obtain ⟨wu, hwu⟩ := hD.1.2.2.1 up hup
      refine wp_pos rfl ?_
      by_cases e0 : n = 0
      · exact wp_pos (by rw [e0]; rfl) (wp_mp (k3 n up wu hn rfl hup rfl hwu (.inl e0)))
      · refine wp_neg (nI_ne0 (by omega) hn9) ?_
        refine wm_call hM (m_isBelow (nn := nn) (w := wu) hM hnn hn9 (by rw [ds_row (by decide)]; exact hwu) ?_)
        by_cases hin : n ∈ wu
        · rw [if_pos hin]
          exact wp_neg (by decide) (wp_mp (k3 n up wu hn rfl hup rfl hwu (.inr hin)))
        · rw [if_neg hin]
          refine wp_pos rfl ?_
          refine wm_call hM (m_groupsAnew (D := ds D 0 0 0) hM (ng := ng) (by rw [ds_ne (by omega)]; exact hD.2.2.1.2.1) hD.2.2.1.1 (fun D1 q1 q2 => ?_))
          rw [ds_row (by decide)] at q2
          have hF : FrL frA frK D D1 := ⟨fun j h0 hj => by rw [q1 j (fun e => hj (by rw [e]; decide)), ds_row h0], fun k hk => by rw [q1 0 (by decide), ds_ne (fun e => hk (by rw [e.2]; decide))]⟩
          exact m_move_52 hM hD hn hwu hin (k4 n up wu hn rfl hup rfl hwu e0 hin) nm 0 fuL D1 (by omega) (fu_ok (by omega)) hF (by rw [q1 0 (by decide), ds_eq]) q2 (fun m s _ h => absurd h (Nat.not_lt_zero _))
    · refine wp_neg (by decide) ?_
      rw [ds_ds]
      exact wp_mp (k2 h1 h2 h 0)
  · refine wp_neg (by decide) ?_
    rw [ds_ds]
    exact wp_mp (k1 h 0)
end MN
