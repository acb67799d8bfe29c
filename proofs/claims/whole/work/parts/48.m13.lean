/-! ===== the model: a move counted ===== -/
def WasP (f : Nat → Int32) (k : Nat) (vs : List Int32) : Prop := f k = nI vs.length ∧ ∀ i v, vs[i]? = some v → f (k + 1 + i) = v
theorem WasP.ne {f f' : Nat → Int32} {k : Nat} {vs : List Int32} (h : WasP f k vs) (hl : vs.length ≤ 40) (he : ∀ j, k ≤ j → j < k + 41 → f' j = f j) : WasP f' k vs := ⟨by rw [he k (Nat.le_refl _) (by omega)]; exact h.1, fun i v hv => by
  have := (List.getElem?_eq_some_iff.mp hv).1
  rw [he _ (by omega) (by omega)]
  exact h.2 i v hv⟩
noncomputable abbrev mvF (D : Nat → Nat → Int32) (nl m s : Nat) : List Int32 := (ocD D nl s m (yesO (D 5) m 8) (-1)).1
def WasI (D D' : Nat → Nat → Int32) (nl q : Nat) : Prop := ∀ m s, s < 12 → 12 * m + s < q → WasP (D' 44) ((12 * m + s) * 41) (mvF D nl m s)
section MM
variable {E : Es} {D : Nat → Nat → Int32} {I : Tg → Nat → Int32} {am : Nat} {nn nm ng ns nl nc s m : Nat} {Q : Int32 → Gh → Prop}
theorem m_move_113 (hM : ModS E am) {k52 k74 : Int32 → Mo Int32} {x1 x2 x3 x4 : Int32} {o : List Int32 × Option Nat} {k : Nat} (hG : GotIs D o) (hl : o.1.length ≤ 40) (hk : k + 41 ≤ 29520) (kk : ∀ D', FrL [44] [] D D' → (∀ j, j ≤ k ∨ k + 41 ≤ j → D' 44 j = D 44 j) → (∀ i v, o.1[i]? = some v → D' 44 (k + 1 + i) = v) → Wp (k74 (x4 + 1)) (E, D', I) Q) : Wp (f_X12_move_113 k52 k74 (some am) x1 x2 x3 x4 (nI k) fuL 0) (E, D, I) Q := by
  have key : ∀ (d i fu : Nat) (D' : Nat → Nat → Int32), d + i = o.1.length → d < fu → FrL [44] [] D D' → (∀ j, j ≤ k ∨ k + 41 ≤ j → D' 44 j = D 44 j) → (∀ j v, j < i → o.1[j]? = some v → D' 44 (k + 1 + j) = v) → Wp (f_X12_move_113 k52 k74 (some am) x1 x2 x3 x4 (nI k) fu (nI i)) (E, D', I) Q := by
    intro d
    induction d with
    | zero =>
      intro i fu D' hi hf hF h1 h2
      cases fu with
      | zero => exact absurd hf (Nat.not_lt_zero _)
      | succ fu =>
        rw [f_X12_move_113]
        refine wm_I hM rfl ?_
        rw [hF.2 38 (by decide), hG.1]
        refine wp_pos ((nI_leI (by omega) (by omega)).mpr (by omega)) (kk D' hF h1 (fun j v hv => h2 j v ?_ hv))
        have := (List.getElem?_eq_some_iff.mp hv).1
        omega
    | succ d ih =>
      intro i fu D' hi hf hF h1 h2
      cases fu with
      | zero => exact absurd hf (Nat.not_lt_zero _)
      | succ fu =>
        rw [f_X12_move_113]
        refine wm_I hM rfl ?_
        rw [hF.2 38 (by decide), hG.1]
        refine wp_neg (fun e => by have := (nI_leI (by omega) (by omega)).mp e; omega) ?_
        refine wm_R hM (by decide) (by decide) rfl ?_
        refine wm_R hM (by decide) (by decide) rfl ?_
        refine wm_a hM i rfl (by show i < 100; omega) rfl (by decide) (by decide) (by omega) ?_
        rw [hF.1 37 (by decide) (by decide)]
        refine wm_s hM (k + 1 + i) (by rw [nI_1, nI_add]) (by show k + 1 + i < 29520; omega) rfl (by decide) (by decide) (by omega) ?_
        rw [nI_1]
        refine ih (i + 1) fu _ (by omega) (by omega) (hF.row (by decide) (by decide)) (fun j hj => by rw [ds_ne (by omega)]; exact h1 j hj) (fun j v hj hv => ?_)
        by_cases e : j = i
        · subst e
          rw [ds_eq]
          exact hG.2.1 j v hv
        · rw [ds_ne (by omega)]
          exact h2 j v (by omega) hv
  exact key o.1.length 0 fuL D (by omega) (fu_ok (by omega)) FrL.rf (fun _ _ => rfl) (fun j v hj _ => absurd hj (Nat.not_lt_zero _))
theorem m_move_74 (hM : ModS E am) (hD : DI (eCu E) D nn nm ng ns nl nc) (hm : m < nm) {k52 : Int32 → Mo Int32} {x1 x2 : Int32} (kk : ∀ D', FrL frA frK D D' → D' 0 0 = 0 → (∀ g, g < ng → Cl (D 8) ng g (D' 33 g)) → WasI D D' nl (12 * (m + 1)) → Wp (k52 (nI (m + 1))) (E, D', I) Q) : ∀ (d s fu : Nat) (D' : Nat → Nat → Int32), d + s = 12 → d < fu → FrL frA frK D D' → D' 0 0 = 0 → (∀ g, g < ng → Cl (D 8) ng g (D' 33 g)) → RowIs D' (rowK D nl m (yesO (D 5) m 8) (-1) (wy (D 1) 61 (D 4 m))) → WasI D D' nl (12 * m + s) → Wp (f_X12_move_74 k52 (some am) x1 x2 (nI m) fu (nI s)) (E, D', I) Q := by
  obtain ⟨i, r, hi, e4, hw⟩ := hD.way hm
  have hnn := hD.1.1.2
  have ewy : wy (D 1) 61 (D 4 m) = i :: r := chn_wy hnn _ 61 hw (by have := chn_len hnn hw; omega)
  have hrow := rowK_lt (m := m) (yes := yesO (D 5) m 8) (but := -1) hD hw
  have hm60 : m < 60 := by have := hD.2.1.1; omega
  intro d
  induction d with
  | zero =>
    intro s fu D' hs hf hF h00 hc hR hW
    cases fu with
    | zero => exact absurd hf (Nat.not_lt_zero _)
    | succ fu =>
      rw [f_X12_move_74, show s = 12 by omega]
      refine wp_pos (by decide) ?_
      rw [nI_1]
      refine kk D' hF h00 hc ?_
      rw [show 12 * (m + 1) = 12 * m + s by omega]
      exact hW
  | succ d ih =>
    intro s fu D' hs hf hF h00 hc hR hW
    cases fu with
    | zero => exact absurd hf (Nat.not_lt_zero _)
    | succ fu =>
      have hR0 := hR
      rw [ewy] at hR
      have h40 := ocD_40 (s := s) (yes := yesO (D 5) m 8) (but := -1) hD hm
      rw [f_X12_move_74]
      refine wp_neg (fun e => by have := (nI_leI (a := 12) (by omega) (by omega)).mp e; omega) ?_
      refine wm_call hM (m_outcomes (D := D') hM (hD.askS hF) (by omega) hR hrow.2 hrow.1 (fun D2 q1 q2 => ?_))
      rw [psD_fr hF, hF.1 13 (by decide) (by decide)] at q2
      have q2 : GotIs D2 (ocD D nl s m (yesO (D 5) m 8) (-1)) := by unfold ocD; rw [ewy]; exact q2
      have hF2 : FrL frA frK D D2 := (hF.tr q1).wk (by decide) (by decide)
      refine wm_R hM (by decide) (by decide) rfl ?_
      refine wm_I hM rfl ?_
      rw [q2.1]
      have ek : ((12 : Int32) * nI m + nI s) * 41 = nI ((12 * m + s) * 41) := by rw [show (12 : Int32) = nI 12 from rfl, show (41 : Int32) = nI 41 from rfl, pk_mul, nI_add, pk_mul]
      refine wm_s hM ((12 * m + s) * 41) ek (by show (12 * m + s) * 41 < 29520; omega) rfl (by decide) (by decide) (by omega) ?_
      rw [ek]
      have hG3 : GotIs (ds D2 44 ((12 * m + s) * 41) (kp 1 (nI (ocD D nl s m (yesO (D 5) m 8) (-1)).1.length))) (ocD D nl s m (yesO (D 5) m 8) (-1)) := by
        unfold GotIs
        rw [ds_row (by decide), ds_row (by decide)]
        exact q2
      refine m_move_113 hM hG3 h40 (by omega) (fun D4 t1 t2 t3 => ?_)
      rw [nI_1]
      have hF4 : FrL frA frK D D4 := ((hF2.row (by decide) (by decide)).tr t1).wk (by decide) (by decide)
      have e44 : ∀ j, j < (12 * m + s) * 41 → D4 44 j = D' 44 j := fun j hj => by
        rw [t2 j (by omega), ds_ne (by omega), q1.1 44 (by decide) (by decide)]
      refine ih (s + 1) fu D4 (by omega) (by omega) hF4 ?_ (fun g hg => ?_) ?_ (fun m' s' hs' hlt => ?_)
      · rw [t1.2 0 (by decide), ds_ne (by omega), q1.2 0 (by decide), h00]
      · rw [t1.1 33 (by decide) (by decide), ds_row (by decide), q1.1 33 (by decide) (by decide)]
        exact hc g hg
      · unfold RowIs at hR0 ⊢
        rw [t1.2 36 (by decide), ds_ne (by omega), q1.2 36 (by decide), t1.1 35 (by decide) (by decide), ds_row (by decide), q1.1 35 (by decide) (by decide)]
        exact hR0
      · by_cases e : 12 * m' + s' = 12 * m + s
        · have em : m' = m := by omega
          have es : s' = s := by omega
          subst em; subst es
          refine ⟨?_, t3⟩
          rw [t2 _ (.inl (Nat.le_refl _)), ds_eq]
          rfl
        · have hm' : m' < nm := by omega
          refine (hW m' s' hs' (by omega)).ne (ocD_40 hD hm') (fun j h1 h2 => e44 j (by omega))
/-- how many outcomes are others -/
noncomputable def chgB (D D1 : Nat → Nat → Int32) (nl m s : Nat) : Bool := decide (mvF D nl m s ≠ mvF D1 nl m s)
noncomputable def chgL (D D1 : Nat → Nat → Int32) (nl m : Nat) (ss : List Nat) : Nat := (ss.filter (chgB D D1 nl m)).length
noncomputable def chgM (D D1 : Nat → Nat → Int32) (nl : Nat) : List Nat → Nat
  | [] => 0
  | m :: ms => chgL D D1 nl m (List.range' 0 12) + chgM D D1 nl ms
theorem m_move_246 (hM : ModS E am) {k171 k196 : Int32 → Int32 → Mo Int32} {x3 x4 x5 : Int32} {o : List Int32 × Option Nat} {ks : List Int32} {k : Nat} (hG : GotIs D o) (hK : WasP (D 44) k ks) (hl : o.1.length ≤ 40) (hl2 : ks.length ≤ 40) (hk : k + 41 ≤ 29520) (kk : Wp (k196 (x3 + (if ks = o.1 then 0 else 1)) (x5 + 1)) (E, D, I) Q) : Wp (f_X12_move_241 k171 k196 (some am) x3 x4 x5 (nI k) (if nI ks.length = nI o.1.length then 1 else 0)) (E, D, I) Q := by
  have no : ks ≠ o.1 → Wp (f_X12_move_295 k171 k196 (some am) x3 x4 x5 0) (E, D, I) Q := fun h => by
    rw [if_neg h] at kk
    unfold f_X12_move_295
    exact wp_pos rfl kk
  have no2 : ks ≠ o.1 → ∀ (fu : Nat) (x : Int32), 0 < fu → Wp (f_X12_move_246 k171 k196 (some am) x3 x4 x5 (nI k) fu 0 x) (E, D, I) Q := fun h fu x hf => by
    cases fu with
    | zero => exact absurd hf (Nat.not_lt_zero _)
    | succ fu =>
      rw [f_X12_move_246]
      refine wm_I hM rfl ?_
      exact wp_ite (fun _ => no h) (fun _ => wp_pos rfl (no h))
  have key : ks.length = o.1.length → ∀ (d i fu : Nat), d + i = o.1.length → d + 1 < fu → (∀ j, j < i → ks[j]? = o.1[j]?) → Wp (f_X12_move_246 k171 k196 (some am) x3 x4 x5 (nI k) fu 1 (nI i)) (E, D, I) Q := by
    intro hll d
    induction d with
    | zero =>
      intro i fu hi hf hj
      cases fu with
      | zero => exact absurd hf (Nat.not_lt_zero _)
      | succ fu =>
        rw [f_X12_move_246]
        refine wm_I hM rfl ?_
        rw [hG.1]
        refine wp_pos ((nI_leI (by omega) (by omega)).mpr (by omega)) ?_
        have e : ks = o.1 := List.ext_getElem? fun j => by
          by_cases hj2 : j < i
          · exact hj j hj2
          · rw [List.getElem?_eq_none (by omega), List.getElem?_eq_none (by omega)]
        rw [if_pos e] at kk
        unfold f_X12_move_295
        exact wp_neg (by decide) kk
    | succ d ih =>
      intro i fu hi hf hj
      cases fu with
      | zero => exact absurd hf (Nat.not_lt_zero _)
      | succ fu =>
        rw [f_X12_move_246]
        refine wm_I hM rfl ?_
        rw [hG.1]
        refine wp_neg (fun e => by have := (nI_leI (by omega) (by omega)).mp e; omega) (wp_neg (by decide) ?_)
        have g1 : o.1[i]? = some o.1[i] := List.getElem?_eq_getElem (by omega)
        have g2 : ks[i]? = some ks[i] := List.getElem?_eq_getElem (by omega)
        refine wm_R hM (by decide) (by decide) rfl ?_
        refine wm_a hM (k + 1 + i) (by rw [nI_1, nI_add]) (by show k + 1 + i < 29520; omega) rfl (by decide) (by decide) (by omega) ?_
        refine wm_R hM (by decide) (by decide) rfl ?_
        refine wm_a hM i rfl (by show i < 100; omega) rfl (by decide) (by decide) (by omega) ?_
        rw [hK.2 i _ g2, hG.2.1 i _ g1]
        refine wp_ite (fun e => ?_) (fun e => ?_)
        · unfold f_X12_move_287
          rw [nI_1]
          refine ih (i + 1) fu (by omega) (by omega) (fun j hj2 => ?_)
          by_cases ej : j = i
          · subst ej; rw [g1, g2, e]
          · exact hj j (by omega)
        · unfold f_X12_move_287
          refine no2 (fun h => e ?_) fu _ (by omega)
          have : ks[i]? = o.1[i]? := by rw [h]
          rw [g1, g2] at this
          exact Option.some.inj this
  unfold f_X12_move_241
  by_cases e : ks.length = o.1.length
  · rw [if_pos (by rw [e])]
    exact key e o.1.length 0 fuL (by omega) (fu_ok (by omega)) (fun j hj => absurd hj (Nat.not_lt_zero _))
  · rw [if_neg (fun h => e ((nI_eq (by omega) (by omega)).mp h))]
    exact no2 (fun h => e (by rw [h])) fuL 0 (fu_ok (by omega))
theorem m_move_196 {D1 : Nat → Nat → Int32} (hM : ModS E am) (hD : DI (eCu E) D nn nm ng ns nl nc) (hD1 : DI (eCu E) D1 nn nm ng ns nl nc) (hm : m < nm) {k171 : Int32 → Int32 → Mo Int32} {c0 : Nat} (hc0 : c0 ≤ 720) (kk : ∀ D', FrL frA frK D1 D' → D' 0 0 = 0 → (∀ g, g < ng → Cl (D1 8) ng g (D' 33 g)) → WasI D D' nl (12 * nm) → Wp (k171 (nI (c0 + chgL D D1 nl m (List.range' 0 12))) (nI (m + 1))) (E, D', I) Q) : ∀ (d s fu : Nat) (D' : Nat → Nat → Int32) (pre : List Nat), d + s = 12 → d < fu → List.range' 0 12 = pre ++ List.range' s d → FrL frA frK D1 D' → D' 0 0 = 0 → (∀ g, g < ng → Cl (D1 8) ng g (D' 33 g)) → RowIs D' (rowK D1 nl m (yesO (D1 5) m 8) (-1) (wy (D1 1) 61 (D1 4 m))) → WasI D D' nl (12 * nm) → Wp (f_X12_move_196 k171 (some am) (nI m) fu (nI (c0 + chgL D D1 nl m pre)) (nI s)) (E, D', I) Q := by
  obtain ⟨i, r, hi, e4, hw⟩ := hD1.way hm
  have hnn := hD1.1.1.2
  have ewy : wy (D1 1) 61 (D1 4 m) = i :: r := chn_wy hnn _ 61 hw (by have := chn_len hnn hw; omega)
  have hrow := rowK_lt (m := m) (yes := yesO (D1 5) m 8) (but := -1) hD1 hw
  have hm60 : m < 60 := by have := hD1.2.1.1; omega
  intro d
  induction d with
  | zero =>
    intro s fu D' pre hs hf hp hF h00 hc hR hW
    cases fu with
    | zero => exact absurd hf (Nat.not_lt_zero _)
    | succ fu =>
      rw [f_X12_move_196, show s = 12 by omega]
      refine wp_pos (by decide) ?_
      rw [show List.range' s 0 = [] from rfl, List.append_nil] at hp
      rw [nI_1, ← hp]
      exact kk D' hF h00 hc hW
  | succ d ih =>
    intro s fu D' pre hs hf hp hF h00 hc hR hW
    cases fu with
    | zero => exact absurd hf (Nat.not_lt_zero _)
    | succ fu =>
      have hp2 : List.range' 0 12 = (pre ++ [s]) ++ List.range' (s + 1) d := by rw [hp, show List.range' s (d + 1) = s :: List.range' (s + 1) d from rfl, List.append_assoc]; rfl
      have hpl : chgL D D1 nl m pre ≤ 12 := by
        have h1 : pre.length ≤ 12 := by
          have := congrArg List.length hp
          rw [List.length_append, List.length_range', List.length_range'] at this
          omega
        exact Nat.le_trans (List.length_filter_le _ _) h1
      have hR0 := hR
      rw [ewy] at hR
      rw [f_X12_move_196]
      refine wp_neg (fun e => by have := (nI_leI (a := 12) (by omega) (by omega)).mp e; omega) ?_
      refine wm_call hM (m_outcomes (D := D') hM (hD1.askS hF) (by omega) hR hrow.2 hrow.1 (fun D2 q1 q2 => ?_))
      rw [psD_fr hF, hF.1 13 (by decide) (by decide)] at q2
      have q2 : GotIs D2 (ocD D1 nl s m (yesO (D1 5) m 8) (-1)) := by unfold ocD; rw [ewy]; exact q2
      have hF2 : FrL frA frK D1 D2 := (hF.tr q1).wk (by decide) (by decide)
      have hW2 : WasP (D2 44) ((12 * m + s) * 41) (mvF D nl m s) := by
        rw [q1.1 44 (by decide) (by decide)]
        exact hW m s (by omega) (by omega)
      refine wm_R hM (by decide) (by decide) rfl ?_
      have ek : ((12 : Int32) * nI m + nI s) * 41 = nI ((12 * m + s) * 41) := by rw [show (12 : Int32) = nI 12 from rfl, show (41 : Int32) = nI 41 from rfl, pk_mul, nI_add, pk_mul]
      refine wm_a hM ((12 * m + s) * 41) ek (by show (12 * m + s) * 41 < 29520; omega) rfl (by decide) (by decide) (by omega) ?_
      refine wm_I hM rfl ?_
      rw [q2.1, hW2.1, ek]
      have go := m_move_246 (k171 := k171) (k196 := f_X12_move_196 k171 (some am) (nI m) fu) (x3 := nI (c0 + chgL D D1 nl m pre)) (x4 := nI m) (x5 := nI s) (Q := Q) hM q2 hW2 (ocD_40 hD1 hm) (ocD_40 hD hm) (by omega) (by
        have e : nI (c0 + chgL D D1 nl m pre) + (if mvF D nl m s = (ocD D1 nl s m (yesO (D1 5) m 8) (-1)).1 then 0 else 1) = nI (c0 + chgL D D1 nl m (pre ++ [s])) := by
          unfold chgL
          rw [List.filter_append, List.length_append]
          by_cases c : mvF D nl m s = (ocD D1 nl s m (yesO (D1 5) m 8) (-1)).1
          · rw [if_pos c, List.filter_cons_of_neg (by unfold chgB; simp [c])]
            exact Int32.add_zero _
          · rw [if_neg c, List.filter_cons_of_pos (by unfold chgB; exact decide_eq_true c), nI_1]
            rfl
        rw [e, nI_1]
        refine ih (s + 1) fu D2 (pre ++ [s]) (by omega) (by omega) hp2 hF2 (by rw [q1.2 0 (by decide), h00]) (fun g hg => by rw [q1.1 33 (by decide) (by decide)]; exact hc g hg) ?_ ?_
        · unfold RowIs at hR0 ⊢
          rw [q1.2 36 (by decide), q1.1 35 (by decide) (by decide)]
          exact hR0
        · unfold WasI
          rw [q1.1 44 (by decide) (by decide)]
          exact hW)
      by_cases c : nI (mvF D nl m s).length = nI (ocD D1 nl s m (yesO (D1 5) m 8) (-1)).1.length
      · rw [if_pos c] at go
        exact wp_pos c go
      · rw [if_neg c] at go
        exact wp_neg c go
end MM
