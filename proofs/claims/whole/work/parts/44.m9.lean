/-! ===== the model: what it answers ===== -/
theorem nx_and (a b : Nat) : nI a &&& nI b = nI (a &&& b) := by
  apply Int32.toBitVec_inj.1
  show BitVec.ofNat 32 a &&& BitVec.ofNat 32 b = BitVec.ofNat 32 (a &&& b)
  apply BitVec.eq_of_getLsbD_eq
  intro i hi
  simp [hi]
def vAt (vs : List Int32) (k : Int32) : Int32 := if k < 0 then 0 else vs.getD k.toNatClampNeg 0
/-- the links that are beaten -/
def btn (D : Nat → Nat → Int32) (s : Nat) (r : Option Nat) (R : List Nat) : List Nat := R.filter (fun l => decide (nI l ≠ rsn r) && tlD D s l)
def lAt (B : List Nat) (k : Int32) : Int32 := if k < 0 then -1 else match B[k.toNatClampNeg]? with
  | some l => nI l
  | none => -1
def KepIs (D : Nat → Nat → Int32) (vs : List Int32) : Prop := D 0 41 = nI vs.length ∧ ∀ i v, vs[i]? = some v → D 40 i = v
theorem ost_len (law : Int32) (s : List Int32 × Option Nat) (p : Int32 × Nat) : (ost law s p).1.length ≤ s.1.length + 1 := by
  unfold ost
  split
  · dsimp only
    split
    · omega
    · rw [List.length_append, List.length_singleton]; omega
  · split
    · simp
    · split
      · simp
      · omega
theorem oc_len (law : Int32) : ∀ (ps : List (Int32 × Nat)) (s : List Int32 × Option Nat), (ps.foldl (ost law) s).1.length ≤ s.1.length + ps.length := by
  intro ps
  induction ps with
  | nil => intro s; exact Nat.le_refl _
  | cons p ps ih =>
    intro s
    rw [List.foldl_cons, List.length_cons]
    have h1 := ih (ost law s p)
    have h2 := ost_len law s p
    omega
theorem psD_len (D : Nat → Nat → Int32) (s : Nat) (R : List Nat) : (psD D s R).length ≤ R.length := by
  unfold psD
  rw [List.length_map]
  exact List.length_filter_le _ _
section MI
variable {E : Es} {D : Nat → Nat → Int32} {I : Tg → Nat → Int32} {am : Nat} {nn nm ng ns nl nc s m : Nat}
theorem ocD_len (hD : DI (eCu E) D nn nm ng ns nl nc) (hm : m < nm) {yes but : Int32} : (ocD D nl s m yes but).1.length ≤ 100 := by
  obtain ⟨i, r, hi, e4, hw⟩ := hD.way hm
  have hnn := hD.1.1.2
  have ewy : wy (D 1) 61 (D 4 m) = i :: r := chn_wy hnn _ 61 hw (by have := chn_len hnn hw; omega)
  have h1 := (rowK_lt (m := m) (yes := yes) (but := but) hD hw).2
  have h2 := oc_len (D 13 s) (psD D s (rowK D nl m yes but (i :: r))) ([], none)
  have h3 := psD_len D s (rowK D nl m yes but (i :: r))
  unfold ocD oc
  rw [ewy]
  have h4 : (([], none) : List Int32 × Option Nat).1.length = 0 := rfl
  omega
theorem m_outcome {Q : Int32 → Gh → Prop} (hM : ModS E am) (hD : DI (eCu E) D nn nm ng ns nl nc) {x y : Int32} (k1 : (x < 0 ∨ ¬ x < nI nm) → ∀ r, Q r (E, ds D 0 0 1, I)) (k2 : ¬ x < 0 → x < nI nm → (y < 0 ∨ ¬ y < 12) → ∀ r, Q r (E, ds D 0 0 2, I)) (k3 : ∀ m s, m < nm → x = nI m → s < 12 → y = nI s → ∀ D', FrL frA frK D D' → D' 0 0 = 0 → Q (nI (ocD D nl s m (yesO (D 5) m 8) (-1)).1.length) (E, D', I)) : Wp (f_X12_outcome (some am) x y) (E, D, I) Q := by
  unfold f_X12_outcome
  refine wm_call hM (m_isAsked hM hD (fun h => wp_pos rfl (wp_mp (k1 h 0))) (fun h1 h2 h => wp_pos rfl (wp_mp (k2 h1 h2 h 0))) (fun m s hm e1 hs e2 D' hF h0 hc hR hG => ?_))
  refine wp_neg (by decide) ?_
  refine wm_I hM rfl ?_
  rw [hG.1]
  exact wp_mp (k3 m s hm e1 hs e2 D' hF h0)
theorem m_reason {Q : Int32 → Gh → Prop} (hM : ModS E am) (hD : DI (eCu E) D nn nm ng ns nl nc) {x y : Int32} (k1 : (x < 0 ∨ ¬ x < nI nm) → ∀ r, Q r (E, ds D 0 0 1, I)) (k2 : ¬ x < 0 → x < nI nm → (y < 0 ∨ ¬ y < 12) → ∀ r, Q r (E, ds D 0 0 2, I)) (k3 : ∀ m s, m < nm → x = nI m → s < 12 → y = nI s → ∀ D', FrL frA frK D D' → D' 0 0 = 0 → Q (rsn (ocD D nl s m (yesO (D 5) m 8) (-1)).2) (E, D', I)) : Wp (f_X12_reason (some am) x y) (E, D, I) Q := by
  unfold f_X12_reason
  refine wm_call hM (m_isAsked hM hD (fun h => wp_pos rfl (wp_mp (k1 h 0))) (fun h1 h2 h => wp_pos rfl (wp_mp (k2 h1 h2 h 0))) (fun m s hm e1 hs e2 D' hF h0 hc hR hG => ?_))
  refine wp_neg (by decide) ?_
  refine wm_I hM rfl ?_
  rw [hG.2.2]
  exact wp_mp (k3 m s hm e1 hs e2 D' hF h0)
theorem m_value {Q : Int32 → Gh → Prop} (hM : ModS E am) (hD : DI (eCu E) D nn nm ng ns nl nc) {x y k : Int32} (k1 : (x < 0 ∨ ¬ x < nI nm) → ∀ r, Q r (E, ds D 0 0 1, I)) (k2 : ¬ x < 0 → x < nI nm → (y < 0 ∨ ¬ y < 12) → ∀ r, Q r (E, ds D 0 0 2, I)) (k3 : ∀ m s, m < nm → x = nI m → s < 12 → y = nI s → ∀ D', FrL frA frK D D' → D' 0 0 = 0 → Q (vAt (ocD D nl s m (yesO (D 5) m 8) (-1)).1 k) (E, D', I)) : Wp (f_X12_value (some am) x y k) (E, D, I) Q := by
  unfold f_X12_value
  refine wm_call hM (m_isAsked hM hD (fun h => wp_pos rfl (wp_mp (k1 h 0))) (fun h1 h2 h => wp_pos rfl (wp_mp (k2 h1 h2 h 0))) (fun m s hm e1 hs e2 D' hF h0 hc hR hG => ?_))
  refine wp_neg (by decide) ?_
  have k3 := k3 m s hm e1 hs e2 D' hF h0
  have hlen := ocD_len (s := s) (yes := yesO (D 5) m 8) (but := -1) hD hm
  generalize ocD D nl s m (yesO (D 5) m 8) (-1) = o at k3 hG hlen
  unfold vAt at k3
  refine wp_ite (fun c => ?_) (fun c => ?_)
  · rw [if_pos c] at k3
    exact wp_mp k3
  · rw [if_neg c] at k3
    obtain ⟨j, hj, rfl⟩ := nI_of c
    rw [nI_clamp hj] at k3
    refine wm_I hM rfl ?_
    rw [hG.1]
    refine wp_ite (fun c2 => ?_) (fun c2 => ?_)
    · have := (nI_leI (by omega) hj).mp c2
      rw [List.getD_eq_getElem?_getD, List.getElem?_eq_none this] at k3
      exact wp_mp k3
    · have hlt : j < o.1.length := Nat.lt_of_not_le fun h => c2 ((nI_leI (by omega) hj).mpr h)
      refine wm_R hM (by decide) (by decide) rfl ?_
      refine wm_a hM j rfl (by show j < 100; omega) rfl (by decide) (by decide) (by omega) ?_
      have hget : o.1[j]? = some o.1[j] := List.getElem?_eq_getElem hlt
      rw [List.getD_eq_getElem?_getD, hget] at k3
      rw [hG.2.1 j _ hget]
      exact wp_mp k3
theorem m_beaten_17 {Q : Int32 → Gh → Prop} (hM : ModS E am) (hS : AskS D ns nl) (hs : s < 12) {R : List Nat} {r : Option Nat} {x3 : Int32} (hR : RowIs D R) (h39 : D 0 39 = rsn r) (hR100 : R.length ≤ 100) (hRl : ∀ l ∈ R, l < nl) (hx3 : ¬ x3 < 0) : ∀ (suf pre : List Nat) (fu j : Nat), pre ++ suf = R → suf.length < fu → j < 2 ^ 31 → Q (lAt (btn D s r suf) (nI j)) (E, D, I) → Wp (f_X12_beaten_17 (some am) (nI s) x3 fu (nI j) (nI pre.length)) (E, D, I) Q := by
  intro suf
  induction suf with
  | nil =>
    intro pre fu j hp hf hj kk
    cases fu with
    | zero => exact absurd hf (Nat.not_lt_zero _)
    | succ fu =>
      rw [List.append_nil] at hp
      subst hp
      rw [f_X12_beaten_17]
      refine wm_I hM rfl ?_
      rw [hR.1]
      refine wp_pos ((nI_leI (by omega) (by omega)).mpr (Nat.le_refl _)) (wp_mp ?_)
      unfold lAt at kk
      rw [if_neg (nI_pos hj)] at kk
      exact kk
  | cons l suf ih =>
    intro pre fu j hp hf hj kk
    cases fu with
    | zero => exact absurd hf (Nat.not_lt_zero _)
    | succ fu =>
      rw [List.length_cons] at hf
      have hRl2 : R.length = pre.length + (suf.length + 1) := by rw [← hp, List.length_append, List.length_cons]
      have hget : R[pre.length]? = some l := by rw [← hp, List.getElem?_append_right (Nat.le_refl _), Nat.sub_self]; rfl
      have hl : l < nl := hRl l (List.mem_of_getElem? hget)
      have hl100 : l < 100 := Nat.lt_of_lt_of_le hl hS.2.1
      obtain ⟨z, hz, ez⟩ := hS.2.2.1 l hl
      have hz40 := hS.1
      have epre : pre.length + 1 = (pre ++ [l]).length := by rw [List.length_append, List.length_singleton]
      have etl : tlD D s l = bt (D 10 z) s := by unfold tlD; rw [ez, nI_clamp (by omega)]
      have go : ∀ j2, j2 < 2 ^ 31 → Q (lAt (btn D s r suf) (nI j2)) (E, D, I) → Wp (f_X12_beaten_83 (f_X12_beaten_17 (some am) (nI s) x3 fu) (some am) (nI s) x3 (nI j2) (nI pre.length)) (E, D, I) Q := fun j2 hj2 q => by
        unfold f_X12_beaten_83
        rw [nI_1, epre]
        exact ih (pre ++ [l]) fu j2 (by rw [List.append_assoc]; exact hp) (by omega) hj2 q
      rw [f_X12_beaten_17]
      refine wm_I hM rfl ?_
      rw [hR.1]
      refine wp_neg (fun e => by have := (nI_leI (by omega) (by omega)).mp e; omega) (wp_neg hx3 ?_)
      refine wm_R hM (by decide) (by decide) rfl ?_
      refine wm_a hM pre.length rfl (by show pre.length < 100; omega) rfl (by decide) (by decide) (by omega) ?_
      rw [hR.2 _ _ hget]
      refine wm_I hM rfl ?_
      rw [h39]
      refine wp_ite (fun c => ?_) (fun c => ?_)
      · refine go j hj ?_
        unfold btn at kk ⊢
        rw [List.filter_cons_of_neg (by rw [decide_eq_false (fun h => h c)]; simp)] at kk
        exact kk
      · refine wm_R hM (by decide) (by decide) rfl ?_
        refine wm_R hM (by decide) (by decide) rfl ?_
        refine wm_a hM pre.length rfl (by show pre.length < 100; omega) rfl (by decide) (by decide) (by omega) ?_
        rw [hR.2 _ _ hget]
        refine wm_a hM l rfl (by show l < 100; omega) rfl (by decide) (by decide) (by omega) ?_
        rw [ez]
        refine wm_call hM (m_tells hM (by omega) hs ?_)
        cases hb : bt (D 10 z) s with
        | false =>
          refine wp_pos rfl (go j hj ?_)
          unfold btn at kk ⊢
          rw [List.filter_cons_of_neg (by rw [etl, hb]; simp)] at kk
          exact kk
        | true =>
          have ebt : btn D s r (l :: suf) = l :: btn D s r suf := by
            unfold btn
            rw [List.filter_cons_of_pos (by rw [etl, hb, decide_eq_true c]; rfl)]
          rw [ebt] at kk
          refine wp_neg (by decide) ?_
          cases j with
          | zero =>
            refine wp_pos rfl ?_
            refine wm_R hM (by decide) (by decide) rfl ?_
            refine wm_a hM pre.length rfl (by show pre.length < 100; omega) rfl (by decide) (by decide) (by omega) ?_
            rw [hR.2 _ _ hget]
            exact wp_mp kk
          | succ j =>
            refine wp_neg (nI_ne0 (by omega) hj) ?_
            rw [pk_m1]
            refine go j (by omega) ?_
            unfold lAt at kk ⊢
            rw [if_neg (nI_pos hj), nI_clamp hj, List.getElem?_cons_succ] at kk
            rw [if_neg (nI_pos (by omega)), nI_clamp (by omega)]
            exact kk
theorem m_beaten {Q : Int32 → Gh → Prop} (hM : ModS E am) (hD : DI (eCu E) D nn nm ng ns nl nc) {x y k : Int32} (k1 : (x < 0 ∨ ¬ x < nI nm) → ∀ r, Q r (E, ds D 0 0 1, I)) (k2 : ¬ x < 0 → x < nI nm → (y < 0 ∨ ¬ y < 12) → ∀ r, Q r (E, ds D 0 0 2, I)) (k3 : ∀ m s, m < nm → x = nI m → s < 12 → y = nI s → ∀ D', FrL frA frK D D' → D' 0 0 = 0 → Q (lAt (btn D s (ocD D nl s m (yesO (D 5) m 8) (-1)).2 (rowK D nl m (yesO (D 5) m 8) (-1) (wy (D 1) 61 (D 4 m)))) k) (E, D', I)) : Wp (f_X12_beaten (some am) x y k) (E, D, I) Q := by
  unfold f_X12_beaten
  refine wm_call hM (m_isAsked hM hD (fun h => wp_pos rfl (wp_mp (k1 h 0))) (fun h1 h2 h => wp_pos rfl (wp_mp (k2 h1 h2 h 0))) (fun m s hm e1 hs e2 D' hF h0 hc hR hG => ?_))
  refine wp_neg (by decide) ?_
  have k5 := k3 m s hm e1 hs e2 D' hF h0
  obtain ⟨i, r, hi, e4, hw⟩ := hD.way hm
  have hnn := hD.1.1.2
  have ewy : wy (D 1) 61 (D 4 m) = i :: r := chn_wy hnn _ 61 hw (by have := chn_len hnn hw; omega)
  have hrow := rowK_lt (m := m) (yes := yesO (D 5) m 8) (but := -1) hD hw
  rw [ewy] at k5 hR
  have ebt : ∀ R, btn D' s (ocD D nl s m (yesO (D 5) m 8) (-1)).2 R = btn D s (ocD D nl s m (yesO (D 5) m 8) (-1)).2 R := fun R => by
    unfold btn tlD
    rw [hF.1 10 (by decide) (by decide), hF.1 25 (by decide) (by decide)]
  by_cases c : k < 0
  · have hl : (rowK D nl m (yesO (D 5) m 8) (-1) (i :: r)).length ≤ 100 := hrow.2
    have k4 : Q (-1) (E, D', I) := by
      unfold lAt at k5
      rw [if_pos c] at k5
      exact k5
    show Wp (f_X12_beaten_17 (some am) y k (99999 + 1) k 0) (E, D', I) Q
    rw [f_X12_beaten_17]
    refine wm_I hM rfl ?_
    exact wp_ite (fun _ => wp_mp k4) (fun _ => wp_pos c (wp_mp k4))
  · subst e2
    obtain ⟨j, hj, rfl⟩ := nI_of c
    rw [← ebt] at k5
    exact m_beaten_17 hM (hD.askS hF) hs hR hG.2.2 hrow.2 hrow.1 c (rowK D nl m (yesO (D 5) m 8) (-1) (i :: r)) [] fuL j rfl (fu_ok (by have := hrow.2; omega)) hj k5
theorem m_keepsThem {Q : Unit → Gh → Prop} (hM : ModS E am) {o : List Int32 × Option Nat} (hG : GotIs D o) (hl : o.1.length ≤ 100) (kk : ∀ D', FrL [40] [41] D D' → KepIs D' o.1 → Q () (E, D', I)) : Wp (f_X12_keepsThem (some am)) (E, D, I) Q := by
  have key : ∀ (d i fu : Nat) (D' : Nat → Nat → Int32), d + i = o.1.length → d < fu → FrL [40] [41] D D' → D' 0 41 = nI o.1.length → (∀ j v, j < i → o.1[j]? = some v → D' 40 j = v) → Wp (f_X12_keepsThem_10 (some am) fu (nI i)) (E, D', I) Q := by
    intro d
    induction d with
    | zero =>
      intro i fu D' hi hf hF h41 h40
      cases fu with
      | zero => exact absurd hf (Nat.not_lt_zero _)
      | succ fu =>
        rw [f_X12_keepsThem_10]
        refine wm_I hM rfl ?_
        rw [hF.2 38 (by decide), hG.1]
        refine wp_pos ((nI_leI (by omega) (by omega)).mpr (by omega)) (wp_mp (kk D' hF ⟨h41, fun j v hv => h40 j v ?_ hv⟩))
        have := (List.getElem?_eq_some_iff.mp hv).1
        omega
    | succ d ih =>
      intro i fu D' hi hf hF h41 h40
      cases fu with
      | zero => exact absurd hf (Nat.not_lt_zero _)
      | succ fu =>
        rw [f_X12_keepsThem_10]
        refine wm_I hM rfl ?_
        rw [hF.2 38 (by decide), hG.1]
        refine wp_neg (fun e => by have := (nI_leI (by omega) (by omega)).mp e; omega) ?_
        refine wm_R hM (by decide) (by decide) rfl ?_
        refine wm_R hM (by decide) (by decide) rfl ?_
        refine wm_a hM i rfl (by show i < 100; omega) rfl (by decide) (by decide) (by omega) ?_
        rw [hF.1 37 (by decide) (by decide)]
        refine wm_s hM i rfl (by show i < 100; omega) rfl (by decide) (by decide) (by omega) ?_
        rw [nI_1]
        refine ih (i + 1) fu _ (by omega) (by omega) (hF.row (by decide) (by decide)) (by rw [ds_ne (by omega)]; exact h41) (fun j v hj hv => ?_)
        by_cases e : j = i
        · subst e
          rw [ds_eq]
          exact hG.2.1 j v hv
        · rw [ds_ne (by omega)]
          exact h40 j v (by omega) hv
  unfold f_X12_keepsThem
  refine wm_I hM rfl ?_
  rw [hG.1]
  refine wm_P hM rfl ?_
  exact key o.1.length 0 fuL _ (by omega) (fu_ok (by omega)) (FrL.rf.sc (by decide)) ds_eq (fun j v hj _ => absurd hj (Nat.not_lt_zero _))
theorem m_isAsKept {Q : Int32 → Gh → Prop} (hM : ModS E am) {o : List Int32 × Option Nat} {ks : List Int32} (hG : GotIs D o) (hK : KepIs D ks) (hl : o.1.length ≤ 100) (hl2 : ks.length ≤ 100) (kk : Q (b2i (decide (ks = o.1))) (E, D, I)) : Wp (f_X12_isAsKept (some am)) (E, D, I) Q := by
  have no : ks ≠ o.1 → ∀ (fu : Nat) (x : Int32), 0 < fu → Wp (f_X12_isAsKept_19 (some am) fu 0 x) (E, D, I) Q := fun h fu x hf => by
    cases fu with
    | zero => exact absurd hf (Nat.not_lt_zero _)
    | succ fu =>
      rw [decide_eq_false h] at kk
      rw [f_X12_isAsKept_19]
      refine wm_I hM rfl ?_
      exact wp_ite (fun _ => wp_rz (.inl rfl) kk) (fun _ => wp_pos rfl (wp_rz (.inl rfl) kk))
  have key : ks.length = o.1.length → ∀ (d i fu : Nat), d + i = o.1.length → d + 1 < fu → (∀ j, j < i → ks[j]? = o.1[j]?) → Wp (f_X12_isAsKept_19 (some am) fu 1 (nI i)) (E, D, I) Q := by
    intro hll d
    induction d with
    | zero =>
      intro i fu hi hf hj
      cases fu with
      | zero => exact absurd hf (Nat.not_lt_zero _)
      | succ fu =>
        rw [f_X12_isAsKept_19]
        refine wm_I hM rfl ?_
        rw [hG.1]
        refine wp_pos ((nI_leI (by omega) (by omega)).mpr (by omega)) ?_
        have e : ks = o.1 := List.ext_getElem? fun j => by
          by_cases hj2 : j < i
          · exact hj j hj2
          · rw [List.getElem?_eq_none (by omega), List.getElem?_eq_none (by omega)]
        rw [decide_eq_true e] at kk
        exact wp_rz (.inr rfl) kk
    | succ d ih =>
      intro i fu hi hf hj
      cases fu with
      | zero => exact absurd hf (Nat.not_lt_zero _)
      | succ fu =>
        rw [f_X12_isAsKept_19]
        refine wm_I hM rfl ?_
        rw [hG.1]
        refine wp_neg (fun e => by have := (nI_leI (by omega) (by omega)).mp e; omega) (wp_neg (by decide) ?_)
        have g1 : o.1[i]? = some o.1[i] := List.getElem?_eq_getElem (by omega)
        have g2 : ks[i]? = some ks[i] := List.getElem?_eq_getElem (by omega)
        refine wm_R hM (by decide) (by decide) rfl ?_
        refine wm_a hM i rfl (by show i < 100; omega) rfl (by decide) (by decide) (by omega) ?_
        refine wm_R hM (by decide) (by decide) rfl ?_
        refine wm_a hM i rfl (by show i < 100; omega) rfl (by decide) (by decide) (by omega) ?_
        rw [hK.2 i _ g2, hG.2.1 i _ g1]
        refine wp_ite (fun e => ?_) (fun e => ?_)
        · unfold f_X12_isAsKept_51
          rw [nI_1]
          refine ih (i + 1) fu (by omega) (by omega) (fun j hj2 => ?_)
          by_cases ej : j = i
          · subst ej; rw [g1, g2, e]
          · exact hj j (by omega)
        · unfold f_X12_isAsKept_51
          refine no (fun h => e ?_) fu _ (by omega)
          have : ks[i]? = o.1[i]? := by rw [h]
          rw [g1, g2] at this
          exact Option.some.inj this
  unfold f_X12_isAsKept
  refine wm_I hM rfl ?_
  refine wm_I hM rfl ?_
  rw [hG.1, hK.1]
  by_cases e : ks.length = o.1.length
  · exact wp_pos (by rw [e]) (key e o.1.length 0 fuL (by omega) (fu_ok (by omega)) (fun j hj => absurd hj (Nat.not_lt_zero _)))
  · refine wp_neg (fun h => e ((nI_eq (by omega) (by omega)).mp h)) ?_
    exact no (fun h => e (by rw [h])) fuL 0 (fu_ok (by omega))
end MI
