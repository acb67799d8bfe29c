/-! ===== the model: asking ===== -/
section MH
variable {E : Es} {D : Nat → Nat → Int32} {I : Tg → Nat → Int32} {am : Nat} {nn nm ng ns nl nc s m : Nat}
/-- all that holds of the model -/
def DI (cap : Nat) (D : Nat → Nat → Int32) (nn nm ng ns nl nc : Nat) : Prop := DTree D nn ∧ DMach D nn nm ∧ DGrp D nm ng ∧ DSet D ns ∧ DLnk cap D nn ng ns nl nc ∧ ∃ tp, DTap D tp
theorem DI.askL {D' : Nat → Nat → Int32} (h : DI (eCu E) D nn nm ng ns nl nc) {ks : List Nat} (hF : FrL [23, 33, 34, 35, 37, 40, 44] [0, 36, 38, 39, 41, 42, 43] D D') (hc : ∀ g, g < ng → Cl (D 8) ng g (D' 33 g)) : AskL E D' nn ng ns nl nc := by
  obtain ⟨h1, h2, h3, h4, h5, h6⟩ := h
  have h7 : AskL E (fun j => if j = 33 then D' 33 else D j) nn ng ns nl nc := ⟨h1, h5, h3.1, h3.2.2.2.2.2, hc⟩
  unfold AskL DTree DLnk LnkOk at h7 ⊢
  simp only [hF.1 1 (by decide) (by decide), hF.1 2 (by decide) (by decide), hF.1 8 (by decide) (by decide), hF.1 21 (by decide) (by decide), hF.1 24 (by decide) (by decide), hF.1 25 (by decide) (by decide), hF.1 26 (by decide) (by decide), hF.1 27 (by decide) (by decide), hF.1 28 (by decide) (by decide), hF.1 29 (by decide) (by decide), hF.1 30 (by decide) (by decide), hF.1 31 (by decide) (by decide), hF.2 3 (by decide), hF.2 22 (by decide), hF.2 32 (by decide)]
  exact h7
theorem DI.askS {D' : Nat → Nat → Int32} {cap : Nat} (h : DI cap D nn nm ng ns nl nc) (hF : FrL [23, 33, 34, 35, 37, 40, 44] [0, 36, 38, 39, 41, 42, 43] D D') : AskS D' ns nl := by
  obtain ⟨h1, h2, h3, h4, h5, h6⟩ := h
  have h7 : AskS D ns nl := ⟨h4.1, h5.1, fun l hl => (h5.2.2.2.1 l hl).2.1, h4.2.2.2.2.2⟩
  exact h7.fr (hF.1 25 (by decide) (by decide)) (hF.1 13 (by decide) (by decide))
/-- the way of a machine -/
theorem DI.way {cap : Nat} (h : DI cap D nn nm ng ns nl nc) (hm : m < nm) : ∃ i r, i < nn ∧ D 4 m = nI i ∧ Chn (D 1) nn (i :: r) (D 4 m) := by
  obtain ⟨i, hi, e⟩ := h.2.1.2.2.1 m hm
  obtain ⟨w, hw⟩ := h.1.2.2.1 i hi
  rw [e]
  cases w with
  | nil => exact absurd hw (nI_ne_m1 (by have := h.1.1.2; omega))
  | cons x r =>
    have e2 : i = x := (nI_eq (by have := h.1.1.2; omega) (by have := hw.2.1; have := h.1.1.2; omega)).mp hw.1
    subst e2
    exact ⟨i, r, hi, rfl, hw⟩
theorem kpB_fr {D' : Nat → Nat → Int32} (hF : FrL [23, 33, 34, 35, 37, 40, 44] [0, 36, 38, 39, 41, 42, 43] D D') {m : Nat} {yes but : Int32} {w : List Nat} : kpB D' m yes but w = kpB D m yes but w := by
  funext l
  unfold kpB
  rw [hF.1 8 (by decide) (by decide), hF.1 6 (by decide) (by decide), hF.1 21 (by decide) (by decide), hF.1 29 (by decide) (by decide), hF.1 30 (by decide) (by decide)]
theorem rowK_fr {D' : Nat → Nat → Int32} (hF : FrL [23, 33, 34, 35, 37, 40, 44] [0, 36, 38, 39, 41, 42, 43] D D') {nl m : Nat} {yes but : Int32} {w : List Nat} : rowK D' nl m yes but w = rowK D nl m yes but w := by
  unfold rowK
  rw [kpB_fr hF, hF.1 2 (by decide) (by decide), hF.1 31 (by decide) (by decide), hF.1 24 (by decide) (by decide), hF.1 27 (by decide) (by decide), hF.1 28 (by decide) (by decide)]
theorem psD_fr {D' : Nat → Nat → Int32} (hF : FrL [23, 33, 34, 35, 37, 40, 44] [0, 36, 38, 39, 41, 42, 43] D D') {s : Nat} {R : List Nat} : psD D' s R = psD D s R := by
  have h1 : tlD D' s = tlD D s := by
    funext l
    unfold tlD
    rw [hF.1 10 (by decide) (by decide), hF.1 25 (by decide) (by decide)]
  have h2 : vlD D' s = vlD D s := by
    funext l
    unfold vlD
    rw [hF.1 11 (by decide) (by decide), hF.1 25 (by decide) (by decide)]
  unfold psD
  rw [h1, h2]
/-- the outcome, as it is told -/
noncomputable def ocD (D : Nat → Nat → Int32) (nl s m : Nat) (yes but : Int32) : List Int32 × Option Nat := oc (D 13 s) (psD D s (rowK D nl m yes but (wy (D 1) 61 (D 4 m))))
theorem rowK_lt (h : DI (eCu E) D nn nm ng ns nl nc) {yes but : Int32} {w : List Nat} {v : Int32} (hw : Chn (D 1) nn w v) : (∀ l ∈ rowK D nl m yes but w, l < nl) ∧ (rowK D nl m yes but w).length ≤ 100 := by
  obtain ⟨h1, h2, h3, h4, h5, h6⟩ := h
  rw [rowK_eq]
  refine ⟨fun l hl => row_lt (srt_lt h5.1 h5.2.2.2.2.2.1) l (List.mem_filter.mp hl).1, ?_⟩
  have q1 := row_len h1 h5 hw
  have q2 := List.length_filter_le (kpB D m yes but w) (rowD D nl w)
  have := h5.1
  omega
/-- the frame of asking: below is kept -/
abbrev frA : List Nat := [23, 33, 34, 35, 37, 40, 44]
abbrev frK : List Nat := [0, 36, 38, 39, 41, 42, 43]
/-- make a row, then its outcome -/
theorem m_made {α : Type} {Q : α → Gh → Prop} {K : Mo α} (hM : ModS E am) (hD : DI (eCu E) D nn nm ng ns nl nc) (hm : m < nm) (hs : s < 12) {yes but : Int32} {D' : Nat → Nat → Int32} (hF : FrL frA frK D D') (hc : ∀ g, g < ng → Cl (D 8) ng g (D' 33 g)) (kk : ∀ D'', FrL [23, 34, 35, 37] [36, 38, 39] D' D'' → RowIs D'' (rowK D nl m yes but (wy (D 1) 61 (D 4 m))) → GotIs D'' (ocD D nl s m yes but) → Wp K (E, D'', I) Q) : Wp (mb (mo 15 (some am) (f_X12_makes (some am) (nI m) yes but)) (fun _ => mb (mo 15 (some am) (f_X12_outcomes (some am) (nI s))) (fun _ => K))) (E, D', I) Q := by
  obtain ⟨i, r, hi, e4, hw⟩ := hD.way hm
  have hnn := hD.1.1.2
  have hwl := chn_len hnn hw
  have ewy : wy (D 1) 61 (D 4 m) = i :: r := chn_wy hnn _ 61 hw (by omega)
  have hm60 : m < 60 := by have := hD.2.1.1; omega
  have hrow := rowK_lt (m := m) (yes := yes) (but := but) hD hw
  refine wm_call hM (m_makes (D := D') (w := i :: r) hM (hD.askL (ks := []) hF hc) hm60 ?_ (by simp) (fun D2 q1 q2 => ?_))
  · rw [hF.1 1 (by decide) (by decide), hF.1 4 (by decide) (by decide)]
    exact hw
  · rw [rowK_fr hF] at q2
    have hF2 : FrL frA frK D D2 := (hF.tr q1).wk (by decide) (by decide)
    refine wm_call hM (m_outcomes (D := D2) hM (hD.askS hF2) hs q2 hrow.2 hrow.1 (fun D3 r1 r2 => ?_))
    rw [psD_fr hF2, hF2.1 13 (by decide) (by decide)] at r2
    refine kk D3 ((q1.tr r1).wk (by decide) (by decide)) ?_ ?_
    · rw [ewy]
      unfold RowIs at q2 ⊢
      rw [r1.2 36 (by decide), r1.1 35 (by decide) (by decide)]
      exact q2
    · unfold ocD
      rw [ewy]
      exact r2
theorem m_isAsked {Q : Int32 → Gh → Prop} (hM : ModS E am) (hD : DI (eCu E) D nn nm ng ns nl nc) {x y : Int32} (k1 : (x < 0 ∨ ¬ x < nI nm) → Q 0 (E, ds D 0 0 1, I)) (k2 : ¬ x < 0 → x < nI nm → (y < 0 ∨ ¬ y < 12) → Q 0 (E, ds D 0 0 2, I)) (k3 : ∀ m s, m < nm → x = nI m → s < 12 → y = nI s → ∀ D', FrL frA frK D D' → D' 0 0 = 0 → (∀ g, g < ng → Cl (D 8) ng g (D' 33 g)) → RowIs D' (rowK D nl m (yesO (D 5) m 8) (-1) (wy (D 1) 61 (D 4 m))) → GotIs D' (ocD D nl s m (yesO (D 5) m 8) (-1)) → Q 1 (E, D', I)) : Wp (f_X12_isAsked (some am) x y) (E, D, I) Q := by
  have hm7 := hD.2.1.2.1
  have hnm := hD.2.1.1
  unfold f_X12_isAsked
  refine wm_P hM rfl ?_
  refine wm_I hM rfl ?_
  rw [ds_ne (by omega), hm7]
  refine wm_call hM (m_none hM ds_eq (fun h1 h2 => ?_) (fun h => ?_))
  · refine wp_pos rfl ?_
    obtain ⟨m, hm, rfl⟩ := nI_of h1
    have hm2 : m < nm := (nI_ltI hm (by omega)).mp h2
    refine wp_mb (m_isSetting (fun s hs e => ?_) (fun h => ?_))
    · subst e
      refine wp_neg (by decide) ?_
      unfold f_X12_isAsked_30
      refine wm_call hM (m_bad0 hM ?_)
      refine wp_pos rfl ?_
      refine wm_call hM (m_groupsAnew (D := ds D 0 0 0) hM (ng := ng) (by rw [ds_ne (by omega)]; exact hD.2.2.1.2.1) hD.2.2.1.1 (fun D1 q1 q2 => ?_))
      rw [ds_row (by decide)] at q2
      have hF : FrL frA frK D D1 := ⟨fun j h0 hj => by rw [q1 j (fun e => hj (by rw [e]; decide)), ds_row h0], fun k hk => by rw [q1 0 (by decide), ds_ne (fun e => hk (by rw [e.2]; decide))]⟩
      have h00 : D1 0 0 = 0 := by rw [q1 0 (by decide), ds_eq]
      refine wm_call hM (m_yesOf hM (by omega) ?_)
      rw [hF.1 5 (by decide) (by decide)]
      refine m_made (K := rz .boolean 1) hM hD hm2 hs hF q2 (fun D2 r1 r2 r3 => ?_)
      refine wp_rz (.inr rfl) (k3 m s hm2 rfl hs rfl D2 ((hF.tr r1).wk (by decide) (by decide)) ?_ ?_ r2 r3)
      · rw [r1.2 0 (by decide), h00]
      · intro g hg
        rw [r1.1 33 (by decide) (by decide)]
        exact q2 g hg
    · refine wp_pos rfl ?_
      unfold f_X12_isAsked_30
      refine wm_call hM (m_bad1 hM ?_)
      refine wp_neg (by decide) ?_
      rw [ds_ds]
      exact wp_rz (.inl rfl) (k2 h1 h2 h)
  · refine wp_neg (by decide) ?_
    rw [ds_ds]
    exact wp_rz (.inl rfl) (k1 h)
end MH
