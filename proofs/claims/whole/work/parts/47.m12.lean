/-! ===== the model: quarrels, moves ===== -/
def qrL (D : Nat → Nat → Int32) (a : Nat) (bs : List Nat) : List (Nat × Nat) := (bs.filter (unlB D a)).map (fun b => (a, b))
def qrM (D : Nat → Nat → Int32) (nl : Nat) (as : List Nat) : List (Nat × Nat) := as.flatMap (fun a => qrL D a (List.range' (a + 1) (nl - (a + 1))))
theorem qrM_len {D : Nat → Nat → Int32} {nl : Nat} : ∀ as : List Nat, (qrM D nl as).length ≤ nl * as.length := by
  intro as
  induction as with
  | nil => exact Nat.le_refl _
  | cons a as ih =>
    unfold qrM at ih ⊢
    rw [List.flatMap_cons, List.length_append, List.length_cons, Nat.mul_succ]
    have : (qrL D a (List.range' (a + 1) (nl - (a + 1)))).length ≤ nl := by
      unfold qrL
      rw [List.length_map]
      exact Nat.le_trans (List.length_filter_le _ _) (by rw [List.length_range']; omega)
    omega
section ML
variable {E : Es} {D : Nat → Nat → Int32} {I : Tg → Nat → Int32} {am : Nat} {nn nm ng ns nl nc s m : Nat} {Q : Int32 → Gh → Prop}
def Qdone (Q : Int32 → Gh → Prop) (E : Es) (D : Nat → Nat → Int32) (I : Tg → Nat → Int32) (k : Nat) (L : List (Nat × Nat)) : Prop := ∀ D', FrL [] [0, 45, 46] D D' → D' 0 0 = 0 → (∀ p, L[k]? = some p → D' 0 45 = nI p.1 → D' 0 46 = nI p.2 → Q (nI (k + 1)) (E, D', I)) ∧ (L.length ≤ k → Q (nI L.length) (E, D', I))
theorem unlB_fr {D' : Nat → Nat → Int32} (hF : FrL [] [0, 45, 46] D D') (a b : Nat) : unlB D' a b = unlB D a b := by
  unfold unlB tlD vlD
  rw [hF.1 28 (by decide) (by decide), hF.1 24 (by decide) (by decide), hF.1 27 (by decide) (by decide), hF.1 26 (by decide) (by decide), hF.1 13 (by decide) (by decide), hF.1 10 (by decide) (by decide), hF.1 25 (by decide) (by decide), hF.1 11 (by decide) (by decide)]
theorem m_looks_17 (hM : ModS E am) (hS : AskS D ns nl) (hnl : D 0 32 = nI nl) {a : Nat} (ha : a < nl) {k : Nat} (hk : k ≤ 100000) {k4 : Int32 → Int32 → Mo Int32} {L : List (Nat × Nat)} (hdone : Qdone Q E D I k L) (done : List (Nat × Nat)) {rest : List (Nat × Nat)} (hL : done ++ qrL D a (List.range' (a + 1) (nl - (a + 1))) ++ rest = L) (hLn : L.length ≤ 10000) (kk : ∀ D' n, FrL [] [0, 45, 46] D D' → D' 0 0 = 0 → n = (done ++ qrL D a (List.range' (a + 1) (nl - (a + 1)))).length → n ≤ k → Wp (k4 (nI n) (nI (a + 1))) (E, D', I) Q) : ∀ (d b fu : Nat) (D' : Nat → Nat → Int32) (pre : List Nat), d + b = nl → d < fu → List.range' (a + 1) (nl - (a + 1)) = pre ++ List.range' b d → (done ++ qrL D a pre).length ≤ k → FrL [] [0, 45, 46] D D' → D' 0 0 = 0 → Wp (f_X12_looks_17 k4 (some am) (nI k) (nI a) fu (nI (done ++ qrL D a pre).length) (nI b)) (E, D', I) Q := by
  have hl100 := hS.2.1
  intro d
  induction d with
  | zero =>
    intro b fu D' pre hs hf ha hlen hF h00
    cases fu with
    | zero => exact absurd hf (Nat.not_lt_zero _)
    | succ fu =>
      rw [f_X12_looks_17]
      refine wm_I hM rfl ?_
      rw [hF.2 32 (by decide), hnl]
      refine wp_pos ((nI_leI (by omega) (by omega)).mpr (by omega)) ?_
      rw [show List.range' b 0 = [] from rfl, List.append_nil] at ha
      rw [nI_1]
      rw [← ha] at hlen ⊢
      exact kk D' _ hF h00 rfl hlen
  | succ d ih =>
    intro b fu D' pre hs hf ha hlen hF h00
    cases fu with
    | zero => exact absurd hf (Nat.not_lt_zero _)
    | succ fu =>
      have ha2 : List.range' (a + 1) (nl - (a + 1)) = (pre ++ [b]) ++ List.range' (b + 1) d := by rw [ha, show List.range' b (d + 1) = b :: List.range' (b + 1) d from rfl, List.append_assoc]; rfl
      have hLa : qrL D a (pre ++ [b]) = qrL D a pre ++ qrL D a [b] := by unfold qrL; rw [List.filter_append, List.map_append]
      have hS' : AskS D' ns nl := hS.fr (hF.1 25 (by decide) (by decide)) (hF.1 13 (by decide) (by decide))
      rw [f_X12_looks_17]
      refine wm_I hM rfl ?_
      rw [hF.2 32 (by decide), hnl]
      refine wp_neg (fun e => by have := (nI_leI (by omega) (by omega)).mp e; omega) ?_
      refine wm_call hM (m_areUnlike hM hS' (by omega) (by omega) ?_)
      rw [unlB_fr hF]
      cases hr : unlB D a b with
      | false =>
        refine wp_pos rfl ?_
        unfold f_X12_looks_62
        have e : qrL D a (pre ++ [b]) = qrL D a pre := by
          rw [hLa]
          unfold qrL
          rw [List.filter_cons_of_neg (by rw [hr]; decide)]
          simp
        have := ih (b + 1) fu D' (pre ++ [b]) (by omega) (by omega) ha2 (by rw [e]; exact hlen) hF h00
        rw [e] at this
        rw [nI_1]
        exact this
      | true =>
        have eL : qrL D a (pre ++ [b]) = qrL D a pre ++ [(a, b)] := by
          rw [hLa]
          congr 1
          unfold qrL
          rw [List.filter_cons_of_pos hr]
          rfl
        have elen : (done ++ qrL D a (pre ++ [b])).length = (done ++ qrL D a pre).length + 1 := by rw [eL, ← List.append_assoc, List.length_append (as := done ++ qrL D a pre), List.length_singleton]
        refine wp_neg (by decide) ?_
        refine wm_P hM rfl ?_
        refine wm_P hM rfl ?_
        have hF6 : FrL [] [0, 45, 46] D (ds (ds D' 0 45 (nI a)) 0 46 (nI b)) := (hF.sc (by decide)).sc (by decide)
        have hb720 : (done ++ qrL D a pre).length ≤ 10000 := by
          have : (done ++ qrL D a (List.range' (a + 1) (nl - (a + 1))) ++ rest).length ≤ 10000 := by rw [hL]; exact hLn
          rw [ha] at this
          unfold qrL at this ⊢
          rw [List.filter_append, List.map_append] at this
          simp only [List.length_append, List.length_map] at this ⊢
          omega
        rw [nI_1, nI_1]
        by_cases ek : (done ++ qrL D a pre).length = k
        · refine wp_pos (by rw [ek]) (wp_mp ?_)
          rw [ek]
          refine ((hdone _ hF6 (by rw [ds_ne (by decide), ds_ne (by decide), h00])).1 (a, b) ?_ (by rw [ds_ne (by decide), ds_eq]) ds_eq)
          rw [← hL, ha2]
          have : qrL D a ((pre ++ [b]) ++ List.range' (b + 1) d) = qrL D a pre ++ ((a, b) :: qrL D a (List.range' (b + 1) d)) := by
            have : qrL D a ((pre ++ [b]) ++ List.range' (b + 1) d) = qrL D a (pre ++ [b]) ++ qrL D a (List.range' (b + 1) d) := by unfold qrL; rw [List.filter_append, List.map_append]
            rw [this, eL, List.append_assoc]
            rfl
          rw [this, ← List.append_assoc, List.append_assoc (done ++ qrL D a pre), List.getElem?_append_right (by omega), ek, Nat.sub_self]
          rfl
        · refine wp_neg (fun h => ek ?_) ?_
          · have := (nI_eq (by omega) (by omega)).mp h
            omega
          · unfold f_X12_looks_62
            have := ih (b + 1) fu _ (pre ++ [b]) (by omega) (by omega) ha2 (by rw [elen]; omega) hF6 (by rw [ds_ne (by decide), ds_ne (by decide), h00])
            rw [elen] at this
            rw [nI_1]
            exact this
theorem m_looks_4 (hM : ModS E am) (hS : AskS D ns nl) (hnl : D 0 32 = nI nl) {k : Nat} (hk : k ≤ 100000) (hdone : Qdone Q E D I k (qrM D nl (List.range' 0 nl))) : ∀ (d a fu : Nat) (D' : Nat → Nat → Int32) (done : List (Nat × Nat)), d + a = nl → d < fu → done ++ qrM D nl (List.range' a d) = qrM D nl (List.range' 0 nl) → done.length ≤ k → FrL [] [0, 45, 46] D D' → D' 0 0 = 0 → Wp (f_X12_looks_4 (some am) (nI k) fu (nI done.length) (nI a)) (E, D', I) Q := by
  have hl100 := hS.2.1
  have hLn : (qrM D nl (List.range' 0 nl)).length ≤ 10000 := by
    have h1 := qrM_len (D := D) (nl := nl) (List.range' 0 nl)
    rw [List.length_range'] at h1
    have h2 : nl * nl ≤ 100 * 100 := Nat.mul_le_mul hl100 hl100
    omega
  intro d
  induction d with
  | zero =>
    intro a fu D' done hm hf hL hlen hF h00
    cases fu with
    | zero => exact absurd hf (Nat.not_lt_zero _)
    | succ fu =>
      rw [f_X12_looks_4]
      refine wm_I hM rfl ?_
      rw [hF.2 32 (by decide), hnl]
      refine wp_pos ((nI_leI (by omega) (by omega)).mpr (by omega)) (wp_mp ?_)
      rw [show List.range' a 0 = [] from rfl, show qrM D nl [] = [] from rfl, List.append_nil] at hL
      rw [hL] at hlen ⊢
      exact (hdone D' hF h00).2 hlen
  | succ d ih =>
    intro a fu D' done hm hf hL hlen hF h00
    cases fu with
    | zero => exact absurd hf (Nat.not_lt_zero _)
    | succ fu =>
      have hL2 : done ++ qrL D a (List.range' (a + 1) (nl - (a + 1))) ++ qrM D nl (List.range' (a + 1) d) = qrM D nl (List.range' 0 nl) := by
        rw [← hL, show List.range' a (d + 1) = a :: List.range' (a + 1) d from rfl]
        unfold qrM
        rw [List.flatMap_cons, List.append_assoc]
      rw [f_X12_looks_4]
      refine wm_I hM rfl ?_
      rw [hF.2 32 (by decide), hnl]
      refine wp_neg (fun e => by have := (nI_leI (by omega) (by omega)).mp e; omega) ?_
      rw [nI_1]
      have nx : ∀ D2 n, FrL [] [0, 45, 46] D D2 → D2 0 0 = 0 → n = (done ++ qrL D a (List.range' (a + 1) (nl - (a + 1)))).length → n ≤ k → Wp (f_X12_looks_4 (some am) (nI k) fu (nI n) (nI (a + 1))) (E, D2, I) Q := fun D2 n q1 q2 q4 q5 => by
        subst q4
        exact ih (a + 1) fu D2 _ (by omega) (by omega) hL2 q5 q1 q2
      have go := m_looks_17 hM hS hnl (a := a) (by omega) hk hdone done hL2 hLn nx d (a + 1) fuL D' [] (by omega) (fu_ok (by omega)) (by rw [show nl - (a + 1) = d by omega]; rfl)
      rw [show qrL D a [] = [] from rfl, List.append_nil] at go
      exact go hlen hF h00
abbrev qrD (D : Nat → Nat → Int32) (nl : Nat) : List (Nat × Nat) := qrM D nl (List.range' 0 nl)
theorem qrD_len (h : nl ≤ 100) : (qrD D nl).length ≤ 10000 := by
  have h1 := qrM_len (D := D) (nl := nl) (List.range' 0 nl)
  rw [List.length_range'] at h1
  have h2 : nl * nl ≤ 100 * 100 := Nat.mul_le_mul h h
  unfold qrD
  omega
theorem m_looks (hM : ModS E am) (hS : AskS D ns nl) (hnl : D 0 32 = nI nl) {k : Nat} (hk : k ≤ 100000) (hdone : Qdone Q E D I k (qrD D nl)) : Wp (f_X12_looks (some am) (nI k)) (E, ds D 0 0 0, I) Q := by
  unfold f_X12_looks
  have := hS.2.1
  exact m_looks_4 hM hS hnl hk hdone nl 0 fuL _ [] (by omega) (fu_ok (by omega)) rfl (Nat.zero_le _) (FrL.rf.sc (by decide)) ds_eq
theorem m_quarrels (hM : ModS E am) (hS : AskS D ns nl) (hnl : D 0 32 = nI nl) (k3 : ∀ D', FrL [] [0, 45, 46] D D' → D' 0 0 = 0 → Q (nI (qrD D nl).length) (E, D', I)) : Wp (f_X12_quarrels (some am)) (E, D, I) Q := by
  unfold f_X12_quarrels
  refine wm_P hM rfl ?_
  refine wm_call hM (m_looks (k := 100000) hM hS hnl (by omega) (fun D' hF h0 => ⟨fun p hp _ _ => ?_, fun _ => wp_mp (k3 D' hF h0)⟩))
  have := (List.getElem?_eq_some_iff.mp hp).1
  have := qrD_len (D := D) hS.2.1
  omega
theorem m_quarrel (hM : ModS E am) (hS : AskS D ns nl) (hnl : D 0 32 = nI nl) {k w : Int32} (k2 : (w < 0 ∨ ¬ w < 2) → ∀ r, Q r (E, ds D 0 0 1, I)) (k3 : ¬ w < 0 → w < 2 → ∀ D', FrL [] [0, 45, 46] D D' → D' 0 0 = 0 → Q (pAt (qrD D nl) k w) (E, D', I)) : Wp (f_X12_quarrel (some am) k w) (E, D, I) Q := by
  have hlen := qrD_len (D := D) hS.2.1
  have hF0 : FrL [] [0, 45, 46] D (ds D 0 0 0) := FrL.rf.sc (by decide)
  have e2 : w ≤ 1 ↔ w < 2 := by
    rw [Int32.le_iff_toInt_le, Int32.lt_iff_toInt_lt]
    show w.toInt ≤ 1 ↔ w.toInt < 2
    omega
  unfold f_X12_quarrel
  refine wm_P hM rfl ?_
  have bad : (w < 0 ∨ ¬ w < 2) → Wp (f_X12_quarrel_15 (some am) k w (some am)) (E, ds D 0 0 0, I) Q := fun h => by
    unfold f_X12_quarrel_15 f_X12_quarrel_20
    refine wm_call hM (m_bad1 hM ?_)
    refine wp_neg (by decide) ?_
    rw [ds_ds]
    exact wp_mp (k2 h 0)
  refine wp_ite (fun c => bad (.inl c)) (fun c1 => wp_ite (fun c2 => ?_) (fun c => bad (.inr (fun e => c (e2.mpr e)))))
  have k3 := k3 c1 (e2.mp c2)
  unfold f_X12_quarrel_20
  refine wm_call hM (m_bad0 hM ?_)
  refine wp_pos rfl ?_
  unfold pAt at k3
  refine wp_ite (fun c => ?_) (fun c => ?_)
  · have k3 := k3 _ hF0 ds_eq
    rw [if_pos c] at k3
    exact wp_mp k3
  · simp only [if_neg c] at k3
    obtain ⟨j, hj, rfl⟩ := nI_of c
    simp only [nI_clamp hj] at k3
    refine wp_ite (fun c3 => ?_) (fun c3 => ?_)
    · have hb : 100000 < j := (nI_ltI (a := 100000) (by omega) hj).mp c3
      have k3 := k3 _ hF0 ds_eq
      rw [List.getElem?_eq_none (by omega)] at k3
      exact wp_mp k3
    · have hj5 : j ≤ 100000 := Nat.le_of_not_lt fun h => c3 ((nI_ltI (a := 100000) (by omega) hj).mpr h)
      refine wm_call hM (m_looks (k := j) hM hS hnl hj5 (fun D' hF h0 => ⟨fun p hp q1 q2 => ?_, fun hle => ?_⟩))
      · have k3 := k3 D' hF h0
        rw [hp] at k3
        refine wp_pos ((nI_ltI hj (by omega)).mpr (by omega)) ?_
        dsimp only at k3
        refine wp_ite (fun c4 => ?_) (fun c4 => ?_)
        · rw [if_pos c4] at k3
          refine wm_I hM rfl ?_
          rw [q1]
          exact wp_mp k3
        · rw [if_neg c4] at k3
          refine wm_I hM rfl ?_
          rw [q2]
          exact wp_mp k3
      · have k3 := k3 D' hF h0
        rw [List.getElem?_eq_none hle] at k3
        exact wp_neg (fun e => by have := (nI_ltI hj (by omega)).mp e; omega) (wp_mp k3)
/-! moves: the tree -/
theorem chn_keep {ab ab' : Nat → Int32} {nn n : Nat} (h : ∀ k, k ≠ n → ab' k = ab k) : ∀ (w : List Nat) (v : Int32), n ∉ w → Chn ab nn w v → Chn ab' nn w v := by
  intro w
  induction w with
  | nil => exact fun v _ h => h
  | cons k r ih =>
    intro v hn hc
    rw [List.mem_cons, not_or] at hn
    refine ⟨hc.1, hc.2.1, ?_⟩
    rw [h k (fun e => hn.1 e.symm)]
    exact ih _ hn.2 hc.2.2
theorem chn_move {ab ab' : Nat → Int32} {nn n up : Nat} {wu : List Nat} (h : ∀ k, k ≠ n → ab' k = ab k) (hn : ab' n = nI up) (hu : Chn ab nn wu (nI up)) (hnu : n ∉ wu) : ∀ (w : List Nat) (v : Int32), Chn ab nn w v → ∃ w', Chn ab' nn w' v := by
  intro w
  induction w with
  | nil => exact fun v h => ⟨[], h⟩
  | cons k r ih =>
    intro v hc
    by_cases e : k = n
    · subst e
      exact ⟨k :: wu, hc.1, hc.2.1, by rw [hn]; exact chn_keep h wu _ hnu hu⟩
    · obtain ⟨w', hw'⟩ := ih _ hc.2.2
      exact ⟨k :: w', hc.1, hc.2.1, by rw [h k e]; exact hw'⟩
theorem DI.move {cap : Nat} (hD : DI cap D nn nm ng ns nl nc) {n up : Nat} {wu : List Nat} (hu : Chn (D 1) nn wu (nI up)) (hnu : n ∉ wu) : DI cap (ds D 1 n (nI up)) nn nm ng ns nl nc := by
  have e : ∀ j, j ≠ 1 → ds D 1 n (nI up) j = D j := fun j hj => ds_row hj
  unfold DI DTree DMach DGrp DSet DLnk LnkOk DTap at hD ⊢
  rw [e 0 (by decide), e 2 (by decide), e 4 (by decide), e 5 (by decide), e 6 (by decide), e 8 (by decide), e 10 (by decide), e 11 (by decide), e 13 (by decide), e 21 (by decide), e 24 (by decide), e 25 (by decide), e 26 (by decide), e 27 (by decide), e 28 (by decide), e 29 (by decide), e 30 (by decide), e 31 (by decide)]
  obtain ⟨⟨h1, h2, h3, h4⟩, h5⟩ := hD
  refine ⟨⟨h1, h2, fun i hi => ?_, h4⟩, h5⟩
  obtain ⟨w, hw⟩ := h3 i hi
  exact chn_move (n := n) (up := up) (ab := D 1) (ab' := ds D 1 n (nI up) 1) (fun k hk => ds_ne (fun q => hk q.2)) ds_eq hu hnu w _ hw
/-- forty values at most -/
theorem nd_sub : ∀ (l m : List Int32), l.Nodup → (∀ x ∈ l, x ∈ m) → l.length ≤ m.length := by
  intro l
  induction l with
  | nil => intro m _ _; exact Nat.zero_le _
  | cons x r ih =>
    intro m hd hs
    have hx := hs x List.mem_cons_self
    have hd2 := List.nodup_cons.mp hd
    have h1 := ih (m.erase x) hd2.2 (fun y hy => (List.mem_erase_of_ne (show y ≠ x from fun e => hd2.1 (by rw [← e]; exact hy))).mpr (hs y (List.mem_cons_of_mem _ hy)))
    rw [List.length_erase_of_mem hx] at h1
    have : 0 < m.length := List.length_pos_of_mem hx
    rw [List.length_cons]
    omega
theorem oc_nd (law : Int32) (M : List Int32) : ∀ (ps : List (Int32 × Nat)) (st : List Int32 × Option Nat), (∀ p ∈ ps, p.1 ∈ M) → st.1.Nodup → (∀ v ∈ st.1, v ∈ M) → (ps.foldl (ost law) st).1.Nodup ∧ ∀ v ∈ (ps.foldl (ost law) st).1, v ∈ M := by
  intro ps
  induction ps with
  | nil => exact fun st _ h1 h2 => ⟨h1, h2⟩
  | cons p ps ih =>
    intro st hp h1 h2
    rw [List.foldl_cons]
    have hp0 := hp p List.mem_cons_self
    have one : ([p.1] : List Int32).Nodup ∧ ∀ v ∈ [p.1], v ∈ M := ⟨List.nodup_cons.mpr ⟨(by simp), List.nodup_nil⟩, fun v hv => by rw [List.mem_singleton.mp hv]; exact hp0⟩
    have key : (ost law st p).1.Nodup ∧ ∀ v ∈ (ost law st p).1, v ∈ M := by
      unfold ost
      split
      · dsimp only
        split
        · exact ⟨h1, h2⟩
        · rename_i hnm
          refine ⟨List.nodup_append.mpr ⟨h1, one.1, fun a ha b hb e => hnm ?_⟩, fun v hv => ?_⟩
          · rw [← List.mem_singleton.mp hb, ← e]
            exact ha
          · rcases List.mem_append.mp hv with h | h
            · exact h2 v h
            · exact one.2 v h
      · split
        · exact one
        · split
          · exact one
          · exact ⟨h1, h2⟩
    exact ih _ (fun q hq => hp q (List.mem_cons_of_mem _ hq)) key.1 key.2
theorem ocD_40 (hD : DI (eCu E) D nn nm ng ns nl nc) (hm : m < nm) {yes but : Int32} : (ocD D nl s m yes but).1.length ≤ 40 := by
  obtain ⟨i, r, hi, e4, hw⟩ := hD.way hm
  have hnn := hD.1.1.2
  have ewy : wy (D 1) 61 (D 4 m) = i :: r := chn_wy hnn _ 61 hw (by have := chn_len hnn hw; omega)
  have h1 := (rowK_lt (m := m) (yes := yes) (but := but) hD hw).1
  unfold ocD oc
  rw [ewy]
  have hns := hD.2.2.2.1.1
  have h2 := oc_nd (D 13 s) ((List.range 40).map (fun z => D 11 (12 * z + s))) (psD D s (rowK D nl m yes but (i :: r))) ([], none) (fun p hp => by
    unfold psD at hp
    obtain ⟨l, hl, rfl⟩ := List.mem_map.mp hp
    obtain ⟨z, hz, ez⟩ := (hD.2.2.2.2.1.2.2.2.1 l (h1 l (List.mem_filter.mp hl).1)).2.1
    refine List.mem_map.mpr ⟨z, List.mem_range.mpr (by omega), ?_⟩
    show _ = vlD D s l
    unfold vlD
    rw [ez, nI_clamp (by omega)]) List.nodup_nil (fun v hv => by cases hv)
  have h3 := nd_sub _ _ h2.1 h2.2
  rw [List.length_map, List.length_range] at h3
  exact h3
end ML
