/-! ===== the model: the row made ===== -/
noncomputable def rowK (D : Nat → Nat → Int32) (nl m : Nat) (yes but : Int32) (w : List Nat) : List Nat := (opn (D 2) w).reverse.flatMap (fun n => (lat (D 31) (D 24) (D 27) (D 28) nl n 0).filter (kpB D m yes but w)) ++ w.flatMap (fun n => (lat (D 31) (D 24) (D 27) (D 28) nl n 1).filter (kpB D m yes but w))
abbrev rowD (D : Nat → Nat → Int32) (nl : Nat) (w : List Nat) : List Nat := rowA (D 2) (lat (D 31) (D 24) (D 27) (D 28) nl) w
theorem fm_filter {p : Nat → Bool} {f : Nat → List Nat} : ∀ l : List Nat, (l.flatMap f).filter p = l.flatMap (fun x => (f x).filter p) := by
  intro l
  induction l with
  | nil => rfl
  | cons a l ih => rw [List.flatMap_cons, List.flatMap_cons, List.filter_append, ih]
theorem rowK_eq (D : Nat → Nat → Int32) (nl m : Nat) (yes but : Int32) (w : List Nat) : rowK D nl m yes but w = (rowD D nl w).filter (kpB D m yes but w) := by
  unfold rowK rowD rowA
  rw [List.filter_append, fm_filter, fm_filter]
theorem opn_sub (bl : Nat → Int32) : ∀ w : List Nat, (opn bl w).Sublist w := by
  intro w
  induction w with
  | nil => exact List.Sublist.refl _
  | cons n r ih =>
    rw [opn]
    split
    · exact ih.cons₂ n
    · exact (List.nil_sublist r).cons₂ n
theorem row_nd {D : Nat → Nat → Int32} {nl nn : Nat} {w : List Nat} (hw : w.Nodup) (hlt : ∀ n ∈ w, n < nn) (hnn : nn ≤ 60) (hs : (srt (D 31) nl).Nodup) : (rowD D nl w).Nodup := by
  have hl : ∀ n f, (lat (D 31) (D 24) (D 27) (D 28) nl n f).Nodup := fun n f => hs.filter _
  have hm : ∀ {n f l}, l ∈ lat (D 31) (D 24) (D 27) (D 28) nl n f → D 24 l = nI n ∧ D 27 l = f := fun h => (of_decide_eq_true (List.mem_filter.mp h).2).2
  have fm : ∀ (f : Int32) (w : List Nat), w.Nodup → (∀ n ∈ w, n < nn) → (w.flatMap (fun n => lat (D 31) (D 24) (D 27) (D 28) nl n f)).Nodup := by
    intro f w hw hlt
    refine List.pairwise_flatMap.mpr ⟨fun a _ => hl a f, ?_⟩
    refine List.Pairwise.imp_of_mem (fun {a b} ha hb hab => ?_) hw
    intro x hx y hy e
    subst e
    have e2 := (hm hx).1.symm.trans (hm hy).1
    exact hab ((nI_eq (by have := hlt a ha; omega) (by have := hlt b hb; omega)).mp e2)
  unfold rowD rowA
  refine List.nodup_append.mpr ⟨fm 0 _ ?_ ?_, fm 1 w hw hlt, ?_⟩
  · exact List.pairwise_reverse.mpr ((hw.sublist (opn_sub (D 2) w)).imp (fun h e => h e.symm))
  · intro n hn
    exact hlt n ((opn_sub (D 2) w).subset (List.mem_reverse.mp hn))
  · intro a ha b hb e
    subst e
    obtain ⟨n, -, h1⟩ := List.mem_flatMap.mp ha
    obtain ⟨n2, -, h2⟩ := List.mem_flatMap.mp hb
    have := (hm h1).2.symm.trans (hm h2).2
    exact absurd this (by decide)
theorem srt_lt {D : Nat → Nat → Int32} {nl : Nat} (h100 : nl ≤ 100) (hso : ∀ k, k < nl → ∃ l, l < nl ∧ D 31 k = nI l) : ∀ l ∈ srt (D 31) nl, l < nl := by
  intro l hl
  obtain ⟨k, hk, rfl⟩ := List.mem_map.mp hl
  rw [List.mem_range'_1] at hk
  obtain ⟨l, h1, h2⟩ := hso k (by omega)
  rw [h2, nI_clamp (by omega)]
  exact h1
theorem row_lt {D : Nat → Nat → Int32} {nl : Nat} {w : List Nat} (hs : ∀ l ∈ srt (D 31) nl, l < nl) : ∀ l ∈ rowD D nl w, l < nl := by
  intro l hl
  unfold rowD rowA at hl
  have hm : ∀ {n f l}, l ∈ lat (D 31) (D 24) (D 27) (D 28) nl n f → l < nl := fun h => hs _ (List.mem_filter.mp h).1
  rcases List.mem_append.mp hl with h | h
  · obtain ⟨n, -, h1⟩ := List.mem_flatMap.mp h
    exact hm h1
  · obtain ⟨n, -, h1⟩ := List.mem_flatMap.mp h
    exact hm h1
theorem row_len {D : Nat → Nat → Int32} {cap nn ng ns nl nc : Nat} {w : List Nat} {v : Int32} (hT : DTree D nn) (hL : DLnk cap D nn ng ns nl nc) (hw : Chn (D 1) nn w v) : (rowD D nl w).length ≤ nl := by
  obtain ⟨h100, -, -, -, -, hso, hnd, -⟩ := hL
  exact nd_len nl _ (row_nd (chn_nodup hT.1.2 w hw) (chn_lt w hw) hT.1.2 hnd) (row_lt (srt_lt h100 hso))
section MF
variable {E : Es} {D : Nat → Nat → Int32} {I : Tg → Nat → Int32} {am : Nat} {Q : Unit → Gh → Prop} {nn ng ns nl nc m : Nat} {yes but : Int32} {w : List Nat}
def WayIs (D : Nat → Nat → Int32) (w : List Nat) : Prop := ∀ i n, w[i]? = some n → D 34 i = nI n
theorem m_makes_111 (hM : ModS E am) (hA : AskL E D nn ng ns nl nc) (hm : m < 60) (hw : Chn (D 1) nn w (D 4 m)) : ∀ (suf pre : List Nat) (fu : Nat) (D' : Nat → Nat → Int32) (R : List Nat), pre ++ suf = w → suf.length < fu → FrL [23, 34, 35] [36] D D' → WayIs D' w → RowIs D' R → R.length + (suf.flatMap (fun n => (lat (D 31) (D 24) (D 27) (D 28) nl n 1).filter (kpB D m yes but w))).length ≤ 100 → (∀ D'', FrL [23, 34, 35] [36] D D'' → RowIs D'' (R ++ suf.flatMap (fun n => (lat (D 31) (D 24) (D 27) (D 28) nl n 1).filter (kpB D m yes but w))) → Q () (E, D'', I)) → Wp (f_X12_makes_111 (some am) (nI m) yes but (nI w.length) fu (nI pre.length)) (E, D', I) Q := by
  have hnn := hA.1.1.2
  have hwl := chn_len hnn hw
  intro suf
  induction suf with
  | nil =>
    intro pre fu D' R hp hf hF hW hR hlen kk
    cases fu with
    | zero => exact absurd hf (Nat.not_lt_zero _)
    | succ fu =>
      rw [List.append_nil] at hp
      subst hp
      rw [f_X12_makes_111]
      refine wp_pos ((nI_leI (by omega) (by omega)).mpr (by omega)) (wp_mp ?_)
      have kk := kk D' hF
      rw [List.flatMap_nil, List.append_nil] at kk
      exact kk hR
  | cons n suf ih =>
    intro pre fu D' R hp hf hF hW hR hlen kk
    cases fu with
    | zero => exact absurd hf (Nat.not_lt_zero _)
    | succ fu =>
      rw [List.length_cons] at hf
      have hwl2 : w.length = pre.length + (suf.length + 1) := by rw [← hp, List.length_append, List.length_cons]
      have hget : w[pre.length]? = some n := by rw [← hp, List.getElem?_append_right (Nat.le_refl _), Nat.sub_self]; rfl
      have hn : n < nn := chn_lt w hw n (List.mem_of_getElem? hget)
      rw [List.flatMap_cons, List.length_append] at hlen
      rw [f_X12_makes_111]
      refine wp_neg (fun e => by have := (nI_leI (by omega) (by omega)).mp e; omega) ?_
      refine wm_R hM (by decide) (by decide) rfl ?_
      refine wm_a hM pre.length rfl (by show pre.length < 60; omega) rfl (by decide) (by decide) (by omega) ?_
      rw [hW _ _ hget]
      refine wm_call hM (m_adds hM hA hm hw (by omega) hF hR (by omega) (fun D2 q1 q2 q3 => ?_))
      rw [nI_1, show pre.length + 1 = (pre ++ [n]).length by rw [List.length_append, List.length_singleton]]
      refine ih (pre ++ [n]) fu D2 _ (by rw [List.append_assoc]; exact hp) (by omega) q1 (fun i x hx => by rw [q2]; exact hW i x hx) q3 (by rw [List.length_append]; omega) (fun D3 r1 r2 => ?_)
      rw [List.flatMap_cons, ← List.append_assoc] at kk
      exact kk D3 r1 r2
theorem m_makes_82 (hM : ModS E am) (hA : AskL E D nn ng ns nl nc) (hm : m < 60) (hw : Chn (D 1) nn w (D 4 m)) : ∀ (j fu : Nat) (D' : Nat → Nat → Int32) (R : List Nat), j ≤ w.length → j < fu → FrL [23, 34, 35] [36] D D' → WayIs D' w → RowIs D' R → R.length + (((w.take j).reverse.flatMap (fun n => (lat (D 31) (D 24) (D 27) (D 28) nl n 0).filter (kpB D m yes but w))).length + (w.flatMap (fun n => (lat (D 31) (D 24) (D 27) (D 28) nl n 1).filter (kpB D m yes but w))).length) ≤ 100 → (∀ D'', FrL [23, 34, 35] [36] D D'' → RowIs D'' (R ++ ((w.take j).reverse.flatMap (fun n => (lat (D 31) (D 24) (D 27) (D 28) nl n 0).filter (kpB D m yes but w)) ++ w.flatMap (fun n => (lat (D 31) (D 24) (D 27) (D 28) nl n 1).filter (kpB D m yes but w)))) → Q () (E, D'', I)) → Wp (f_X12_makes_82 (some am) (nI m) yes but (nI w.length) fu (nI j + (-1))) (E, D', I) Q := by
  have hnn := hA.1.1.2
  have hwl := chn_len hnn hw
  intro j
  induction j with
  | zero =>
    intro fu D' R hj hf hF hW hR hlen kk
    cases fu with
    | zero => exact absurd hf (Nat.not_lt_zero _)
    | succ fu =>
      rw [f_X12_makes_82]
      refine wp_pos (by decide) ?_
      rw [List.take_zero, List.reverse_nil, List.flatMap_nil, List.length_nil, Nat.zero_add] at hlen
      rw [List.take_zero, List.reverse_nil, List.flatMap_nil, List.nil_append] at kk
      exact m_makes_111 hM hA hm hw w [] fuL D' R rfl (fu_ok (by omega)) hF hW hR hlen kk
  | succ j ih =>
    intro fu D' R hj hf hF hW hR hlen kk
    cases fu with
    | zero => exact absurd hf (Nat.not_lt_zero _)
    | succ fu =>
      obtain ⟨n, hget⟩ : ∃ n, w[j]? = some n := ⟨w[j], List.getElem?_eq_getElem (by omega)⟩
      have hn : n < nn := chn_lt w hw n (List.mem_of_getElem? hget)
      have ht : (w.take (j + 1)).reverse = n :: (w.take j).reverse := by
        rw [List.take_succ, hget, List.reverse_append]
        rfl
      rw [ht, List.flatMap_cons, List.length_append] at hlen
      rw [ht, List.flatMap_cons] at kk
      rw [f_X12_makes_82, pk_m1]
      refine wp_neg (nI_pos (by omega)) ?_
      refine wm_R hM (by decide) (by decide) rfl ?_
      refine wm_a hM j rfl (by show j < 60; omega) rfl (by decide) (by decide) (by omega) ?_
      rw [hW _ _ hget]
      refine wm_call hM (m_adds hM hA hm hw (by omega) hF hR (by omega) (fun D2 q1 q2 q3 => ?_))
      refine ih fu D2 _ (by omega) (by omega) q1 (fun i x hx => by rw [q2]; exact hW i x hx) q3 (by rw [List.length_append]; omega) (fun D3 r1 r2 => ?_)
      refine kk D3 r1 ?_
      rw [List.append_assoc] at r2
      rw [List.append_assoc]
      exact r2
theorem m_makes_48 (hM : ModS E am) (hA : AskL E D nn ng ns nl nc) (hm : m < 60) (hw : Chn (D 1) nn w (D 4 m)) (hlen : (rowK D nl m yes but w).length ≤ 100) {D' : Nat → Nat → Int32} (hF : FrL [23, 34, 35] [36] D D') (hW : WayIs D' w) (hR : RowIs D' []) (kk : ∀ D'', FrL [23, 34, 35] [36] D D'' → RowIs D'' (rowK D nl m yes but w) → Q () (E, D'', I)) : ∀ (suf pre : List Nat) (n : Nat) (fu : Nat), pre ++ n :: suf = w → suf.length < fu → opn (D 2) w = pre ++ opn (D 2) (n :: suf) → Wp (f_X12_makes_48 (some am) (nI m) yes but (nI w.length) fu (nI pre.length)) (E, D', I) Q := by
  have hnn := hA.1.1.2
  have hwl := chn_len hnn hw
  intro suf
  induction suf with
  | nil =>
    intro pre n fu hp hf ho
    cases fu with
    | zero => exact absurd hf (Nat.not_lt_zero _)
    | succ fu =>
      have hwl2 : w.length = pre.length + 1 := by rw [← hp, List.length_append, List.length_singleton]
      have ho2 : opn (D 2) [n] = [n] := by rw [opn]; split <;> rfl
      rw [ho2, hp] at ho
      rw [f_X12_makes_48]
      refine wp_pos ?_ ?_
      · rw [hwl2, nI_pred]
        exact (nI_leI (by omega) (by omega)).mpr (Nat.le_refl _)
      · unfold f_X12_makes_78
        rw [← pk_m1 pre.length]
        unfold rowK at hlen kk
        rw [ho, List.length_append] at hlen
        rw [ho] at kk
        refine m_makes_82 hM hA hm hw (pre.length + 1) fuL D' [] (by omega) (fu_ok (by omega)) hF hW hR ?_ ?_
        · rw [List.take_of_length_le (by omega), List.length_nil, Nat.zero_add]
          exact hlen
        · rw [List.take_of_length_le (by omega), List.nil_append]
          exact kk
  | cons n2 suf ih =>
    intro pre n fu hp hf ho
    cases fu with
    | zero => exact absurd hf (Nat.not_lt_zero _)
    | succ fu =>
      rw [List.length_cons] at hf
      have hwl2 : w.length = pre.length + (suf.length + 1 + 1) := by rw [← hp, List.length_append, List.length_cons, List.length_cons]
      have hget : w[pre.length]? = some n := by rw [← hp, List.getElem?_append_right (Nat.le_refl _), Nat.sub_self]; rfl
      have hn : n < nn := chn_lt w hw n (List.mem_of_getElem? hget)
      rw [f_X12_makes_48]
      refine wp_neg (fun e => ?_) ?_
      · rw [hwl2, show pre.length + (suf.length + 1 + 1) = (pre.length + (suf.length + 1)) + 1 by omega, nI_pred] at e
        have := (nI_leI (by omega) (by omega)).mp e
        omega
      · refine wm_R hM (by decide) (by decide) rfl ?_
        refine wm_R hM (by decide) (by decide) rfl ?_
        refine wm_a hM pre.length rfl (by show pre.length < 60; omega) rfl (by decide) (by decide) (by omega) ?_
        rw [hW _ _ hget]
        refine wm_a hM n rfl (by show n < 60; omega) rfl (by decide) (by decide) (by omega) ?_
        rw [hF.1 2 (by decide) (by decide)]
        refine wp_ite (fun c => ?_) (fun c => ?_)
        · rw [nI_1, show pre.length + 1 = (pre ++ [n]).length by rw [List.length_append, List.length_singleton]]
          refine ih (pre ++ [n]) n2 fu (by rw [List.append_assoc]; exact hp) (by omega) ?_
          rw [ho, opn, if_pos c, List.append_assoc]
          rfl
        · rw [opn, if_neg c] at ho
          have ht : w.take (pre.length + 1) = pre ++ [n] := by
            rw [← hp, List.take_append, List.take_of_length_le (by omega), show pre.length + 1 - pre.length = 1 by omega]
            rfl
          unfold f_X12_makes_78
          rw [← pk_m1 pre.length]
          unfold rowK at hlen kk
          rw [ho, List.length_append] at hlen
          rw [ho] at kk
          refine m_makes_82 hM hA hm hw (pre.length + 1) fuL D' [] (by omega) (fu_ok (by omega)) hF hW hR ?_ ?_
          · rw [ht, List.length_nil, Nat.zero_add]
            exact hlen
          · rw [ht, List.nil_append]
            exact kk
theorem m_makes_16 (hM : ModS E am) (hA : AskL E D nn ng ns nl nc) (hm : m < 60) (hw : Chn (D 1) nn w (D 4 m)) (hne : w ≠ []) (hlen : (rowK D nl m yes but w).length ≤ 100) (kk : ∀ D'', FrL [23, 34, 35] [36] D D'' → RowIs D'' (rowK D nl m yes but w) → Q () (E, D'', I)) : ∀ (suf pre : List Nat) (fu : Nat) (v : Int32) (D' : Nat → Nat → Int32), pre ++ suf = w → suf.length < fu → Chn (D 1) nn suf v → FrL [23, 34, 35] [36] D D' → WayIs D' pre → RowIs D' [] → Wp (f_X12_makes_16 (some am) (nI m) yes but fu (nI pre.length) v) (E, D', I) Q := by
  have hnn := hA.1.1.2
  have hwl := chn_len hnn hw
  intro suf
  induction suf with
  | nil =>
    intro pre fu v D' hp hf hc hF hW hR
    cases fu with
    | zero => exact absurd hf (Nat.not_lt_zero _)
    | succ fu =>
      have hc : v = -1 := hc
      subst hc
      rw [List.append_nil] at hp
      subst hp
      rw [f_X12_makes_16]
      refine wp_pos (by decide) ?_
      obtain ⟨n, r, rfl⟩ : ∃ n r, pre = n :: r := by
        cases pre with
        | nil => exact absurd rfl hne
        | cons n r => exact ⟨n, r, rfl⟩
      rw [List.length_cons] at hwl
      exact m_makes_48 hM hA hm hw hlen hF hW hR kk r [] n fuL rfl (fu_ok (by omega)) rfl
  | cons n suf ih =>
    intro pre fu v D' hp hf hc hF hW hR
    cases fu with
    | zero => exact absurd hf (Nat.not_lt_zero _)
    | succ fu =>
      rw [List.length_cons] at hf
      obtain ⟨rfl, hn, hc⟩ := hc
      have hwl2 : w.length = pre.length + (suf.length + 1) := by rw [← hp, List.length_append, List.length_cons]
      rw [f_X12_makes_16]
      refine wp_neg (nI_pos (by omega)) ?_
      refine wm_R hM (by decide) (by decide) rfl ?_
      refine wm_s hM pre.length rfl (by show pre.length < 60; omega) rfl (by decide) (by decide) (by omega) ?_
      refine wm_R hM (by decide) (by decide) rfl ?_
      refine wm_a hM n rfl (by show n < 60; omega) rfl (by decide) (by decide) (by omega) ?_
      rw [ds_ne (by omega), hF.1 1 (by decide) (by decide), nI_1, show pre.length + 1 = (pre ++ [n]).length by rw [List.length_append, List.length_singleton]]
      refine ih (pre ++ [n]) fu _ _ (by rw [List.append_assoc]; exact hp) (by omega) hc (hF.row (by decide) (by decide)) (fun i x hx => ?_) ?_
      · by_cases hi : i < pre.length
        · rw [List.getElem?_append_left hi] at hx
          rw [ds_ne (by omega)]
          exact hW i x hx
        · rw [List.getElem?_append_right (by omega)] at hx
          have hi3 : i - pre.length = 0 := by
            have := (List.getElem?_eq_some_iff.mp hx).1
            rw [List.length_singleton] at this
            omega
          rw [hi3] at hx
          cases hx
          rw [show i = pre.length by omega, ds_eq]
          rfl
      · refine ⟨?_, fun i l hi => by cases hi⟩
        rw [ds_ne (by omega)]
        exact hR.1
theorem m_makes (hM : ModS E am) (hA : AskL E D nn ng ns nl nc) (hm : m < 60) (hw : Chn (D 1) nn w (D 4 m)) (hne : w ≠ []) (kk : ∀ D'', FrL [23, 34, 35] [36] D D'' → RowIs D'' (rowK D nl m yes but w) → Q () (E, D'', I)) : Wp (f_X12_makes (some am) (nI m) yes but) (E, D, I) Q := by
  have hnn := hA.1.1.2
  have hwl := chn_len hnn hw
  have hlen : (rowK D nl m yes but w).length ≤ 100 := by
    rw [rowK_eq]
    have h1 := row_len hA.1 hA.2.1 hw
    have h2 := List.length_filter_le (kpB D m yes but w) (rowD D nl w)
    have h3 := hA.2.1.1
    omega
  unfold f_X12_makes
  refine wm_P hM rfl ?_
  refine wm_R hM (by decide) (by decide) rfl ?_
  refine wm_a hM m rfl (by show m < 60; omega) rfl (by decide) (by decide) (by omega) ?_
  rw [ds_row (by decide)]
  exact m_makes_16 hM hA hm hw hne hlen kk w [] fuL _ _ rfl (fu_ok (by omega)) hw (FrL.rf.sc (by decide)) (fun i x hx => by cases hx) ⟨ds_eq, fun i l hi => by cases hi⟩
end MF
