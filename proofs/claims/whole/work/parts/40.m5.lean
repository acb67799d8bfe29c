/-! ===== the model: the row of a machine ===== -/
def RowIs (D : Nat → Nat → Int32) (R : List Nat) : Prop := D 0 36 = nI R.length ∧ ∀ i l, R[i]? = some l → D 35 i = nI l
/-- the links kept: not the one left out, and the filter holds -/
noncomputable def kpB (D : Nat → Nat → Int32) (m : Nat) (yes but : Int32) (w : List Nat) (l : Nat) : Bool := decide (nI l ≠ but) && hld (fun v => memB (D 8) (D 6) v m) yes w (cdl (D 21) (D 29) (D 30) l)
theorem srt_cons (so : Nat → Int32) (k d : Nat) : (List.range' k (d + 1)).map (fun k => (so k).toNatClampNeg) = (so k).toNatClampNeg :: (List.range' (k + 1) d).map (fun k => (so k).toNatClampNeg) := by
  rw [List.range'_succ, List.map_cons]
section ME
variable {E : Es} {D : Nat → Nat → Int32} {I : Tg → Nat → Int32} {am : Nat}
/-- what is read of links and groups -/
def AskL (E : Es) (D : Nat → Nat → Int32) (nn ng ns nl nc : Nat) : Prop := DTree D nn ∧ DLnk (eCu E) D nn ng ns nl nc ∧ ng ≤ 20 ∧ (∀ g, ng ≤ g → D 8 g = 0) ∧ (∀ g, g < ng → Cl (D 8) ng g (D 33 g))
theorem cdl_get {cd fr to : Nat → Int32} {l a b : Nat} (h1 : fr l = nI a) (h2 : to l = nI b) (ha : a < 2 ^ 31) (hb : b < 2 ^ 31) : (cdl cd fr to l).length = b - a ∧ ∀ i, i < b - a → (cdl cd fr to l)[i]? = some (cd (a + i)) := by
  unfold cdl
  rw [h1, h2, nI_clamp ha, nI_clamp hb]
  refine ⟨by rw [List.length_map, List.length_range], fun i hi => ?_⟩
  rw [List.getElem?_map, List.getElem?_range hi]
  rfl
theorem m_holds {Q : Int32 → Gh → Prop} (hM : ModS E am) {nn ng ns nl nc l m : Nat} {yes : Int32} {w : List Nat} (hA : AskL E D nn ng ns nl nc) (hl : l < nl) (hm : m < 60) (hw : Chn (D 1) nn w (D 4 m)) (kk : ∀ D'', (∀ j, j ≠ 23 → D'' j = D j) → Q (b2i (hld (fun v => memB (D 8) (D 6) v m) yes w (cdl (D 21) (D 29) (D 30) l))) (E, D'', I)) : Wp (f_X12_holds (some am) (nI l) (nI m) yes) (E, D, I) Q := by
  obtain ⟨hT, hL, hng, hwi, hcl⟩ := hA
  obtain ⟨h100, -, ⟨-, hnc, hcap⟩, hlk, -⟩ := hL
  obtain ⟨-, -, -, -, -, fr, to, n', e1, e2, e3, e4, e5, e6⟩ := hlk l hl
  obtain ⟨c1, c2⟩ := cdl_get (cd := D 21) e1 e2 (by omega) (by omega)
  unfold f_X12_holds
  refine wm_R hM (by decide) (by decide) rfl ?_
  refine wm_a hM l rfl (by show l < 100; omega) rfl (by decide) (by decide) (by omega) ?_
  rw [e1]
  refine m_holds_11 (D := D) (nn := nn) (ng := ng) (to := to) (n' := n') (w := w) (mem := fun v => memB (D 8) (D 6) v m) hM hT.1.2 hng (by omega) hm e2 (by omega) (by omega) hw (fun v hv => ?_) e5 (cdl (D 21) (D 29) (D 30) l) fr fuL [] D (fun _ _ => rfl) (by omega) (fun i hi => c2 i (by omega)) e6 trivial (Nat.zero_le _) (fu_ok (by omega)) kk
  have hc := cl_mem (ig := D 6) (m := m) (hcl v hv) hng (fun k h _ => hwi k h)
  constructor
  · intro h
    exact memB_f (hc.mp h)
  · intro h
    refine hc.mpr (fun hp => ?_)
    rw [memB_t hp] at h
    cases h
theorem m_adds_3 {Q : Unit → Gh → Prop} (hM : ModS E am) {nn ng ns nl nc m n : Nat} {yes but f : Int32} {w : List Nat} (hA : AskL E D nn ng ns nl nc) (hm : m < 60) (hw : Chn (D 1) nn w (D 4 m)) (hn : n < 60) : ∀ (d k fu : Nat) (D' : Nat → Nat → Int32) (R : List Nat), d + k = nl → d < fu → FrL [23, 34, 35] [36] D D' → RowIs D' R → R.length + ((((List.range' k d).map (fun k => (D 31 k).toNatClampNeg)).filter (fun l => decide (D 28 l = 0 ∧ D 24 l = nI n ∧ D 27 l = f))).filter (kpB D m yes but w)).length ≤ 100 → (∀ D'', FrL [23, 34, 35] [36] D D'' → D'' 34 = D' 34 → RowIs D'' (R ++ (((List.range' k d).map (fun k => (D 31 k).toNatClampNeg)).filter (fun l => decide (D 28 l = 0 ∧ D 24 l = nI n ∧ D 27 l = f))).filter (kpB D m yes but w)) → Q () (E, D'', I)) → Wp (f_X12_adds_3 (some am) (nI n) f (nI m) yes but fu (nI k)) (E, D', I) Q := by
  have hA0 := hA
  obtain ⟨hT, hL, hng, hwi, hcl⟩ := hA
  obtain ⟨h100, hnl, ⟨-, hnc, hcap⟩, hlk, -, hso, -⟩ := hL
  intro d
  induction d with
  | zero =>
    intro k fu D' R hk hf hF hR hlen kk
    cases fu with
    | zero => exact absurd hf (Nat.not_lt_zero _)
    | succ fu =>
      rw [f_X12_adds_3]
      refine wm_I hM rfl ?_
      rw [hF.2 32 (by decide), hnl]
      refine wp_pos ((nI_leI (by omega) (by omega)).mpr (by omega)) ?_
      have kk := kk D' hF rfl
      rw [show (((List.range' k 0).map (fun k => (D 31 k).toNatClampNeg)).filter (fun l => decide (D 28 l = 0 ∧ D 24 l = nI n ∧ D 27 l = f))).filter (kpB D m yes but w) = [] from rfl, List.append_nil] at kk
      exact wp_mp (kk hR)
  | succ d ih =>
    intro k fu D' R hk hf hF hR hlen kk
    cases fu with
    | zero => exact absurd hf (Nat.not_lt_zero _)
    | succ fu =>
      obtain ⟨l, hl, hl2⟩ := hso k (by omega)
      obtain ⟨⟨n2, hn2, e24⟩, -, -, h27, h28, -⟩ := hlk l hl
      rw [srt_cons, hl2, nI_clamp (by omega)] at hlen kk
      rw [f_X12_adds_3]
      refine wm_I hM rfl ?_
      rw [hF.2 32 (by decide), hnl]
      refine wp_neg (fun e => by have := (nI_leI (by omega) (by omega)).mp e; omega) ?_
      refine wm_R hM (by decide) (by decide) rfl ?_
      refine wm_a hM k rfl (by show k < 100; omega) rfl (by decide) (by decide) (by omega) ?_
      rw [hF.1 31 (by decide) (by decide), hl2]
      refine wm_R hM (by decide) (by decide) rfl ?_
      refine wm_a hM l rfl (by show l < 100; omega) rfl (by decide) (by decide) (by omega) ?_
      rw [hF.1 28 (by decide) (by decide)]
      have skip : ∀ D2, FrL [23, 34, 35] [36] D D2 → D2 34 = D' 34 → RowIs D2 R → (List.filter (kpB D m yes but w) (List.filter (fun l => decide (D 28 l = 0 ∧ D 24 l = nI n ∧ D 27 l = f)) (l :: (List.range' (k + 1) d).map (fun k => (D 31 k).toNatClampNeg))) = List.filter (kpB D m yes but w) (List.filter (fun l => decide (D 28 l = 0 ∧ D 24 l = nI n ∧ D 27 l = f)) ((List.range' (k + 1) d).map (fun k => (D 31 k).toNatClampNeg)))) → Wp (f_X12_adds_96 (f_X12_adds_3 (some am) (nI n) f (nI m) yes but fu) (some am) (nI n) f (nI m) yes but (nI k)) (E, D2, I) Q := fun D2 q1 q2 q3 q4 => by
        unfold f_X12_adds_96
        rw [nI_1]
        rw [q4] at hlen kk
        exact ih (k + 1) fu D2 R (by omega) (by omega) q1 q3 hlen (fun D3 r1 r2 r3 => kk D3 r1 (r2.trans q2) r3)
      by_cases c1 : D 28 l = 0
      · refine wp_pos c1 ?_
        by_cases c2 : nI l = but
        · refine wp_pos c2 ?_
          refine skip D' hF rfl hR ?_
          have ek : kpB D m yes but w l = false := by unfold kpB; rw [decide_eq_false (fun h => h c2)]; rfl
          by_cases c3 : D 28 l = 0 ∧ D 24 l = nI n ∧ D 27 l = f
          · rw [List.filter_cons_of_pos (by rw [decide_eq_true c3]), List.filter_cons_of_neg (by rw [ek]; decide)]
          · rw [List.filter_cons_of_neg (by rw [decide_eq_false c3]; decide)]
        · refine wp_neg c2 ?_
          refine wm_R hM (by decide) (by decide) rfl ?_
          refine wm_a hM l rfl (by show l < 100; omega) rfl (by decide) (by decide) (by omega) ?_
          rw [hF.1 24 (by decide) (by decide)]
          by_cases c3 : D 24 l = nI n
          · refine wp_pos c3 ?_
            refine wm_R hM (by decide) (by decide) rfl ?_
            refine wm_a hM l rfl (by show l < 100; omega) rfl (by decide) (by decide) (by omega) ?_
            rw [hF.1 27 (by decide) (by decide)]
            by_cases c4 : D 27 l = f
            · refine wp_pos c4 ?_
              have hA' : AskL E D' nn ng ns nl nc := by
                unfold AskL DTree DLnk LnkOk at hA0 ⊢
                simp only [hF.1 1 (by decide) (by decide), hF.1 2 (by decide) (by decide), hF.1 8 (by decide) (by decide), hF.1 33 (by decide) (by decide), hF.1 21 (by decide) (by decide), hF.1 24 (by decide) (by decide), hF.1 25 (by decide) (by decide), hF.1 26 (by decide) (by decide), hF.1 27 (by decide) (by decide), hF.1 28 (by decide) (by decide), hF.1 29 (by decide) (by decide), hF.1 30 (by decide) (by decide), hF.1 31 (by decide) (by decide), hF.2 3 (by decide), hF.2 22 (by decide), hF.2 32 (by decide)]
                exact hA0
              refine wm_call hM (m_holds (D := D') (w := w) hM hA' hl hm (by rw [hF.1 1 (by decide) (by decide), hF.1 4 (by decide) (by decide)]; exact hw) (fun D2 hD2 => ?_))
              rw [hF.1 8 (by decide) (by decide), hF.1 6 (by decide) (by decide), hF.1 21 (by decide) (by decide), hF.1 29 (by decide) (by decide), hF.1 30 (by decide) (by decide)]
              have hF2 : FrL [23, 34, 35] [36] D D2 := ⟨fun j h0 hj => by
                rw [hD2 j (fun e => hj (by rw [e]; decide)), hF.1 j h0 hj], fun j hj => by rw [hD2 0 (by decide), hF.2 j hj]⟩
              have hR2 : RowIs D2 R := by
                unfold RowIs
                rw [hD2 0 (by decide), hD2 35 (by decide)]
                exact hR
              have e34 : D2 34 = D' 34 := hD2 34 (by decide)
              cases hh : hld (fun v => memB (D 8) (D 6) v m) yes w (cdl (D 21) (D 29) (D 30) l) with
              | false =>
                refine wp_pos rfl ?_
                refine skip D2 hF2 e34 hR2 ?_
                have ek : kpB D m yes but w l = false := by unfold kpB; rw [hh, Bool.and_false]
                rw [List.filter_cons_of_pos (by rw [decide_eq_true ⟨c1, c3, c4⟩]), List.filter_cons_of_neg (by rw [ek]; decide)]
              | true =>
                have ek : kpB D m yes but w l = true := by unfold kpB; rw [hh, decide_eq_true c2]; rfl
                rw [List.filter_cons_of_pos (by rw [decide_eq_true ⟨c1, c3, c4⟩]), List.filter_cons_of_pos (by rw [ek]), List.length_cons] at hlen
                rw [List.filter_cons_of_pos (by rw [decide_eq_true ⟨c1, c3, c4⟩]), List.filter_cons_of_pos (by rw [ek])] at kk
                refine wp_neg (by decide) ?_
                refine wm_R hM (by decide) (by decide) rfl ?_
                refine wm_I hM rfl ?_
                rw [hR2.1]
                refine wm_s hM R.length rfl (by show R.length < 100; omega) rfl (by decide) (by decide) (by omega) ?_
                refine wm_I hM rfl ?_
                rw [ds_ne (by omega), hR2.1, nI_1]
                refine wm_P hM rfl ?_
                unfold f_X12_adds_96
                rw [nI_1]
                refine ih (k + 1) fu _ (R ++ [l]) (by omega) (by omega) ((hF2.row (by decide) (by decide)).sc (by decide)) ⟨?_, fun i l2 hi => ?_⟩ (by rw [List.length_append, List.length_singleton]; omega) (fun D3 r1 r2 r3 => ?_)
                · rw [ds_eq, List.length_append, List.length_singleton]
                · rw [ds_ne (by omega)]
                  by_cases hi2 : i < R.length
                  · rw [List.getElem?_append_left hi2] at hi
                    rw [ds_ne (by omega)]
                    exact hR2.2 i l2 hi
                  · rw [List.getElem?_append_right (by omega)] at hi
                    have hi3 : i - R.length = 0 := by
                      have := (List.getElem?_eq_some_iff.mp hi).1
                      rw [List.length_singleton] at this
                      omega
                    rw [hi3] at hi
                    cases hi
                    rw [show i = R.length by omega, ds_eq]
                    rfl
                · rw [List.append_assoc, List.singleton_append] at r3
                  exact kk D3 r1 (by rw [r2, ds_row (by decide), ds_row (by decide), e34]) r3
            · refine wp_neg c4 (skip D' hF rfl hR ?_)
              rw [List.filter_cons_of_neg (by rw [decide_eq_false (fun h => c4 h.2.2)]; decide)]
          · refine wp_neg c3 (skip D' hF rfl hR ?_)
            rw [List.filter_cons_of_neg (by rw [decide_eq_false (fun h => c3 h.2.1)]; decide)]
      · refine wp_neg c1 (skip D' hF rfl hR ?_)
        rw [List.filter_cons_of_neg (by rw [decide_eq_false (fun h => c1 h.1)]; decide)]
theorem m_adds {Q : Unit → Gh → Prop} (hM : ModS E am) {nn ng ns nl nc m n : Nat} {yes but f : Int32} {w : List Nat} {D' : Nat → Nat → Int32} {R : List Nat} (hA : AskL E D nn ng ns nl nc) (hm : m < 60) (hw : Chn (D 1) nn w (D 4 m)) (hn : n < 60) (hF : FrL [23, 34, 35] [36] D D') (hR : RowIs D' R) (hlen : R.length + ((lat (D 31) (D 24) (D 27) (D 28) nl n f).filter (kpB D m yes but w)).length ≤ 100) (kk : ∀ D'', FrL [23, 34, 35] [36] D D'' → D'' 34 = D' 34 → RowIs D'' (R ++ (lat (D 31) (D 24) (D 27) (D 28) nl n f).filter (kpB D m yes but w)) → Q () (E, D'', I)) : Wp (f_X12_adds (some am) (nI n) f (nI m) yes but) (E, D', I) Q := by
  unfold f_X12_adds
  exact m_adds_3 hM hA hm hw hn nl 0 fuL D' R (by omega) (fu_ok (by have := hA.2.1.1; omega)) hF hR hlen kk
end ME
