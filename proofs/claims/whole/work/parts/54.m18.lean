/-! ===== the model: link ===== -/
/-- the place of the new one among the sorted -/
def InsP (so so' od : Nat → Int32) (nl : Nat) (order : Int32) (j : Nat) : Prop := j ≤ nl ∧ (∀ k, k < j → so' k = so k) ∧ so' j = nI nl ∧ (∀ k, j ≤ k → k < nl → so' (k + 1) = so k) ∧ (∀ k, j ≤ k → k < nl → ¬ od (so k).toNatClampNeg ≤ order) ∧ (j = 0 ∨ od (so (j - 1)).toNatClampNeg ≤ order)
/-- what a link made leaves -/
def LinkD (D D' : Nat → Nat → Int32) (cu n set nl nc : Nat) (order forced : Int32) (cs : List Int32) : Prop := FrL [21, 24, 25, 26, 27, 29, 30, 31] [0, 15, 16, 17, 18, 19, 20, 22, 32] D D' ∧ D' 0 0 = 0 ∧ D' 0 15 = 0 ∧ D' 0 19 = -1 ∧ D' 0 22 = nI (nc + cs.length) ∧ D' 0 32 = nI (nl + 1) ∧ (∀ k, k < nc → D' 21 k = D 21 k) ∧ (∀ i y, cs[i]? = some y → D' 21 (nc + i) = y) ∧ nc + cs.length ≤ cu ∧ (∀ k, D' 24 k = if k = nl then nI n else D 24 k) ∧ (∀ k, D' 25 k = if k = nl then nI set else D 25 k) ∧ (∀ k, D' 26 k = if k = nl then order else D 26 k) ∧ (∀ k, D' 27 k = if k = nl then forced else D 27 k) ∧ (∀ k, D' 29 k = if k = nl then nI nc else D 29 k) ∧ (∀ k, D' 30 k = if k = nl then nI (nc + cs.length) else D 30 k) ∧ ∃ j, InsP (D 31) (D' 31) (D 26) nl order j
/-- what stays but for the model's own -/
def EX (am : Nat) (E E' : Es) (I I' : Tg → Nat → Int32) : Prop := ModS E' am ∧ EqC E E' ∧ (∀ t : Tg, t.1 ≠ 1 → ∀ k, I' t k = I t k) ∧ eMs E' + 2 * eCu E = eMs E + 2 * eCu E' ∧ eMc E' + eCu E ≤ eMc E + eCu E' ∧ eCu E ≤ eCu E' ∧ eCu E' ≤ 40960
section MS
variable {E : Es} {D : Nat → Nat → Int32} {I : Tg → Nat → Int32} {am : Nat} {nn nm ng ns nl nc : Nat} {Q : Int32 → Gh → Prop} {Z : Nat → Nat}
theorem m_link_262 (hM : ModS E am) {D0 : Nat → Nat → Int32} {order : Int32} (hnl : nl < 100) (hso : ∀ k, k < nl → ∃ l, l < nl ∧ D0 31 k = nI l) (h26 : ∀ l, l < nl → D 26 l = D0 26 l) (h32 : D 0 32 = nI nl) (kk : ∀ D', (∀ i, i ≠ 0 → i ≠ 31 → D' i = D i) → (∀ k, k ≠ 32 → D' 0 k = D 0 k) → D' 0 32 = nI (nl + 1) → (∃ j, InsP (D0 31) (D' 31) (D0 26) nl order j) → Q (nI nl) (E, D', I)) : ∀ (j fu : Nat) (D' : Nat → Nat → Int32), j ≤ nl → j < fu → (∀ i, i ≠ 31 → D' i = D i) → (∀ k, k < j → D' 31 k = D0 31 k) → (∀ k, j ≤ k → k < nl → D' 31 (k + 1) = D0 31 k) → (∀ k, j ≤ k → k < nl → ¬ D0 26 (D0 31 k).toNatClampNeg ≤ order) → Wp (f_X12_link_262 Z (some am) order fu (nI j)) (E, D', I) Q := by
  have fin : ∀ (j : Nat) (D' : Nat → Nat → Int32), j ≤ nl → (∀ i, i ≠ 31 → D' i = D i) → (∀ k, k < j → D' 31 k = D0 31 k) → (∀ k, j ≤ k → k < nl → D' 31 (k + 1) = D0 31 k) → (∀ k, j ≤ k → k < nl → ¬ D0 26 (D0 31 k).toNatClampNeg ≤ order) → (j = 0 ∨ D0 26 (D0 31 (j - 1)).toNatClampNeg ≤ order) → Wp (f_X12_link_307 Z (some am) (nI j)) (E, D', I) Q := by
    intro j D' hj h1 h2 h3 h4 h5
    unfold f_X12_link_307
    refine wm_R hM (by decide) (by decide) rfl ?_
    refine wm_I hM rfl ?_
    rw [h1 0 (by decide), h32]
    refine wm_s hM j rfl (by show j < 100; omega) rfl (by decide) (by decide) (by omega) ?_
    refine wm_I hM rfl ?_
    rw [ds_ne (by omega), h1 0 (by decide), h32, nI_1]
    refine wm_P hM rfl ?_
    refine wm_I hM rfl ?_
    rw [ds_eq, nI_pred]
    refine wp_mp (kk _ (fun i h0 hi => ?_) (fun k hk => ?_) ds_eq ⟨j, hj, fun k hk => ?_, ?_, fun k q1 q2 => ?_, h4, h5⟩)
    · rw [ds_row h0, ds_row hi, h1 i hi]
    · rw [ds_ne (by omega), ds_ne (by omega), h1 0 (by decide)]
    · rw [ds_ne (by omega), ds_ne (by omega)]
      exact h2 k hk
    · rw [ds_ne (by omega), ds_eq]
      rfl
    · rw [ds_ne (by omega), ds_ne (by omega)]
      exact h3 k q1 q2
  intro j
  induction j with
  | zero =>
    intro fu D' hj hf h1 h2 h3 h4
    cases fu with
    | zero => exact absurd hf (Nat.not_lt_zero _)
    | succ fu =>
      rw [f_X12_link_262]
      exact wp_pos (by decide) (fin 0 D' hj h1 h2 h3 h4 (.inl rfl))
  | succ j ih =>
    intro fu D' hj hf h1 h2 h3 h4
    cases fu with
    | zero => exact absurd hf (Nat.not_lt_zero _)
    | succ fu =>
      obtain ⟨l, hl, el⟩ := hso j (by omega)
      rw [f_X12_link_262]
      refine wp_neg (nI_nle (by omega) (by omega)) ?_
      rw [nI_pred]
      refine wm_R hM (by decide) (by decide) rfl ?_
      refine wm_R hM (by decide) (by decide) rfl ?_
      refine wm_a hM j rfl (by show j < 100; omega) rfl (by decide) (by decide) (by omega) ?_
      rw [h2 j (by omega), el]
      refine wm_a hM l rfl (by show l < 100; omega) rfl (by decide) (by decide) (by omega) ?_
      rw [h1 26 (by decide), h26 l hl]
      refine wp_ite (fun c => ?_) (fun c => ?_)
      · refine fin (j + 1) D' hj h1 h2 h3 h4 (.inr ?_)
        rw [Nat.add_sub_cancel, el, nI_clamp (by omega)]
        exact c
      · refine wm_R hM (by decide) (by decide) rfl ?_
        refine wm_R hM (by decide) (by decide) rfl ?_
        refine wm_a hM j rfl (by show j < 100; omega) rfl (by decide) (by decide) (by omega) ?_
        rw [h2 j (by omega), el]
        refine wm_s hM (j + 1) rfl (by show j + 1 < 100; omega) rfl (by decide) (by decide) (by omega) ?_
        rw [pk_m1]
        refine ih fu _ (by omega) (by omega) (fun i hi => by rw [ds_row hi, h1 i hi]) (fun k hk => by rw [ds_ne (by omega)]; exact h2 k (by omega)) (fun k q1 q2 => ?_) (fun k q1 q2 => ?_)
        · by_cases e : k = j
          · subst e
            rw [ds_eq, el]
            rfl
          · rw [ds_ne (by omega)]
            exact h3 k (by omega) q2
        · by_cases e : k = j
          · subst e
            rw [el, nI_clamp (by omega)]
            exact c
          · exact h4 k (by omega) q2
/-- behind the reading -/
theorem m_link_170 (hM : ModS E am) {D0 : Nat → Nat → Int32} {n set : Nat} {order forced : Int32} {cs : List Int32} (hnl : nl < 100) (hf01 : forced = 0 ∨ forced = 1) (hD0 : DLnk (eCu E) D0 nn ng ns nl nc) (hF : FrL [21] [0, 15, 16, 17, 18, 19, 20, 22] D0 D) (h00 : D 0 0 = 0) (h15 : D 0 15 = 0) (h18 : D 0 18 = 0) (h19 : D 0 19 = -1) (h22 : D 0 22 = nI (nc + cs.length)) (h21 : ∀ k, k < nc → D 21 k = D0 21 k) (hcs : ∀ i y, cs[i]? = some y → D 21 (nc + i) = y) (hcap : nc + cs.length ≤ eCu E) (kk : ∀ D', LinkD D0 D' (eCu E) n set nl nc order forced cs → Q (nI nl) (E, D', I)) : Wp (f_X12_link_170 Z (some am) (nI n) (nI set) order forced (nI nc)) (E, D, I) Q := by
  have h32 : D 0 32 = nI nl := by rw [hF.2 32 (by decide)]; exact hD0.2.1
  unfold f_X12_link_170
  refine wm_I hM rfl ?_
  rw [h18]
  refine wp_pos (by decide) ?_
  refine wm_R hM (by decide) (by decide) rfl ?_
  refine wm_I hM rfl ?_
  rw [h32]
  refine wm_s hM nl rfl (by show nl < 100; omega) rfl (by decide) (by decide) (by omega) ?_
  refine wm_R hM (by decide) (by decide) rfl ?_
  refine wm_I hM rfl ?_
  rw [ds_ne (by omega), h32]
  refine wm_I hM rfl ?_
  rw [ds_ne (by omega), h22]
  refine wm_s hM nl rfl (by show nl < 100; omega) rfl (by decide) (by decide) (by omega) ?_
  refine wm_R hM (by decide) (by decide) rfl ?_
  refine wm_I hM rfl ?_
  rw [ds_ne (by omega), ds_ne (by omega), h32]
  refine wm_s hM nl rfl (by show nl < 100; omega) rfl (by decide) (by decide) (by omega) ?_
  refine wm_R hM (by decide) (by decide) rfl ?_
  refine wm_I hM rfl ?_
  rw [ds_ne (by omega), ds_ne (by omega), ds_ne (by omega), h32]
  refine wm_s hM nl rfl (by show nl < 100; omega) rfl (by decide) (by decide) (by omega) ?_
  refine wm_R hM (by decide) (by decide) rfl ?_
  refine wm_I hM rfl ?_
  rw [ds_ne (by omega), ds_ne (by omega), ds_ne (by omega), ds_ne (by omega), h32]
  refine wm_s hM nl rfl (by show nl < 100; omega) rfl (by decide) (by decide) (by omega) ?_
  refine wm_R hM (by decide) (by decide) rfl ?_
  refine wm_I hM rfl ?_
  rw [ds_ne (by omega), ds_ne (by omega), ds_ne (by omega), ds_ne (by omega), ds_ne (by omega), h32]
  refine wm_s hM nl rfl (by show nl < 100; omega) rfl (by decide) (by decide) (by omega) ?_
  refine wm_I hM rfl ?_
  rw [ds_ne (by omega), ds_ne (by omega), ds_ne (by omega), ds_ne (by omega), ds_ne (by omega), ds_ne (by omega), h32]
  rw [show kp 3 forced = forced by rcases hf01 with rfl | rfl <;> rfl]
  rw [show kp 1 (nI nc) = nI nc from rfl, show kp 1 (nI (nc + cs.length)) = nI (nc + cs.length) from rfl, show kp 1 (nI n) = nI n from rfl, show kp 1 (nI set) = nI set from rfl, show kp 1 order = order from rfl]
  generalize hD5 : ds (ds (ds (ds (ds (ds D 29 nl (nI nc)) 30 nl (nI (nc + cs.length))) 24 nl (nI n)) 25 nl (nI set)) 26 nl order) 27 nl forced = D5
  have row : ∀ j, j ≠ 29 → j ≠ 30 → j ≠ 24 → j ≠ 25 → j ≠ 26 → j ≠ 27 → D5 j = D j := fun j a b c d e f => by
    rw [← hD5, ds_row f, ds_row e, ds_row d, ds_row c, ds_row b, ds_row a]
  have dsk : ∀ (D : Nat → Nat → Int32) (j : Nat) (v : Int32) (k : Nat), ds D j nl v j k = if k = nl then v else D j k := fun D j v k => by
    unfold ds
    by_cases h : k = nl
    · rw [if_pos ⟨rfl, h⟩, if_pos h]
    · rw [if_neg (fun q => h q.2), if_neg h]
  refine m_link_262 (D := D5) (D0 := D0) (nl := nl) hM hnl hD0.2.2.2.2.2.1 (fun l hl => ?_) (by rw [row 0 (by decide) (by decide) (by decide) (by decide) (by decide) (by decide)]; exact h32) (fun D' q1 q2 q3 q4 => ?_) nl fuL D5 (Nat.le_refl _) (fu_ok (by omega)) (fun _ _ => rfl) (fun k hk => ?_) (fun k a b => by omega) (fun k a b => by omega)
  · rw [← hD5, ds_row (by decide), dsk, if_neg (by omega), ds_row (by decide), ds_row (by decide), ds_row (by decide), ds_row (by decide), hF.1 26 (by decide) (by decide)]
  · have r0 : D5 0 = D 0 := row 0 (by decide) (by decide) (by decide) (by decide) (by decide) (by decide)
    have r21 : D' 21 = D 21 := (q1 21 (by decide) (by decide)).trans (row 21 (by decide) (by decide) (by decide) (by decide) (by decide) (by decide))
    refine kk D' ⟨⟨fun j h0 hj => ?_, fun k hk => ?_⟩, ?_, ?_, ?_, ?_, q3, fun k hk => ?_, fun i y hy => ?_, hcap, fun k => ?_, fun k => ?_, fun k => ?_, fun k => ?_, fun k => ?_, fun k => ?_, q4⟩
    · have n1 : ∀ a, a ∈ [21, 24, 25, 26, 27, 29, 30, 31] → j ≠ a := fun a ha e => hj (by rw [e]; exact ha)
      rw [q1 j h0 (n1 31 (by decide)), row j (n1 29 (by decide)) (n1 30 (by decide)) (n1 24 (by decide)) (n1 25 (by decide)) (n1 26 (by decide)) (n1 27 (by decide)), hF.1 j h0 (fun h => hj (by rw [List.mem_singleton.mp h]; decide))]
    · rw [q2 k (fun e => hk (by rw [e]; decide)), r0, hF.2 k (fun h => hk ((by decide : ∀ a ∈ [0, 15, 16, 17, 18, 19, 20, 22], a ∈ [0, 15, 16, 17, 18, 19, 20, 22, 32]) k h))]
    · rw [q2 0 (by decide), r0]; exact h00
    · rw [q2 15 (by decide), r0]; exact h15
    · rw [q2 19 (by decide), r0]; exact h19
    · rw [q2 22 (by decide), r0]; exact h22
    · rw [r21]; exact h21 k hk
    · rw [r21]; exact hcs i y hy
    · rw [q1 24 (by decide) (by decide), ← hD5, ds_row (by decide), ds_row (by decide), ds_row (by decide), dsk, ds_row (by decide), ds_row (by decide), hF.1 24 (by decide) (by decide)]
    · rw [q1 25 (by decide) (by decide), ← hD5, ds_row (by decide), ds_row (by decide), dsk, ds_row (by decide), ds_row (by decide), ds_row (by decide), hF.1 25 (by decide) (by decide)]
    · rw [q1 26 (by decide) (by decide), ← hD5, ds_row (by decide), dsk, ds_row (by decide), ds_row (by decide), ds_row (by decide), ds_row (by decide), hF.1 26 (by decide) (by decide)]
    · rw [q1 27 (by decide) (by decide), ← hD5, dsk, ds_row (by decide), ds_row (by decide), ds_row (by decide), ds_row (by decide), ds_row (by decide), hF.1 27 (by decide) (by decide)]
    · rw [q1 29 (by decide) (by decide), ← hD5, ds_row (by decide), ds_row (by decide), ds_row (by decide), ds_row (by decide), ds_row (by decide), dsk, hF.1 29 (by decide) (by decide)]
    · rw [q1 30 (by decide) (by decide), ← hD5, ds_row (by decide), ds_row (by decide), ds_row (by decide), ds_row (by decide), dsk, ds_row (by decide), hF.1 30 (by decide) (by decide)]
  · rw [row 31 (by decide) (by decide) (by decide) (by decide) (by decide) (by decide), hF.1 31 (by decide) (by decide)]
/-- what a fault leaves -/
def FaulD (D D' : Nat → Nat → Int32) (nc pl : Nat) : Prop := FrL [21] [0, 15, 16, 17, 18, 19, 20, 22] D D' ∧ D' 0 0 = 0 ∧ D' 0 15 = 0 ∧ D' 0 19 = nI pl ∧ D' 0 22 = nI nc ∧ ∀ k, k < nc → D' 21 k = D 21 k
theorem m_link (hZ : ZO Z) (hM : ModS E am) (hcu : eCu E ≤ 40960) (hD : DI (eCu E) D nn nm ng ns nl nc) {tp : Nat} (htp : DTap D tp) {x y od fo b : Int32} (hf01 : fo = 0 ∨ fo = 1) (k1 : (x < 0 ∨ ¬ x < nI nn) → ∀ r, Q r (E, ds D 0 0 1, I)) (k2 : ¬ x < 0 → x < nI nn → (y < 0 ∨ ¬ y < nI ns) → ∀ r, Q r (E, ds D 0 0 1, I)) (k3 : ¬ x < 0 → x < nI nn → ¬ y < 0 → y < nI ns → ((od < 0 ∨ ¬ od < 100) ∨ (b < 0 ∨ ¬ b < nI (tp + 1))) → ∀ r, Q r (E, ds D 0 0 2, I)) (k4 : ¬ x < 0 → x < nI nn → ¬ y < 0 → y < nI ns → (¬ od < 0 ∧ od < 100) → (¬ b < 0 ∧ b < nI (tp + 1)) → nl = 100 → ∀ r, Q r (E, ds D 0 0 3, I)) (k5 : ∀ n set o t, n < nn → x = nI n → set < ns → y = nI set → o < 100 → od = nI o → t ≤ tp → b = nI t → nl < 100 → (∀ f, pTxt (fun k => if k < t then D 14 k &&& 255 else 0) t ng nn = .inr f → ∀ E' D' I', EX am E E' I I' → FaulD D D' nc f.2 → Q (nI f.1 - 10) (E', D', I')) ∧ (∀ e cs, pTxt (fun k => if k < t then D 14 k &&& 255 else 0) t ng nn = .inl (e, cs) → ∀ E' D' I', EX am E E' I I' → LinkD D D' (eCu E') n set nl nc od fo cs → Q (nI nl) (E', D', I'))) : Wp (f_X12_link Z (some am) x y od fo b) (E, D, I) Q := by
  have hnn := hD.1.1.2
  have hns := hD.2.2.2.1.1
  have hng := hD.2.2.1.1
  have hnl := hD.2.2.2.2.1.1
  have hncl := hD.2.2.2.2.1.2.2.1
  have htp2 := htp.1
  have e99 : (99 < od) ↔ ¬ od < 100 := by
    rw [Int32.lt_iff_toInt_lt, Int32.lt_iff_toInt_lt]
    show (99 : Int) < od.toInt ↔ ¬ od.toInt < 100
    omega
  unfold f_X12_link
  refine wm_P hM rfl ?_
  refine wm_I hM rfl ?_
  rw [ds_ne (by omega), hD.1.2.1]
  refine wm_call hM (m_none hM ds_eq (fun h1 h2 => ?_) (fun h => ?_))
  · refine wp_pos rfl ?_
    refine wm_I hM rfl ?_
    rw [ds_ne (by omega), hD.2.2.2.1.2.1]
    refine wm_call hM (m_none hM ds_eq (fun h3 h4 => ?_) (fun h => ?_))
    · refine wp_pos rfl ?_
      have bad : ((od < 0 ∨ ¬ od < 100) ∨ (b < 0 ∨ ¬ b < nI (tp + 1))) → Wp (f_X12_link_54 Z (some am) x y od fo b (some am)) (E, ds D 0 0 0, I) Q := fun h => by
        unfold f_X12_link_54 f_X12_link_59
        refine wm_call hM (m_bad1 hM ?_)
        refine wp_neg (by decide) ?_
        rw [ds_ds]
        exact wp_mp (k3 h1 h2 h3 h4 h 0)
      refine wp_ite (fun c => bad (.inl (.inl c))) (fun c1 => wp_ite (fun c => bad (.inl (.inr (e99.mp c)))) (fun c2 => wp_ite (fun c => bad (.inr (.inl c))) (fun c3 => ?_)))
      refine wm_I hM rfl ?_
      rw [ds_ne (by omega), htp.2]
      have hbt : b ≤ nI tp ↔ b < nI (tp + 1) := by
        obtain ⟨t, ht, rfl⟩ := nI_of c3
        rw [nI_leI ht (by omega), nI_ltI ht (by omega)]
        omega
      refine wp_ite (fun c4 => ?_) (fun c => bad (.inr (.inr (fun q => c (hbt.mpr q)))))
      have c2' : od < 100 := Decidable.byContradiction fun q => c2 (e99.mpr q)
      unfold f_X12_link_59
      refine wm_call hM (m_bad0 hM ?_)
      refine wp_pos rfl ?_
      refine wm_I hM rfl ?_
      rw [ds_ne (by omega), hD.2.2.2.2.1.2.1]
      by_cases h100 : nl = 100
      · subst h100
        refine wp_pos rfl ?_
        unfold f_X12_link_81
        refine wm_call hM (m_bad1 hM ?_)
        refine wp_neg (by decide) ?_
        rw [ds_ds]
        exact wp_mp (k4 h1 h2 h3 h4 ⟨c1, c2'⟩ ⟨c3, hbt.mp c4⟩ rfl 0)
      · refine wp_neg (fun e => h100 ((nI_eq (b := 100) (by omega) (by omega)).mp e)) ?_
        unfold f_X12_link_81
        refine wm_call hM (m_bad0 hM ?_)
        refine wp_pos rfl ?_
        obtain ⟨n, hn9, rfl⟩ := nI_of h1
        have hn : n < nn := (nI_ltI hn9 (by omega)).mp h2
        obtain ⟨set, hs9, rfl⟩ := nI_of h3
        have hset : set < ns := (nI_ltI hs9 (by omega)).mp h4
        obtain ⟨o, ho9, rfl⟩ := nI_of c1
        have ho : o < 100 := (nI_ltI (b := 100) ho9 (by omega)).mp c2'
        obtain ⟨t, ht9, rfl⟩ := nI_of c3
        have ht : t ≤ tp := (nI_leI ht9 (by omega)).mp c4
        obtain ⟨k5f, k5s⟩ := k5 n set o t hn rfl hset rfl ho rfl ht rfl (by omega)
        generalize hB : (fun k => if k < t then D 14 k &&& 255 else 0) = B at k5f k5s
        refine wm_P hM rfl ?_
        refine wm_P hM rfl ?_
        refine wm_P hM rfl ?_
        refine wm_P hM rfl ?_
        refine wm_P hM rfl ?_
        refine wm_P hM rfl ?_
        refine wm_I hM rfl ?_
        rw [ds_ne (by omega), ds_ne (by omega), ds_ne (by omega), ds_ne (by omega), ds_ne (by omega), ds_ne (by omega), ds_ne (by omega), hncl.1]
        generalize hD1 : ds (ds (ds (ds (ds (ds (ds D 0 0 0) 0 16 (nI t)) 0 15 0) 0 17 0) 0 18 0) 0 19 (-1)) 0 20 0 = D1
        have hF1 : FrL [21] [0, 15, 16, 17, 18, 19, 20, 22] D D1 := by
          rw [← hD1]
          exact ((((((FrL.rf.sc (by decide)).sc (by decide)).sc (by decide)).sc (by decide)).sc (by decide)).sc (by decide)).sc (by decide)
        have r21 : D1 21 = D 21 := by rw [← hD1, ds_row (by decide), ds_row (by decide), ds_row (by decide), ds_row (by decide), ds_row (by decide), ds_row (by decide), ds_row (by decide)]
        have s0 : D1 0 0 = 0 := by rw [← hD1, ds_ne (by decide), ds_ne (by decide), ds_ne (by decide), ds_ne (by decide), ds_ne (by decide), ds_ne (by decide), ds_eq]
        have s16 : D1 0 16 = nI t := by rw [← hD1, ds_ne (by decide), ds_ne (by decide), ds_ne (by decide), ds_ne (by decide), ds_ne (by decide), ds_eq]
        have s15 : D1 0 15 = 0 := by rw [← hD1, ds_ne (by decide), ds_ne (by decide), ds_ne (by decide), ds_ne (by decide), ds_eq]
        have s17 : D1 0 17 = nI 0 := by rw [← hD1, ds_ne (by decide), ds_ne (by decide), ds_ne (by decide), ds_eq]; rfl
        have s18 : D1 0 18 = 0 := by rw [← hD1, ds_ne (by decide), ds_ne (by decide), ds_eq]
        have s19 : D1 0 19 = -1 := by rw [← hD1, ds_ne (by decide), ds_eq]
        have s20 : D1 0 20 = nI 0 := by rw [← hD1, ds_eq]; rfl
        have s22 : D1 0 22 = nI nc := by rw [← hD1, ds_ne (by decide), ds_ne (by decide), ds_ne (by decide), ds_ne (by decide), ds_ne (by decide), ds_ne (by decide), ds_ne (by decide)]; exact hncl.1
        have hP1 : PC B t ng nn D1 := by
          refine ⟨s16, by omega, fun k => ?_, ?_, ?_, hnn, hng⟩
          · rw [hF1.1 14 (by decide) (by decide), ← hB]
          · rw [hF1.2 3 (by decide)]; exact hD.1.2.1
          · rw [hF1.2 9 (by decide)]; exact hD.2.2.1.2.1
        have hz := hP1.bz
        have hq := sk_le (B := B) (n := t) 0 (Nat.zero_le _)
        have hncb : nc ≤ 19800 := by omega
        -- endings
        have good : ∀ (E' : Es) (D' : Nat → Nat → Int32) (I' : Tg → Nat → Int32) (e : Nat) (cs : List Int32), pTxt B t ng nn = .inl (e, cs) → PX am nc (E, D1, I) (E', D', I') → D' 0 18 = 0 → D' 0 19 = -1 → D' 0 22 = nI (nc + cs.length) → (∀ i y, cs[i]? = some y → D' 21 (nc + i) = y) → nc + cs.length ≤ eCu E' → Wp (f_X12_link_170 Z (some am) (nI n) (nI set) (nI o) fo (nI nc)) (E', D', I') Q := fun E' D' I' e cs ht hX t1 t9 t2 t3 t4 => by
          obtain ⟨x1, x2, x3, x4, x5, x6, x7, x8, x9⟩ := hX
          have x8 : FrL [21] frP D1 D' := x8
          have x9 : ∀ k, k < nc → D' 21 k = D1 21 k := x9
          have hL' : DLnk (eCu E') D nn ng ns nl nc := by
            obtain ⟨a1, a2, ⟨a3, a4, a5⟩, a6⟩ := hD.2.2.2.2.1
            exact ⟨a1, a2, ⟨a3, a4, Nat.le_trans a5 x6⟩, a6⟩
          refine m_link_170 x1 (D0 := D) (cs := cs) (by omega) hf01 hL' ((hF1.tr x8).wk (by decide) (by decide)) (by rw [x8.2 0 (by decide)]; exact s0) (by rw [x8.2 15 (by decide)]; exact s15) t1 t9 t2 (fun k hk => by rw [x9 k hk]; exact congrFun r21 k) t3 t4 (fun D2 hD2 => ?_)
          exact k5s e cs ht E' D2 I' ⟨x1, x2, x3, x4, x5, x6, x7⟩ hD2
        have wrong : ∀ (E' : Es) (D' : Nat → Nat → Int32) (I' : Tg → Nat → Int32) (f : Nat × Nat), pTxt B t ng nn = .inr f → (f.1 = 1 ∨ f.1 = 2 ∨ f.1 = 3) → PX am nc (E, D1, I) (E', D', I') → D' 0 18 = nI f.1 → D' 0 19 = nI f.2 → Wp (f_X12_link_170 Z (some am) (nI n) (nI set) (nI o) fo (nI nc)) (E', D', I') Q := fun E' D' I' f ht hf1 hX t1 t2 => by
          obtain ⟨x1, x2, x3, x4, x5, x6, x7, x8, x9⟩ := hX
          have x8 : FrL [21] frP D1 D' := x8
          have x9 : ∀ k, k < nc → D' 21 k = D1 21 k := x9
          unfold f_X12_link_170
          refine wm_I x1 rfl ?_
          rw [t1]
          refine wp_neg (nI_nle (by omega) (by omega)) ?_
          refine wm_P x1 rfl ?_
          refine wm_I x1 rfl ?_
          rw [ds_ne (by decide), t1]
          refine wp_mp (k5f f ht E' _ I' ⟨x1, x2, x3, x4, x5, x6, x7⟩ ⟨((hF1.tr x8).wk (by decide) (by decide)).sc (by decide), ?_, ?_, ?_, ds_eq, fun k hk => ?_⟩)
          · rw [ds_ne (by decide), x8.2 0 (by decide)]; exact s0
          · rw [ds_ne (by decide), x8.2 15 (by decide)]; exact s15
          · rw [ds_ne (by decide)]; exact t2
          · rw [ds_ne (by omega), x9 k hk]; exact congrFun r21 k
        have hX1 : PX am nc (E, D1, I) (E, ds D1 0 17 (nI (sk B t 0)), I) := (PX.rf hM hcu).sc (by decide)
        refine wm_call hM (m_blanks hM hP1 (by omega) s17 ?_)
        refine wm_I hM rfl ?_
        rw [ds_eq]
        refine wm_I hM rfl ?_
        rw [ds_ne (by decide), s16]
        unfold pTxt at good wrong
        by_cases hlt : sk B t 0 < t
        · simp only [if_pos hlt] at good wrong
          refine wp_neg (fun e => by have := (nI_leI (by omega) (by omega)).mp e; omega) ?_
          refine wm_call hM ((m_anyC hZ hz hng hnn) E _ I _ 0 (sk B t 0) nc hM hcu (hP1.fr (FrL.rf.sc (by decide))) (by omega) (Nat.le_refl _) hq ds_eq (by rw [ds_ne (by decide)]; exact s18) (by rw [ds_ne (by decide)]; exact s20) (by rw [ds_ne (by decide)]; exact s22) hncl.2.2 (by omega) ?_)
          have hgd := pAny_gd hz hng hnn 16 0 (sk B t 0) (by omega) hq
          cases hr : pAny B t ng nn 16 0 (sk B t 0) with
          | inl r =>
            rw [hr] at good wrong hgd
            obtain ⟨g1, g2, g3, g4⟩ := hgd
            intro E3 D3 I3 hX3 r1 r2 r9 r3 r4 r5 r6
            have hX4 : PX am nc (E, D1, I) (E3, D3, I3) := hX1.tr hX3 (Nat.le_refl _)
            have hP3 : PC B t ng nn D3 := hP1.fr hX4.2.2.2.2.2.2.2.1
            have hM3 : ModS E3 am := hX3.1
            have r9 : D3 0 19 = -1 := by
              refine r9.trans ?_
              dsimp only
              rw [ds_ne (by decide)]
              exact s19
            have hs4 := sk_le (B := B) (n := t) r.1 g2
            refine wm_call hM3 (m_blanks hM3 hP3 (by omega) r1 ?_)
            have hX5 : PX am nc (E, D1, I) (E3, ds D3 0 17 (nI (sk B t r.1)), I3) := hX4.sc (by decide)
            refine wm_I hM3 rfl ?_
            rw [ds_eq]
            refine wm_I hM3 rfl ?_
            rw [ds_ne (by decide), hP3.1]
            by_cases hlt2 : sk B t r.1 < t
            · refine wp_neg (fun e => by have := (nI_leI (by omega) (by omega)).mp e; omega) ?_
              refine wm_I hM3 rfl ?_
              rw [ds_eq]
              refine wm_call hM3 (m_wrong0 hM3 (by rw [ds_ne (by decide)]; exact r2) ?_)
              exact wrong E3 _ I3 (1, sk B t r.1) (by dsimp only; rw [if_pos hlt2]) (.inl rfl) ((hX5.sc (by decide)).sc (by decide)) (by rw [ds_ne (by decide), ds_eq]; rfl) ds_eq
            · refine wp_pos ((nI_leI (by omega) (by omega)).mpr (by omega)) ?_
              exact good E3 _ I3 _ r.2 (by dsimp only; rw [if_neg hlt2]) hX5 (by rw [ds_ne (by decide)]; exact r2) (by rw [ds_ne (by decide)]; exact r9) (by rw [ds_ne (by decide)]; exact r4) (fun i y hy => by rw [ds_ne (by omega)]; exact r5 i y hy) r6
          | inr f =>
            rw [hr] at good wrong hgd
            intro E3 D3 I3 c3 a3 hX3 r1 r2 r3 r4 r5 r8 r6 r7
            have hX4 : PX am nc (E, D1, I) (E3, D3, I3) := hX1.tr hX3 (Nat.le_refl _)
            have hP3 : PC B t ng nn D3 := hP1.fr hX4.2.2.2.2.2.2.2.1
            have hM3 : ModS E3 am := hX3.1
            refine wm_call hM3 (m_blanks hM3 hP3 (by omega) r1 ?_)
            have hX5 : PX am nc (E, D1, I) (E3, ds D3 0 17 (nI (sk B t a3)), I3) := hX4.sc (by decide)
            have fin := wrong E3 (ds D3 0 17 (nI (sk B t a3))) I3 f rfl hgd.1 hX5 (by rw [ds_ne (by decide)]; exact r3) (by rw [ds_ne (by decide)]; exact r4)
            refine wm_I hM3 rfl ?_
            refine wm_I hM3 rfl ?_
            refine wp_ite (fun _ => fin) (fun _ => ?_)
            refine wm_I hM3 rfl ?_
            exact wm_call hM3 (m_wrong1 hM3 (by rw [ds_ne (by decide)]; exact r3) hgd.1 fin)
        · simp only [if_neg hlt] at good wrong
          refine wp_pos ((nI_leI (by omega) (by omega)).mpr (by omega)) ?_
          exact good E _ I (sk B t 0) [] rfl hX1 (by rw [ds_ne (by decide)]; exact s18) (by rw [ds_ne (by decide)]; exact s19) (by rw [ds_ne (by decide)]; exact s22) (fun i y hy => by cases hy) hncl.2.2
    · refine wp_neg (by decide) ?_
      rw [ds_ds]
      exact wp_mp (k2 h1 h2 h 0)
  · refine wp_neg (by decide) ?_
    rw [ds_ds]
    exact wp_mp (k1 h 0)
end MS
