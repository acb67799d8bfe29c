/-! ===== the model's reader: small parts ===== -/
section TX
variable {α : Type} {g : Gh} {Z : Nat → Nat} {sz : Nat}
def ZO (Z : Nat → Nat) : Prop := (∀ i j : Nat, i < 6 → j < 6 → Z (10 + i) = Z (10 + j) → i = j) ∧ ∀ i j : Nat, i < 6 → j < 6 → Z (50 + i) = Z (50 + j) → i = j
theorem wIx_of {b i : Nat} (h : ∀ i j : Nat, i < 6 → j < 6 → Z (b + i) = Z (b + j) → i = j) (hi : i < 6) : wIx Z b (some (Z (b + i))) = some i := by
  unfold wIx
  have h1 : ((List.range 6).find? (fun j => decide (some (Z (b + i)) = some (Z (b + j))))).isSome := by
    rw [List.find?_isSome]
    exact ⟨i, List.mem_range.mpr hi, decide_eq_true rfl⟩
  obtain ⟨j, hj⟩ := Option.isSome_iff_exists.mp h1
  rw [hj]
  have h2 := List.find?_some hj
  have h3 := List.mem_range.mp (List.mem_of_find?_eq_some hj)
  rw [h i j hi h3 (Option.some.inj (of_decide_eq_true h2))]
theorem wp_rzg {ty : FieldType} {v : Int32} {P : Int32 → Gh → Prop} (hv : narrow ty (.int v) = .int v) (k : P v g) : Wp (rz ty v) g P := by
  unfold rz
  rw [if_pos hv]
  exact wp_mp k
theorem wp_moS (hZ : ZO Z) {Q : α → Gh → Prop} {i : Nat} (hi : i < 6) {x : Mo α} (k : Wp x g Q) : Wp (moS Z (some (Z (10 + i))) x) g Q := by
  intro h hr
  have e : moS Z (some (Z (10 + i))) x h = x h := by
    unfold moS
    rw [wIx_of hZ.1 hi]
  rw [e]
  exact k h hr
theorem wp_gSv (hZ : ZO Z) {Q : α → Gh → Prop} {i : Nat} (hi : i < 6) {K : Option Nat → Mo α} (k : Wp (K (some (Z (50 + i)))) g Q) : Wp (mb (gSv Z (some (Z (10 + i)))) K) g Q := by
  refine wp_mb fun h hr => ⟨_, h, 0, 0, g, ?_, hr, rfl, rfl, k⟩
  unfold gSv
  rw [wIx_of hZ.1 hi]
theorem wp_gSc (hZ : ZO Z) {Q : α → Gh → Prop} {i : Nat} (hi : i < 6) {K : Int32 → Mo α} (k : Wp (K 0) g Q) : Wp (mb (gSc Z (some (Z (10 + i)))) K) g Q := by
  refine wp_mb fun h hr => ⟨_, h, 0, 0, g, ?_, hr, rfl, rfl, k⟩
  unfold gSc
  rw [wIx_of hZ.1 hi]
theorem wp_aSn (hZ : ZO Z) {Q : α → Gh → Prop} {i : Nat} (hi : i < 6) {K : Int32 → Mo α} (k : Wp (K (nI (wLen.getD i 0))) g Q) : Wp (mb (aSn Z (some (Z (50 + i)))) K) g Q := by
  refine wp_mb fun h hr => ⟨nI (wLen.getD i 0), h, 0, 0, g, ?_, hr, rfl, rfl, k⟩
  unfold aSn
  rw [wIx_of hZ.2 hi]
  rfl
theorem wp_aSb (hZ : ZO Z) {Q : α → Gh → Prop} {i j : Nat} (hi : i < 6) (hj : j < wLen.getD i 0) {K : Int32 → Mo α} (k : Wp (K ((wByt.getD i []).getD j 0)) g Q) : Wp (mb (aSb Z (some (Z (50 + i))) (nI j)) K) g Q := by
  have h5 : ∀ i, i < 6 → wLen.getD i 0 ≤ 5 := by decide
  have hj5 : j < 2 ^ 31 := by have := h5 i hi; omega
  refine wp_mb fun h hr => ⟨(wByt.getD i []).getD j 0, h, 0, 0, g, ?_, hr, rfl, rfl, k⟩
  unfold aSb
  rw [wIx_of hZ.2 hi]
  dsimp only
  rw [nI_clamp hj5, if_neg (fun e => e.elim (nI_pos hj5) (fun e => by omega))]
theorem w_len (hZ : ZO Z) {Q : Int32 → Gh → Prop} {i : Nat} (hi : i < 6) (k : Q (nI (wLen.getD i 0)) g) : Wp (f_J0_length_8abf5 Z (some (Z (10 + i)))) g Q := by
  unfold f_J0_length_8abf5
  refine wp_gSv hZ hi (wp_aSn hZ hi ?_)
  refine wp_mb (wp_moS hZ hi ?_)
  unfold f_J0_coder_7d493
  refine wp_neg (by decide) (wp_gSc hZ hi ?_)
  unfold f_J0_coder_7d493_14
  refine wp_rzg (by decide) (wp_mp ?_)
  have : ∀ i, i < 6 → nI (wLen.getD i 0) >>> ((0 : Int32) &&& 31) = nI (wLen.getD i 0) := by decide
  rw [this i hi]
  exact k
theorem w_chr (hZ : ZO Z) {Q : Int32 → Gh → Prop} {i j : Nat} (hi : i < 6) (hj : j < wLen.getD i 0) (k : Q ((wByt.getD i []).getD j 0) g) : Wp (f_J0_charAt_5068e Z (some (Z (10 + i))) (nI j)) g Q := by
  have h5 : ∀ i, i < 6 → wLen.getD i 0 ≤ 5 := by decide
  have hj5 := h5 i hi
  unfold f_J0_charAt_5068e
  refine wp_mb (wp_moS hZ hi ?_)
  unfold f_J0_isLatin1_aae02
  refine wp_neg (by decide) (wp_gSc hZ hi (wp_pos rfl ?_))
  refine wp_rz (.inr rfl) (wp_neg (by decide) ?_)
  refine wp_gSv hZ hi (wp_mb ?_)
  unfold f_J1_charAt_3b067
  refine wp_aSn hZ hi (wp_mb ?_)
  unfold f_J0_checkIndex_df160
  refine wp_mb ?_
  unfold f_J3_checkIndex_8e157
  refine wp_neg (nI_pos (by omega)) (wp_pos ((nI_ltI (by omega) (by omega)).mpr hj) (wp_mp (wp_mp ?_)))
  refine wp_aSb hZ hi hj ?_
  have key : ∀ i, i < 6 → ∀ j, j < wLen.getD i 0 → UInt32.toInt32 (Int32.toUInt32 ((wByt.getD i []).getD j 0 &&& (255 : Int32)) % 65536) = (wByt.getD i []).getD j 0 ∧ narrow .char (.int ((wByt.getD i []).getD j 0)) = .int ((wByt.getD i []).getD j 0) := by decide
  obtain ⟨e1, e2⟩ := key i hi j hj
  rw [e1]
  exact wp_rzg e2 (wp_rzg e2 k)
end TX
/-- what is read from while the model reads -/
def PC (B : Nat → Int32) (n ng nn : Nat) (D : Nat → Nat → Int32) : Prop := D 0 16 = nI n ∧ n ≤ 200 ∧ (∀ k, B k = if k < n then D 14 k &&& 255 else 0) ∧ D 0 3 = nI nn ∧ D 0 9 = nI ng ∧ nn ≤ 60 ∧ ng ≤ 20
abbrev frP : List Nat := [17, 18, 19, 20, 22]
theorem PC.fr {B : Nat → Int32} {n ng nn : Nat} {D D' : Nat → Nat → Int32} (h : PC B n ng nn D) (hF : FrL [21] frP D D') : PC B n ng nn D' := by
  unfold PC at h ⊢
  rw [hF.2 16 (by decide), hF.1 14 (by decide) (by decide), hF.2 3 (by decide), hF.2 9 (by decide)]
  exact h
theorem PC.bz {B : Nat → Int32} {n ng nn : Nat} {D : Nat → Nat → Int32} (h : PC B n ng nn D) : Bz B n := fun k hk => by rw [h.2.2.1 k, if_neg (by omega)]
section MP
variable {E : Es} {D : Nat → Nat → Int32} {I : Tg → Nat → Int32} {am : Nat} {B : Nat → Int32} {n ng nn : Nat} {Z : Nat → Nat}
theorem m_byteAt {Q : Int32 → Gh → Prop} (hM : ModS E am) (hP : PC B n ng nn D) {k : Nat} (hk : k < 2 ^ 31) (kk : Q (B k) (E, D, I)) : Wp (f_X12_byteAt (some am) (nI k)) (E, D, I) Q := by
  obtain ⟨h16, hn, hB, -⟩ := hP
  rw [hB k] at kk
  unfold f_X12_byteAt
  refine wm_I hM rfl ?_
  rw [h16]
  by_cases h : k < n
  · rw [if_pos h] at kk
    refine wp_neg (fun e => by have := (nI_leI (by omega) hk).mp e; omega) ?_
    refine wm_R hM (by decide) (by decide) rfl ?_
    refine wm_a hM k rfl (by show k < 200; omega) rfl (by decide) (by decide) hk ?_
    exact wp_mp kk
  · rw [if_neg h] at kk
    exact wp_pos ((nI_leI (by omega) hk).mpr (by omega)) (wp_mp kk)
theorem m_blanks {Q : Unit → Gh → Prop} (hM : ModS E am) (hP : PC B n ng nn D) {p : Nat} (hp : p ≤ 1000) (hD : D 0 17 = nI p) (kk : Q () (E, ds D 0 17 (nI (sk B n p)), I)) : Wp (f_X12_blanks (some am)) (E, D, I) Q := by
  have hn := hP.2.1
  have key : ∀ (d p fu : Nat) (D : Nat → Nat → Int32), PC B n ng nn D → D 0 17 = nI p → p ≤ 1000 → n - p ≤ d → d < fu → Q () (E, ds D 0 17 (nI (sk B n p)), I) → Wp (f_X12_blanks_0 (some am) fu) (E, D, I) Q := by
    intro d
    induction d with
    | zero =>
      intro p fu D hP hD hp hd hf kk
      cases fu with
      | zero => exact absurd hf (Nat.not_lt_zero _)
      | succ fu =>
        rw [f_X12_blanks_0]
        refine wm_I hM rfl ?_
        refine wm_I hM rfl ?_
        rw [hD, hP.1]
        refine wp_pos ((nI_leI (by omega) (by omega)).mpr (by omega)) ?_
        rw [sk_out (by omega), ds_id hD] at kk
        exact wp_mp kk
    | succ d ih =>
      intro p fu D hP hD hp hd hf kk
      cases fu with
      | zero => exact absurd hf (Nat.not_lt_zero _)
      | succ fu =>
        rw [f_X12_blanks_0]
        refine wm_I hM rfl ?_
        refine wm_I hM rfl ?_
        rw [hD, hP.1]
        by_cases hlt : p < n
        · refine wp_neg (fun e => by have := (nI_leI (by omega) (by omega)).mp e; omega) ?_
          refine wm_I hM rfl ?_
          rw [hD]
          refine wm_call hM (m_byteAt hM hP (by omega) ?_)
          refine wp_ite (fun c => ?_) (fun c => ?_)
          · rw [sk_in hlt c] at kk
            refine wm_I hM rfl ?_
            rw [hD, nI_1]
            refine wm_P hM rfl ?_
            refine ih (p + 1) fu _ (hP.fr (FrL.rf.sc (by decide))) ds_eq (by omega) (by omega) (by omega) ?_
            rw [ds_ds]
            exact kk
          · rw [sk_out (fun e => c e.2), ds_id hD] at kk
            exact wp_mp kk
        · refine wp_pos ((nI_leI (by omega) (by omega)).mpr (by omega)) ?_
          rw [sk_out (by omega), ds_id hD] at kk
          exact wp_mp kk
  unfold f_X12_blanks
  exact key n p fuL D hP hD hp (by omega) (fu_ok (by omega)) kk
theorem m_wrong0 {Q : Unit → Gh → Prop} (hM : ModS E am) {w pl : Int32} (h0 : D 0 18 = 0) (kk : Q () (E, ds (ds D 0 18 w) 0 19 pl, I)) : Wp (f_X12_wrong (some am) w pl) (E, D, I) Q := by
  unfold f_X12_wrong
  refine wm_I hM rfl ?_
  rw [h0]
  refine wp_pos (by decide) ?_
  refine wm_P hM rfl ?_
  refine wm_P hM rfl ?_
  exact wp_mp kk
theorem m_wrong1 {Q : Unit → Gh → Prop} (hM : ModS E am) {w pl : Int32} {f : Nat} (h0 : D 0 18 = nI f) (hf : f = 1 ∨ f = 2 ∨ f = 3) (kk : Q () (E, D, I)) : Wp (f_X12_wrong (some am) w pl) (E, D, I) Q := by
  unfold f_X12_wrong
  refine wm_I hM rfl ?_
  rw [h0]
  exact wp_neg (nI_nle (by omega) (by omega)) (wp_mp kk)
theorem m_isWord {Q : Int32 → Gh → Prop} (hZ : ZO Z) (hM : ModS E am) (hP : PC B n ng nn D) {p i : Nat} (hi : i < 6) (hp : p ≤ 900) (hD : D 0 17 = nI p) (kk : Q (b2i (isW B i (sk B n p))) (E, ds D 0 17 (nI (sk B n p)), I)) : Wp (f_X12_isWord Z (some am) (some (Z (10 + i)))) (E, D, I) Q := by
  have h5 : ∀ i, i < 6 → wLen.getD i 0 ≤ 5 := by decide
  have hi5 := h5 i hi
  have hn := hP.2.1
  have hq : sk B n p ≤ 900 := by
    by_cases h : p ≤ n
    · have := sk_le (B := B) (n := n) p h
      omega
    · rw [sk_out (by omega)]
      exact hp
  unfold f_X12_isWord
  refine wm_call hM (m_blanks hM hP (by omega) hD ?_)
  have hP2 : PC B n ng nn (ds D 0 17 (nI (sk B n p))) := hP.fr (FrL.rf.sc (by decide))
  generalize hq2 : sk B n p = q at kk hP2 hq
  unfold isW at kk
  have key : ∀ (d k fu : Nat), d + k = wLen.getD i 0 → d < fu → (b2i ((List.range' 0 (wLen.getD i 0)).all (fun k => decide (B (q + k) = (wByt.getD i []).getD k 0)) && !(decide (97 ≤ B (q + wLen.getD i 0)) && decide (B (q + wLen.getD i 0) ≤ 122))) = b2i ((List.range' k d).all (fun k => decide (B (q + k) = (wByt.getD i []).getD k 0)) && !(decide (97 ≤ B (q + wLen.getD i 0)) && decide (B (q + wLen.getD i 0) ≤ 122)))) → Wp (f_X12_isWord_6 Z (some am) (some (Z (10 + i))) fu (nI k)) (E, ds D 0 17 (nI q), I) Q := by
    intro d
    induction d with
    | zero =>
      intro k fu hk hf e
      cases fu with
      | zero => exact absurd hf (Nat.not_lt_zero _)
      | succ fu =>
        rw [e] at kk
        rw [f_X12_isWord_6]
        refine wp_mb (wp_moS hZ hi (w_len hZ hi ?_))
        refine wp_pos ((nI_leI (by omega) (by omega)).mpr (by omega)) ?_
        refine wm_I hM rfl ?_
        rw [ds_eq]
        refine wp_mb (wp_moS hZ hi (w_len hZ hi ?_))
        rw [nI_add]
        refine wm_call hM (m_byteAt hM hP2 (by omega) ?_)
        rw [show (List.range' k 0).all (fun k => decide (B (q + k) = (wByt.getD i []).getD k 0)) = true from rfl, Bool.true_and] at kk
        refine wp_ite (fun c => ?_) (fun c => ?_)
        · rw [decide_eq_false (Int32.not_le.mpr c)] at kk
          exact wp_rz (.inr rfl) kk
        · rw [decide_eq_true (Int32.not_lt.mp c)] at kk
          refine wp_ite (fun c2 => ?_) (fun c2 => ?_)
          · rw [decide_eq_true c2] at kk
            exact wp_rz (.inl rfl) kk
          · rw [decide_eq_false c2] at kk
            exact wp_rz (.inr rfl) kk
    | succ d ih =>
      intro k fu hk hf e
      cases fu with
      | zero => exact absurd hf (Nat.not_lt_zero _)
      | succ fu =>
        rw [show List.range' k (d + 1) = k :: List.range' (k + 1) d from rfl, List.all_cons] at e
        rw [f_X12_isWord_6]
        refine wp_mb (wp_moS hZ hi (w_len hZ hi ?_))
        refine wp_neg (fun e => by have := (nI_leI (by omega) (by omega)).mp e; omega) ?_
        refine wm_I hM rfl ?_
        rw [ds_eq, nI_add]
        refine wm_call hM (m_byteAt hM hP2 (by omega) ?_)
        refine wp_mb (wp_moS hZ hi (w_chr hZ hi (by omega) ?_))
        refine wp_ite (fun c => ?_) (fun c => ?_)
        · rw [decide_eq_true c, Bool.true_and] at e
          rw [nI_1]
          exact ih (k + 1) fu (by omega) (by omega) e
        · rw [decide_eq_false c, Bool.false_and, Bool.false_and] at e
          rw [e] at kk
          exact wp_rz (.inl rfl) kk
  exact key (wLen.getD i 0) 0 fuL (by omega) (fu_ok (by omega)) rfl
theorem m_eat {Q : Int32 → Gh → Prop} (hZ : ZO Z) (hM : ModS E am) (hP : PC B n ng nn D) {p i : Nat} (hi : i < 6) (hp : p ≤ 900) (hD : D 0 17 = nI p) (h0 : D 0 18 = 0) (k1 : isW B i (sk B n p) = true → Q 1 (E, ds D 0 17 (nI (sk B n p + wLen.getD i 0)), I)) (k2 : isW B i (sk B n p) = false → Q 0 (E, ds D 0 17 (nI (sk B n p)), I)) : Wp (f_X12_eat Z (some am) (some (Z (10 + i)))) (E, D, I) Q := by
  unfold f_X12_eat
  refine wm_I hM rfl ?_
  rw [h0]
  refine wp_pos rfl ?_
  refine wm_call hM (m_isWord hZ hM hP hi hp hD ?_)
  cases hw : isW B i (sk B n p) with
  | true =>
    refine wp_neg (by decide) ?_
    unfold f_X12_eat_20
    refine wp_neg (by decide) ?_
    refine wm_I hM rfl ?_
    rw [ds_eq]
    refine wp_mb (wp_moS hZ hi (w_len hZ hi ?_))
    rw [nI_add]
    refine wm_P hM rfl ?_
    rw [ds_ds]
    exact wp_rz (.inr rfl) (k1 hw)
  | false =>
    refine wp_pos rfl ?_
    unfold f_X12_eat_19 f_X12_eat_20
    exact wp_pos rfl (wp_rz (.inl rfl) (k2 hw))
theorem m_eat1 {Q : Int32 → Gh → Prop} (hM : ModS E am) {i f : Nat} (h0 : D 0 18 = nI f) (hf : f = 1 ∨ f = 2 ∨ f = 3) (k : Q 0 (E, D, I)) : Wp (f_X12_eat Z (some am) (some (Z (10 + i)))) (E, D, I) Q := by
  unfold f_X12_eat
  refine wm_I hM rfl ?_
  rw [h0]
  refine wp_neg (nI_ne0 (by omega) (by omega)) ?_
  unfold f_X12_eat_19 f_X12_eat_20
  exact wp_pos rfl (wp_rz (.inl rfl) k)
theorem m_opens {Q : Int32 → Gh → Prop} (hM : ModS E am) {d : Nat} {p : Int32} (hd : D 0 20 = nI d) (hd10 : d ≤ 10) (h0 : D 0 18 = 0) (hp : D 0 17 = p) (k1 : d = 10 → Q 0 (E, ds (ds D 0 18 3) 0 19 p, I)) (k2 : d < 10 → Q 1 (E, ds D 0 20 (nI (d + 1)), I)) : Wp (f_X12_opens (some am)) (E, D, I) Q := by
  unfold f_X12_opens
  refine wm_I hM rfl ?_
  rw [hd]
  by_cases h : d = 10
  · subst h
    refine wp_pos rfl ?_
    refine wm_I hM rfl ?_
    rw [hp]
    refine wm_call hM (m_wrong0 hM h0 ?_)
    unfold f_X12_opens_31
    refine wm_I hM rfl ?_
    rw [ds_ne (by decide), ds_eq]
    exact wp_neg (by decide) (wp_rz (.inl rfl) (k1 rfl))
  · refine wp_neg (fun e => h ((nI_eq (b := 10) (by omega) (by omega)).mp e)) ?_
    refine wm_I hM rfl ?_
    rw [hd, nI_1]
    refine wm_P hM rfl ?_
    unfold f_X12_opens_31
    refine wm_I hM rfl ?_
    rw [ds_ne (by decide), h0]
    exact wp_pos rfl (wp_rz (.inr rfl) (k2 (by omega)))
end MP
