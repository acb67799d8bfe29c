/-! ===== the model: small calls ===== -/
section MA
variable {E : Es} {D : Nat → Nat → Int32} {I : Tg → Nat → Int32} {Q : Int32 → Gh → Prop} {am : Nat}
theorem m_none (hM : ModS E am) {x n : Int32} (h0 : D 0 0 = 0) (k1 : ¬ x < 0 → x < n → Q 0 (E, D, I)) (k2 : (x < 0 ∨ ¬ x < n) → Q 1 (E, ds D 0 0 1, I)) : Wp (f_X12_none (some am) x n) (E, D, I) Q := by
  have bad : (x < 0 ∨ ¬ x < n) → Wp (f_X12_none_9 (some am)) (E, D, I) Q := fun h => by
    unfold f_X12_none_9
    refine wm_P hM rfl ?_
    unfold f_X12_none_14
    refine wm_I hM rfl ?_
    refine wp_neg (by rw [ds_eq]; decide) ?_
    exact wp_rz (.inr rfl) (k2 h)
  unfold f_X12_none
  refine wp_ite (fun h => bad (.inl h)) (fun h => wp_ite (fun h2 => ?_) (fun h2 => bad (.inr h2)))
  unfold f_X12_none_14
  refine wm_I hM rfl ?_
  refine wp_pos (by rw [h0]; decide) ?_
  exact wp_rz (.inl rfl) (k1 h h2)
theorem m_bad0 (hM : ModS E am) {c : Int32} (k : Q 0 (E, D, I)) : Wp (f_X12_bad (some am) 0 c) (E, D, I) Q := by
  unfold f_X12_bad
  refine wp_pos rfl ?_
  exact wp_rz (.inl rfl) k
theorem m_bad1 (hM : ModS E am) {c : Int32} (k : Q 1 (E, ds D 0 0 c, I)) : Wp (f_X12_bad (some am) 1 c) (E, D, I) Q := by
  unfold f_X12_bad
  refine wp_neg (by decide) ?_
  refine wm_P hM rfl ?_
  exact wp_rz (.inr rfl) k
theorem m_node (hM : ModS E am) {x : Int32} {nn : Nat} (hn : D 0 3 = nI nn) (hb : nn ≤ 60) (k1 : (x < 0 ∨ ¬ x < nI nn) → ∀ r, Q r (E, ds D 0 0 1, I)) (k2 : ¬ x < 0 → x < nI nn → nn = 60 → ∀ r, Q r (E, ds D 0 0 2, I)) (k3 : ¬ x < 0 → x < nI nn → nn < 60 → Q (nI nn) (E, ds (ds (ds D 0 0 0) 1 nn x) 0 3 (nI (nn + 1)), I)) : Wp (f_X12_node (some am) x) (E, D, I) Q := by
  unfold f_X12_node
  refine wm_P hM rfl ?_
  refine wm_I hM rfl ?_
  rw [ds_ne (by omega), hn]
  refine wm_call hM (m_none hM ds_eq (fun h1 h2 => ?_) (fun h => ?_))
  · refine wp_pos rfl ?_
    refine wm_I hM rfl ?_
    rw [ds_ne (by omega), hn]
    by_cases h : nn = 60
    · subst h
      refine wp_pos rfl ?_
      unfold f_X12_node_32
      refine wm_call hM (m_bad1 hM ?_)
      refine wp_neg (by decide) ?_
      rw [ds_ds]
      exact wp_mp (k2 h1 h2 rfl 0)
    · refine wp_neg (fun e => h ((nI_eq (by omega) (by omega)).mp e)) ?_
      unfold f_X12_node_32
      refine wm_call hM (m_bad0 hM ?_)
      refine wp_pos rfl ?_
      refine wm_R hM (by decide) (by decide) rfl ?_
      refine wm_I hM rfl ?_
      rw [ds_ne (by omega), hn]
      refine wm_s hM nn rfl (by show nn < 60; omega) rfl (by decide) (by decide) (by omega) ?_
      refine wm_I hM rfl ?_
      rw [ds_ne (by omega), ds_ne (by omega), hn, nI_1]
      refine wm_P hM rfl ?_
      refine wm_I hM rfl ?_
      rw [ds_eq, nI_pred]
      exact wp_mp (k3 h1 h2 (by omega))
  · refine wp_neg (by decide) ?_
    rw [ds_ds]
    exact wp_mp (k1 h 0)
theorem m_block (hM : ModS E am) {x b : Int32} {nn : Nat} (hn : D 0 3 = nI nn) (hb : nn ≤ 60) (hbl : ∀ i, i < nn → D 2 i = 0 ∨ D 2 i = 1) (hz : b = 0 ∨ b = 1) (k1 : (x < 0 ∨ ¬ x < nI nn) → ∀ r, Q r (E, ds D 0 0 1, I)) (k3 : ∀ i, i < nn → x = nI i → Q (D 2 i) (E, ds (ds D 0 0 0) 2 i b, I)) : Wp (f_X12_block (some am) x b) (E, D, I) Q := by
  unfold f_X12_block
  refine wm_P hM rfl ?_
  refine wm_I hM rfl ?_
  rw [ds_ne (by omega), hn]
  refine wm_call hM (m_none hM ds_eq (fun h1 h2 => ?_) (fun h => ?_))
  · obtain ⟨i, hi, rfl⟩ := nI_of h1
    have hi2 : i < nn := (nI_ltI hi (by omega)).mp h2
    refine wp_pos rfl ?_
    refine wm_R hM (by decide) (by decide) rfl ?_
    refine wm_a hM i rfl (by show i < 60; omega) rfl (by decide) (by decide) (by omega) ?_
    rw [ds_ne (by omega)]
    refine wm_R hM (by decide) (by decide) rfl ?_
    refine wm_s hM i rfl (by show i < 60; omega) rfl (by decide) (by decide) (by omega) ?_
    rw [show kp 3 b = b by rcases hz with rfl | rfl <;> rfl]
    exact wp_rz (hbl i hi2) (k3 i hi2 rfl)
  · refine wp_neg (by decide) ?_
    rw [ds_ds]
    exact wp_rz (.inl rfl) (k1 h 0)
theorem m_isBelow_2 (hM : ModS E am) {nn top : Nat} (hb : nn ≤ 60) (ht : top < 2 ^ 31) : ∀ (w : List Nat) (n : Nat) (v : Int32), Chn (D 1) nn w v → w.length < n → Q (if top ∈ w then 1 else 0) (E, D, I) → Wp (f_X12_isBelow_2 (some am) (nI top) n v) (E, D, I) Q := by
  intro w
  induction w with
  | nil =>
    intro n v h hn k
    cases n with
    | zero => exact absurd hn (Nat.not_lt_zero _)
    | succ n =>
      have h : v = -1 := h
      subst h
      rw [f_X12_isBelow_2]
      refine wp_pos (by decide) ?_
      unfold f_X12_isBelow_21
      refine wp_pos (by decide) ?_
      exact wp_rz (.inl rfl) k
  | cons x r ih =>
    intro n v h hn k
    cases n with
    | zero => exact absurd hn (Nat.not_lt_zero _)
    | succ n =>
      obtain ⟨rfl, hx, h2⟩ := h
      rw [f_X12_isBelow_2]
      refine wp_neg (nI_pos (by omega)) ?_
      by_cases he : x = top
      · subst he
        refine wp_pos rfl ?_
        unfold f_X12_isBelow_21
        refine wp_neg (nI_pos (by omega)) ?_
        rw [if_pos List.mem_cons_self] at k
        exact wp_rz (.inr rfl) k
      · refine wp_neg (fun e => he ((nI_eq (by omega) ht).mp e)) ?_
        refine wm_R hM (by decide) (by decide) rfl ?_
        refine wm_a hM x rfl (by show x < 60; omega) rfl (by decide) (by decide) (by omega) ?_
        refine ih n _ h2 (by rw [List.length_cons] at hn; omega) ?_
        have e : (top ∈ x :: r) = (top ∈ r) := by
          rw [List.mem_cons]
          exact propext ⟨fun h => h.elim (fun e => absurd e.symm he) id, .inr⟩
        simp only [e] at k
        exact k
theorem fu_ok {n : Nat} (h : n < 99999) : n < fuL := by unfold fuL; omega
theorem m_isBelow (hM : ModS E am) {nn top : Nat} (hb : nn ≤ 60) (ht : top < 2 ^ 31) {w : List Nat} {v : Int32} (hc : Chn (D 1) nn w v) (k : Q (if top ∈ w then 1 else 0) (E, D, I)) : Wp (f_X12_isBelow (some am) v (nI top)) (E, D, I) Q := by
  unfold f_X12_isBelow
  exact m_isBelow_2 hM hb ht w fuL v hc (fu_ok (by have := chn_len hb hc; omega)) k
/-- the new machine's facts -/
def dfl (D : Nat → Nat → Int32) (m : Nat) : Nat → (Nat → Nat → Int32)
  | 0 => D
  | f + 1 => ds (dfl D m f) 5 (8 * m + f) (-1)
theorem dfl_ne {D : Nat → Nat → Int32} {m : Nat} {j : Nat} (h : j ≠ 5) : ∀ f, dfl D m f j = D j := by
  intro f
  induction f with
  | zero => rfl
  | succ f ih => rw [dfl, ds_row h, ih]
theorem m_machine_53 (hM : ModS E am) {nm : Nat} (hb : nm < 60) (hn : D 0 7 = nI nm) (k : Q (nI nm) (E, ds (dfl D nm 8) 0 7 (nI (nm + 1)), I)) : ∀ (d f n : Nat), d + f = 8 → d < n → Wp (f_X12_machine_53 (some am) n (nI f)) (E, dfl D nm f, I) Q := by
  intro d
  induction d with
  | zero =>
    intro f n hf hn2
    cases n with
    | zero => exact absurd hn2 (Nat.not_lt_zero _)
    | succ n =>
      have hf : f = 8 := by omega
      subst hf
      rw [f_X12_machine_53]
      refine wp_pos (by decide) ?_
      refine wm_I hM rfl ?_
      rw [dfl_ne (by omega), hn, nI_1]
      refine wm_P hM rfl ?_
      refine wm_I hM rfl ?_
      rw [ds_eq, nI_pred]
      exact wp_mp k
  | succ d ih =>
    intro f n hf hn2
    cases n with
    | zero => exact absurd hn2 (Nat.not_lt_zero _)
    | succ n =>
      rw [f_X12_machine_53]
      refine wp_neg (fun e => by have := (nI_leI (a := 8) (b := f) (by omega) (by omega)).mp e; omega) ?_
      refine wm_R hM (by decide) (by decide) rfl ?_
      refine wm_I hM rfl ?_
      rw [dfl_ne (by omega), hn]
      refine wm_s hM (8 * nm + f) ?_ (by show 8 * nm + f < 480; omega) rfl (by decide) (by decide) (by omega) ?_
      · rw [show (8 : Int32) = nI 8 from rfl, pk_mul, nI_add]
      · rw [nI_1]
        exact ih (f + 1) n (by omega) (by omega)
theorem m_machine (hM : ModS E am) {x : Int32} {nn nm : Nat} (hn : D 0 3 = nI nn) (hb : nn ≤ 60) (hm : D 0 7 = nI nm) (hbm : nm ≤ 60) (k1 : (x < 0 ∨ ¬ x < nI nn) → ∀ r, Q r (E, ds D 0 0 1, I)) (k2 : ¬ x < 0 → x < nI nn → nm = 60 → ∀ r, Q r (E, ds D 0 0 2, I)) (k3 : ¬ x < 0 → x < nI nn → nm < 60 → Q (nI nm) (E, ds (dfl (ds (ds D 0 0 0) 4 nm x) nm 8) 0 7 (nI (nm + 1)), I)) : Wp (f_X12_machine (some am) x) (E, D, I) Q := by
  unfold f_X12_machine
  refine wm_P hM rfl ?_
  refine wm_I hM rfl ?_
  rw [ds_ne (by omega), hn]
  refine wm_call hM (m_none hM ds_eq (fun h1 h2 => ?_) (fun h => ?_))
  · refine wp_pos rfl ?_
    refine wm_I hM rfl ?_
    rw [ds_ne (by omega), hm]
    by_cases h : nm = 60
    · subst h
      refine wp_pos rfl ?_
      unfold f_X12_machine_32
      refine wm_call hM (m_bad1 hM ?_)
      refine wp_neg (by decide) ?_
      rw [ds_ds]
      exact wp_mp (k2 h1 h2 rfl 0)
    · refine wp_neg (fun e => h ((nI_eq (by omega) (by omega)).mp e)) ?_
      unfold f_X12_machine_32
      refine wm_call hM (m_bad0 hM ?_)
      refine wp_pos rfl ?_
      refine wm_R hM (by decide) (by decide) rfl ?_
      refine wm_I hM rfl ?_
      rw [ds_ne (by omega), hm]
      refine wm_s hM nm rfl (by show nm < 60; omega) rfl (by decide) (by decide) (by omega) ?_
      exact m_machine_53 (D := ds (ds D 0 0 0) 4 nm (kp 1 x)) hM (by omega) (by rw [ds_ne (by omega), ds_ne (by omega), hm]) (k3 h1 h2 (by omega)) 8 0 fuL (by omega) (fu_ok (by omega))
  · refine wp_neg (by decide) ?_
    rw [ds_ds]
    exact wp_mp (k1 h 0)
theorem m_fact (hM : ModS E am) {x f v : Int32} {nm : Nat} (hm : D 0 7 = nI nm) (hbm : nm ≤ 60) (k1 : (x < 0 ∨ ¬ x < nI nm) → ∀ r, Q r (E, ds D 0 0 1, I)) (k2 : ¬ x < 0 → x < nI nm → (f < 0 ∨ ¬ f < 8 ∨ v < -1 ∨ ¬ v ≤ 1) → ∀ r, Q r (E, ds D 0 0 2, I)) (k3 : ∀ i j, i < nm → x = nI i → j < 8 → f = nI j → ¬ v < -1 → v ≤ 1 → Q (D 5 (8 * i + j)) (E, ds (ds D 0 0 0) 5 (8 * i + j) v, I)) : Wp (f_X12_fact (some am) x f v) (E, D, I) Q := by
  unfold f_X12_fact
  refine wm_P hM rfl ?_
  refine wm_I hM rfl ?_
  rw [ds_ne (by omega), hm]
  refine wm_call hM (m_none hM ds_eq (fun h1 h2 => ?_) (fun h => ?_))
  · refine wp_pos rfl ?_
    have bad : (f < 0 ∨ ¬ f < 8 ∨ v < -1 ∨ ¬ v ≤ 1) → Wp (f_X12_fact_38 (some am) x f v (some am)) (E, ds D 0 0 0, I) Q := fun h => by
      unfold f_X12_fact_38 f_X12_fact_43
      refine wm_call hM (m_bad1 hM ?_)
      refine wp_neg (by decide) ?_
      rw [ds_ds]
      exact wp_mp (k2 h1 h2 h 0)
    refine wp_ite (fun c => bad (.inl c)) (fun c1 => wp_ite (fun c => bad (.inr (.inl (Int32.not_lt.mpr c)))) (fun c2 => wp_ite (fun c => bad (.inr (.inr (.inl c)))) (fun c3 => wp_ite (fun c4 => ?_) (fun c => bad (.inr (.inr (.inr c)))))))
    obtain ⟨i, hi, rfl⟩ := nI_of h1
    have hi2 : i < nm := (nI_ltI hi (by omega)).mp h2
    obtain ⟨j, hj, rfl⟩ := nI_of c1
    have hj2 : j < 8 := (nI_ltI (b := 8) hj (by omega)).mp (Int32.not_le.mp c2)
    have e : (8 : Int32) * nI i + nI j = nI (8 * i + j) := by rw [show (8 : Int32) = nI 8 from rfl, pk_mul, nI_add]
    unfold f_X12_fact_43
    refine wm_call hM (m_bad0 hM ?_)
    refine wp_pos rfl ?_
    refine wm_R hM (by decide) (by decide) rfl ?_
    refine wm_a hM (8 * i + j) e (by show 8 * i + j < 480; omega) rfl (by decide) (by decide) (by omega) ?_
    rw [ds_ne (by omega)]
    refine wm_R hM (by decide) (by decide) rfl ?_
    refine wm_s hM (8 * i + j) e (by show 8 * i + j < 480; omega) rfl (by decide) (by decide) (by omega) ?_
    exact wp_mp (k3 i j hi2 rfl hj2 rfl c3 c4)
  · refine wp_neg (by decide) ?_
    rw [ds_ds]
    exact wp_mp (k1 h 0)
theorem m_group (hM : ModS E am) {ng : Nat} (hn : D 0 9 = nI ng) (hb : ng ≤ 20) (k2 : ng = 20 → ∀ r, Q r (E, ds D 0 0 1, I)) (k3 : ng < 20 → Q (nI ng) (E, ds (ds D 0 0 0) 0 9 (nI (ng + 1)), I)) : Wp (f_X12_group (some am)) (E, D, I) Q := by
  unfold f_X12_group
  refine wm_P hM rfl ?_
  refine wm_I hM rfl ?_
  rw [ds_ne (by omega), hn]
  by_cases h : ng = 20
  · subst h
    refine wp_pos rfl ?_
    unfold f_X12_group_20
    refine wm_call hM (m_bad1 hM ?_)
    refine wp_neg (by decide) ?_
    rw [ds_ds]
    exact wp_mp (k2 rfl 0)
  · refine wp_neg (fun e => h ((nI_eq (by omega) (by omega)).mp e)) ?_
    unfold f_X12_group_20
    refine wm_call hM (m_bad0 hM ?_)
    refine wp_pos rfl ?_
    refine wm_I hM rfl ?_
    rw [ds_ne (by omega), hn, nI_1]
    refine wm_P hM rfl ?_
    refine wm_I hM rfl ?_
    rw [ds_eq, nI_pred]
    exact wp_mp (k3 (by omega))
theorem m_set (hM : ModS E am) {ns : Nat} (hn : D 0 12 = nI ns) (hb : ns ≤ 40) (k2 : ns = 40 → ∀ r, Q r (E, ds D 0 0 1, I)) (k3 : ns < 40 → Q (nI ns) (E, ds (ds D 0 0 0) 0 12 (nI (ns + 1)), I)) : Wp (f_X12_set (some am)) (E, D, I) Q := by
  unfold f_X12_set
  refine wm_P hM rfl ?_
  refine wm_I hM rfl ?_
  rw [ds_ne (by omega), hn]
  by_cases h : ns = 40
  · subst h
    refine wp_pos rfl ?_
    unfold f_X12_set_20
    refine wm_call hM (m_bad1 hM ?_)
    refine wp_neg (by decide) ?_
    rw [ds_ds]
    exact wp_mp (k2 rfl 0)
  · refine wp_neg (fun e => h ((nI_eq (by omega) (by omega)).mp e)) ?_
    unfold f_X12_set_20
    refine wm_call hM (m_bad0 hM ?_)
    refine wp_pos rfl ?_
    refine wm_I hM rfl ?_
    rw [ds_ne (by omega), hn, nI_1]
    refine wm_P hM rfl ?_
    refine wm_I hM rfl ?_
    rw [ds_eq, nI_pred]
    exact wp_mp (k3 (by omega))
/-- a bit put as told, the model's way -/
def bput (x : Int32) (g : Nat) (b : Bool) : Int32 := if bt x g = b then x else x ^^^ ((1 : Int32) <<< (nI g &&& 31))
def b2i (b : Bool) : Int32 := if b then 1 else 0
theorem m_bz {b : Int32} (hz : b = 0 ∨ b = 1) (c : Bool) : (b2i c = b) ↔ c = decide (b = 1) := by
  rcases hz with rfl | rfl <;> cases c <;> decide
theorem m_joins (hM : ModS E am) {x y b : Int32} {ng nm : Nat} (hn : D 0 9 = nI ng) (hb : ng ≤ 20) (hm : D 0 7 = nI nm) (hbm : nm ≤ 60) (hz : b = 0 ∨ b = 1) (k1 : (x < 0 ∨ ¬ x < nI ng) → ∀ r, Q r (E, ds D 0 0 1, I)) (k2 : ¬ x < 0 → x < nI ng → (y < 0 ∨ ¬ y < nI nm) → ∀ r, Q r (E, ds D 0 0 1, I)) (k3 : ∀ g m, g < ng → x = nI g → m < nm → y = nI m → Q (b2i (bt (D 6 m) g)) (E, ds (ds D 0 0 0) 6 m (bput (D 6 m) g (decide (b = 1))), I)) : Wp (f_X12_joins (some am) x y b) (E, D, I) Q := by
  unfold f_X12_joins
  refine wm_P hM rfl ?_
  refine wm_I hM rfl ?_
  rw [ds_ne (by omega), hn]
  refine wm_call hM (m_none hM ds_eq (fun h1 h2 => ?_) (fun h => ?_))
  · refine wp_pos rfl ?_
    refine wm_I hM rfl ?_
    rw [ds_ne (by omega), hm]
    refine wm_call hM (m_none hM ds_eq (fun h3 h4 => ?_) (fun h => ?_))
    · obtain ⟨g, hg, rfl⟩ := nI_of h1
      have hg2 : g < ng := (nI_ltI hg (by omega)).mp h2
      obtain ⟨m, hm3, rfl⟩ := nI_of h3
      have hm2 : m < nm := (nI_ltI hm3 (by omega)).mp h4
      refine wp_pos rfl ?_
      refine wm_R hM (by decide) (by decide) rfl ?_
      refine wm_a hM m rfl (by show m < 60; omega) rfl (by decide) (by decide) (by omega) ?_
      rw [ds_ne (by omega), bt_sar _ (by omega)]
      have key : ∀ c, bt (D 6 m) g = c → Wp (f_X12_joins_50 (some am) (nI g) (nI m) b (b2i c)) (E, ds D 0 0 0, I) Q := fun c hc => by
        have k3 := k3 g m hg2 rfl hm2 rfl
        unfold bput at k3
        rw [hc] at k3
        have hr : b2i c = 0 ∨ b2i c = 1 := by cases c; exact .inl rfl; exact .inr rfl
        unfold f_X12_joins_50
        by_cases e : c = decide (b = 1)
        · refine wp_pos ((m_bz hz c).mpr e) ?_
          rw [if_pos e, ds_id (by rw [ds_ne (by omega)])] at k3
          exact wp_rz hr k3
        · refine wp_neg (fun h => e ((m_bz hz c).mp h)) ?_
          rw [if_neg e] at k3
          refine wm_R hM (by decide) (by decide) rfl ?_
          refine wm_a hM m rfl (by show m < 60; omega) rfl (by decide) (by decide) (by omega) ?_
          rw [ds_ne (by omega)]
          refine wm_s hM m rfl (by show m < 60; omega) rfl (by decide) (by decide) (by omega) ?_
          exact wp_rz hr k3
      cases hc : bt (D 6 m) g with
      | true => exact wp_pos rfl (key true hc)
      | false => exact wp_neg (by decide) (key false hc)
    · refine wp_neg (by decide) ?_
      rw [ds_ds]
      exact wp_rz (.inl rfl) (k2 h1 h2 h 0)
  · refine wp_neg (by decide) ?_
    rw [ds_ds]
    exact wp_rz (.inl rfl) (k1 h 0)
theorem m_within (hM : ModS E am) {x y b : Int32} {ng : Nat} (hn : D 0 9 = nI ng) (hb : ng ≤ 20) (hz : b = 0 ∨ b = 1) (k1 : (x < 0 ∨ ¬ x < nI ng) → ∀ r, Q r (E, ds D 0 0 1, I)) (k2 : ¬ x < 0 → x < nI ng → (y < 0 ∨ ¬ y < nI ng) → ∀ r, Q r (E, ds D 0 0 1, I)) (k3 : ∀ g m, g < ng → x = nI g → m < ng → y = nI m → Q (b2i (bt (D 8 g) m)) (E, ds (ds D 0 0 0) 8 g (bput (D 8 g) m (decide (b = 1))), I)) : Wp (f_X12_within (some am) x y b) (E, D, I) Q := by
  unfold f_X12_within
  refine wm_P hM rfl ?_
  refine wm_I hM rfl ?_
  rw [ds_ne (by omega), hn]
  refine wm_call hM (m_none hM ds_eq (fun h1 h2 => ?_) (fun h => ?_))
  · refine wp_pos rfl ?_
    refine wm_I hM rfl ?_
    rw [ds_ne (by omega), hn]
    refine wm_call hM (m_none hM ds_eq (fun h3 h4 => ?_) (fun h => ?_))
    · obtain ⟨g, hg, rfl⟩ := nI_of h1
      have hg2 : g < ng := (nI_ltI hg (by omega)).mp h2
      obtain ⟨m, hm3, rfl⟩ := nI_of h3
      have hm2 : m < ng := (nI_ltI hm3 (by omega)).mp h4
      refine wp_pos rfl ?_
      refine wm_R hM (by decide) (by decide) rfl ?_
      refine wm_a hM g rfl (by show g < 20; omega) rfl (by decide) (by decide) (by omega) ?_
      rw [ds_ne (by omega), bt_sar _ (by omega)]
      have key : ∀ c, bt (D 8 g) m = c → Wp (f_X12_within_50 (some am) (nI g) (nI m) b (b2i c)) (E, ds D 0 0 0, I) Q := fun c hc => by
        have k3 := k3 g m hg2 rfl hm2 rfl
        unfold bput at k3
        rw [hc] at k3
        have hr : b2i c = 0 ∨ b2i c = 1 := by cases c; exact .inl rfl; exact .inr rfl
        unfold f_X12_within_50
        by_cases e : c = decide (b = 1)
        · refine wp_pos ((m_bz hz c).mpr e) ?_
          rw [if_pos e, ds_id (by rw [ds_ne (by omega)])] at k3
          exact wp_rz hr k3
        · refine wp_neg (fun h => e ((m_bz hz c).mp h)) ?_
          rw [if_neg e] at k3
          refine wm_R hM (by decide) (by decide) rfl ?_
          refine wm_a hM g rfl (by show g < 20; omega) rfl (by decide) (by decide) (by omega) ?_
          rw [ds_ne (by omega)]
          refine wm_s hM g rfl (by show g < 20; omega) rfl (by decide) (by decide) (by omega) ?_
          exact wp_rz hr k3
      cases hc : bt (D 8 g) m with
      | true => exact wp_pos rfl (key true hc)
      | false => exact wp_neg (by decide) (key false hc)
    · refine wp_neg (by decide) ?_
      rw [ds_ds]
      exact wp_rz (.inl rfl) (k2 h1 h2 h 0)
  · refine wp_neg (by decide) ?_
    rw [ds_ds]
    exact wp_rz (.inl rfl) (k1 h 0)
end MA
