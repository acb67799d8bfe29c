/-! ===== the model: sets, laws, the tape, ends, counts ===== -/
section MB
variable {E : Es} {D : Nat → Nat → Int32} {I : Tg → Nat → Int32} {Q : Int32 → Gh → Prop} {am : Nat}
theorem m_isSetting {x : Int32} {g : Gh} (k1 : ∀ s, s < 12 → x = nI s → Q 1 g) (k2 : (x < 0 ∨ ¬ x < 12) → Q 0 g) : Wp (f_X12_isSetting x) g Q := by
  unfold f_X12_isSetting
  refine wp_ite (fun h => wp_rz (.inl rfl) (k2 (.inl h))) (fun h => wp_ite (fun h2 => wp_rz (.inl rfl) (k2 (.inr (Int32.not_lt.mpr h2)))) (fun h2 => ?_))
  obtain ⟨s, hs, rfl⟩ := nI_of h
  exact wp_rz (.inr rfl) (k1 s ((nI_ltI (b := 12) hs (by omega)).mp (Int32.not_le.mp h2)) rfl)
theorem m_tells (hM : ModS E am) {set s : Nat} (h1 : set < 40) (h2 : s < 12) (k : Q (b2i (bt (D 10 set) s)) (E, D, I)) : Wp (f_X12_tells (some am) (nI set) (nI s)) (E, D, I) Q := by
  unfold f_X12_tells
  refine wm_R hM (by decide) (by decide) rfl ?_
  refine wm_a hM set rfl (by show set < 40; omega) rfl (by decide) (by decide) (by omega) ?_
  rw [bt_sar _ (by omega)]
  cases hc : bt (D 10 set) s with
  | true => rw [hc] at k; exact wp_pos rfl (wp_rz (.inr rfl) k)
  | false => rw [hc] at k; exact wp_neg (by decide) (wp_rz (.inl rfl) k)
theorem m_tell (hM : ModS E am) {x y v : Int32} {ns : Nat} (hn : D 0 12 = nI ns) (hb : ns ≤ 40) (k1 : (x < 0 ∨ ¬ x < nI ns) → ∀ r, Q r (E, ds D 0 0 1, I)) (k2 : ¬ x < 0 → x < nI ns → (y < 0 ∨ ¬ y < 12) → ∀ r, Q r (E, ds D 0 0 2, I)) (k3 : ∀ set s, set < ns → x = nI set → s < 12 → y = nI s → Q (b2i (!(bt (D 10 set) s && decide (D 11 (12 * set + s) = v)))) (E, ds (ds (ds D 0 0 0) 10 set (D 10 set ||| ((1 : Int32) <<< (nI s &&& 31)))) 11 (12 * set + s) v, I)) : Wp (f_X12_tell (some am) x y v) (E, D, I) Q := by
  unfold f_X12_tell
  refine wm_P hM rfl ?_
  refine wm_I hM rfl ?_
  rw [ds_ne (by omega), hn]
  refine wm_call hM (m_none hM ds_eq (fun h1 h2 => ?_) (fun h => ?_))
  · refine wp_pos rfl ?_
    obtain ⟨set, hg, rfl⟩ := nI_of h1
    have hs : set < ns := (nI_ltI hg (by omega)).mp h2
    refine wp_mb (m_isSetting (fun s hs2 e => ?_) (fun h => ?_))
    · subst e
      refine wp_neg (by decide) ?_
      unfold f_X12_tell_30
      refine wm_call hM (m_bad0 hM ?_)
      refine wp_pos rfl ?_
      have e12 : (12 : Int32) * nI set + nI s = nI (12 * set + s) := by rw [show (12 : Int32) = nI 12 from rfl, pk_mul, nI_add]
      have fin : ∀ c, b2i (!(bt (D 10 set) s && decide (D 11 (12 * set + s) = v))) = c → (c = 0 ∨ c = 1) → Wp (f_X12_tell_68 (some am) (nI set) (nI s) v c) (E, ds D 0 0 0, I) Q := fun c hc hz => by
        have k3 := k3 set s hs rfl hs2 rfl
        rw [hc] at k3
        unfold f_X12_tell_68
        refine wm_R hM (by decide) (by decide) rfl ?_
        refine wm_a hM set rfl (by show set < 40; omega) rfl (by decide) (by decide) (by omega) ?_
        rw [ds_ne (by omega)]
        refine wm_s hM set rfl (by show set < 40; omega) rfl (by decide) (by decide) (by omega) ?_
        refine wm_R hM (by decide) (by decide) rfl ?_
        refine wm_s hM (12 * set + s) e12 (by show 12 * set + s < 480; omega) rfl (by decide) (by decide) (by omega) ?_
        exact wp_rz hz k3
      refine wm_call hM (m_tells hM (by omega) hs2 ?_)
      rw [ds_ne (by omega)]
      cases hc : bt (D 10 set) s with
      | false =>
        refine wp_pos rfl ?_
        exact fin 1 (by rw [hc]; rfl) (.inr rfl)
      | true =>
        refine wp_neg (by decide) ?_
        refine wm_R hM (by decide) (by decide) rfl ?_
        refine wm_a hM (12 * set + s) e12 (by show 12 * set + s < 480; omega) rfl (by decide) (by decide) (by omega) ?_
        rw [ds_ne (by omega)]
        refine wp_ite (fun h => ?_) (fun h => ?_)
        · exact fin 0 (by rw [hc, decide_eq_true h]; rfl) (.inl rfl)
        · exact fin 1 (by rw [hc, decide_eq_false h]; rfl) (.inr rfl)
    · refine wp_pos rfl ?_
      unfold f_X12_tell_30
      refine wm_call hM (m_bad1 hM ?_)
      refine wp_neg (by decide) ?_
      rw [ds_ds]
      exact wp_rz (.inl rfl) (k2 h1 h2 h 0)
  · refine wp_neg (by decide) ?_
    rw [ds_ds]
    exact wp_rz (.inl rfl) (k1 h 0)
theorem m_untell (hM : ModS E am) {x y : Int32} {ns : Nat} (hn : D 0 12 = nI ns) (hb : ns ≤ 40) (k1 : (x < 0 ∨ ¬ x < nI ns) → ∀ r, Q r (E, ds D 0 0 1, I)) (k2 : ¬ x < 0 → x < nI ns → (y < 0 ∨ ¬ y < 12) → ∀ r, Q r (E, ds D 0 0 2, I)) (k3 : ∀ set s, set < ns → x = nI set → s < 12 → y = nI s → Q (b2i (bt (D 10 set) s)) (E, ds (ds D 0 0 0) 10 set (bput (D 10 set) s false), I)) : Wp (f_X12_untell (some am) x y) (E, D, I) Q := by
  unfold f_X12_untell
  refine wm_P hM rfl ?_
  refine wm_I hM rfl ?_
  rw [ds_ne (by omega), hn]
  refine wm_call hM (m_none hM ds_eq (fun h1 h2 => ?_) (fun h => ?_))
  · refine wp_pos rfl ?_
    obtain ⟨set, hg, rfl⟩ := nI_of h1
    have hs : set < ns := (nI_ltI hg (by omega)).mp h2
    refine wp_mb (m_isSetting (fun s hs2 e => ?_) (fun h => ?_))
    · subst e
      have k3 := k3 set s hs rfl hs2 rfl
      unfold bput at k3
      refine wp_neg (by decide) ?_
      unfold f_X12_untell_30
      refine wm_call hM (m_bad0 hM ?_)
      refine wp_pos rfl ?_
      refine wm_call hM (m_tells hM (by omega) hs2 ?_)
      rw [ds_ne (by omega)]
      cases hc : bt (D 10 set) s with
      | false =>
        rw [hc, if_pos rfl, ds_id (by rw [ds_ne (by omega)])] at k3
        refine wp_pos rfl ?_
        exact wp_rz (.inl rfl) k3
      | true =>
        rw [hc, if_neg (by decide)] at k3
        refine wp_neg (by decide) ?_
        refine wm_R hM (by decide) (by decide) rfl ?_
        refine wm_a hM set rfl (by show set < 40; omega) rfl (by decide) (by decide) (by omega) ?_
        rw [ds_ne (by omega)]
        refine wm_s hM set rfl (by show set < 40; omega) rfl (by decide) (by decide) (by omega) ?_
        exact wp_rz (.inr rfl) k3
    · refine wp_pos rfl ?_
      unfold f_X12_untell_30
      refine wm_call hM (m_bad1 hM ?_)
      refine wp_neg (by decide) ?_
      rw [ds_ds]
      exact wp_rz (.inl rfl) (k2 h1 h2 h 0)
  · refine wp_neg (by decide) ?_
    rw [ds_ds]
    exact wp_rz (.inl rfl) (k1 h 0)
theorem m_law (hM : ModS E am) {x v : Int32} (k1 : (x < 0 ∨ ¬ x < 12) ∨ (v < 0 ∨ ¬ v < 3) → ∀ r, Q r (E, ds D 0 0 1, I)) (k3 : ∀ s, s < 12 → x = nI s → ¬ v < 0 → v < 3 → Q (D 13 s) (E, ds (ds D 0 0 0) 13 s v, I)) : Wp (f_X12_law (some am) x v) (E, D, I) Q := by
  unfold f_X12_law
  refine wm_P hM rfl ?_
  have bad : (x < 0 ∨ ¬ x < 12) ∨ (v < 0 ∨ ¬ v < 3) → Wp (f_X12_law_22 (some am) x v (some am)) (E, ds D 0 0 0, I) Q := fun h => by
    unfold f_X12_law_22 f_X12_law_27
    refine wm_call hM (m_bad1 hM ?_)
    refine wp_neg (by decide) ?_
    rw [ds_ds]
    exact wp_mp (k1 h 0)
  have e3 : v ≤ 2 ↔ v < 3 := by
    rw [Int32.le_iff_toInt_le, Int32.lt_iff_toInt_lt]
    show v.toInt ≤ 2 ↔ v.toInt < 3
    omega
  refine wp_mb (m_isSetting (fun s hs2 e => ?_) (fun h => ?_))
  · subst e
    refine wp_neg (by decide) ?_
    refine wp_ite (fun c => bad (.inr (.inl c))) (fun c1 => wp_ite (fun c2 => ?_) (fun c => bad (.inr (.inr (fun e => c (e3.mpr e))))))
    unfold f_X12_law_27
    refine wm_call hM (m_bad0 hM ?_)
    refine wp_pos rfl ?_
    refine wm_R hM (by decide) (by decide) rfl ?_
    refine wm_a hM s rfl (by show s < 12; omega) rfl (by decide) (by decide) (by omega) ?_
    rw [ds_ne (by omega)]
    refine wm_R hM (by decide) (by decide) rfl ?_
    refine wm_s hM s rfl (by show s < 12; omega) rfl (by decide) (by decide) (by omega) ?_
    exact wp_mp (k3 s hs2 rfl c1 (e3.mp c2))
  · refine wp_pos rfl ?_
    exact bad (.inl h)
/-- bytes on the tape -/
def byt (v : Int32) (k : Nat) : Int32 := Int8.toInt32 (Int32.toInt8 (v >>> (nI k &&& 31)))
def fdB (v : Int32) : List Int32 := [byt v 24, byt v 16, byt v 8, byt v 0]
def tp1 (D : Nat → Nat → Int32) (p : Nat) (b : Int32) : Nat → Nat → Int32 := ds (ds D 14 p b) 0 15 (nI (p + 1))
def tpL : List Int32 → (Nat → Nat → Int32) → Nat → (Nat → Nat → Int32)
  | [], D, _ => D
  | b :: r, D, p => tpL r (tp1 D p b) (p + 1)
theorem kp_byt (v : Int32) (k : Nat) : kp 0 (byt v k) = byt v k := by
  unfold kp
  rw [if_pos rfl, vp_nar_byte]
  unfold byt
  rw [Int8.toInt8_toInt32]
theorem m_feed_77 (hM : ModS E am) {k23 : Int32 → Mo Int32} {x1 x2 x3 x4 x5 x6 x7 : Int32} {p : Nat} (hp : p + 4 ≤ 200) (hD : D 0 15 = nI p) (k : Wp (k23 (x6 + 1)) (E, tpL (fdB x7) D p, I) Q) : Wp (f_X12_feed_77 k23 (some am) x1 x2 x3 x4 x5 x6 x7 fuL 24) (E, D, I) Q := by
  have step : ∀ (n p : Nat) (D : Nat → Nat → Int32) (x8 x9 : Int32) (k8 : Nat), x8 = nI k8 → k8 < 32 → D 0 15 = nI p → p < 200 → x8 + (-8) = x9 → Wp (f_X12_feed_77 k23 (some am) x1 x2 x3 x4 x5 x6 x7 n x9) (E, tp1 D p (byt x7 k8), I) Q → Wp (f_X12_feed_77 k23 (some am) x1 x2 x3 x4 x5 x6 x7 (n + 1) x8) (E, D, I) Q := by
    intro n p D x8 x9 k8 h8 hk8 hD hp h9 kk
    subst h8; subst h9
    rw [f_X12_feed_77]
    refine wp_neg (nI_pos (by omega)) ?_
    refine wm_R hM (by decide) (by decide) rfl ?_
    refine wm_I hM rfl ?_
    rw [hD]
    refine wm_s hM p rfl (by show p < 200; omega) rfl (by decide) (by decide) (by omega) ?_
    refine wm_I hM rfl ?_
    rw [ds_ne (by omega), hD, nI_1]
    refine wm_P hM rfl ?_
    rw [show kp 0 (Int8.toInt32 (Int32.toInt8 (x7 >>> (nI k8 &&& 31)))) = byt x7 k8 from kp_byt x7 k8]
    exact kk
  have e15 : ∀ (D : Nat → Nat → Int32) p b, tp1 D p b 0 15 = nI (p + 1) := fun D p b => ds_eq
  show Wp (f_X12_feed_77 k23 (some am) x1 x2 x3 x4 x5 x6 x7 (99995 + 1 + 1 + 1 + 1 + 1) 24) (E, D, I) Q
  refine step _ p D 24 16 24 rfl (by omega) hD (by omega) (by decide) ?_
  refine step _ (p + 1) _ 16 8 16 rfl (by omega) (e15 _ _ _) (by omega) (by decide) ?_
  refine step _ (p + 2) _ 8 0 8 rfl (by omega) (e15 _ _ _) (by omega) (by decide) ?_
  refine step _ (p + 3) _ 0 (-8) 0 rfl (by omega) (e15 _ _ _) (by omega) (by decide) ?_
  rw [f_X12_feed_77]
  exact wp_pos (by decide) k
theorem tpL_15 : ∀ (l : List Int32) (D : Nat → Nat → Int32) (p : Nat), l ≠ [] → tpL l D p 0 15 = nI (p + l.length) := by
  intro l
  induction l with
  | nil => intro D p h; exact absurd rfl h
  | cons b r ih =>
    intro D p _
    cases r with
    | nil =>
      show tp1 D p b 0 15 = nI (p + 1)
      exact ds_eq
    | cons c r' => rw [tpL, ih _ _ (by simp), List.length_cons (a := b), show p + 1 + (c :: r').length = p + ((c :: r').length + 1) by omega]
theorem m_feed (hM : ModS E am) {a b c d e : Int32} {p : Nat} (hp : p ≤ 200) (hD : D 0 15 = nI p) (k1 : ¬ p + 20 ≤ 200 → Q (-1) (E, ds D 0 0 0, I)) (k2 : p + 20 ≤ 200 → Q (nI (p + 20)) (E, tpL (fdB e) (tpL (fdB d) (tpL (fdB c) (tpL (fdB b) (tpL (fdB a) (ds D 0 0 0) p) (p + 4)) (p + 8)) (p + 12)) (p + 16), I)) : Wp (f_X12_feed (some am) a b c d e) (E, D, I) Q := by
  unfold f_X12_feed
  refine wm_P hM rfl ?_
  refine wm_I hM rfl ?_
  rw [ds_ne (by omega), hD, show (20 : Int32) = nI 20 from rfl, show (200 : Int32) = nI 200 from rfl, nI_add]
  by_cases h : p + 20 ≤ 200
  · refine wp_pos ((nI_leI (by omega) (by omega)).mpr h) ?_
    have e15 : ∀ v D p, tpL (fdB v) D p 0 15 = nI (p + 4) := fun v D p => tpL_15 (fdB v) D p (by unfold fdB; simp)
    show Wp (f_X12_feed_23 (some am) a b c d e (99994 + 1 + 1 + 1 + 1 + 1 + 1) 0) _ Q
    rw [f_X12_feed_23]
    refine wp_neg (by decide) (wp_pos rfl ?_)
    unfold f_X12_feed_71
    refine m_feed_77 hM (p := p) (by omega) (by rw [ds_ne (by omega), hD]) ?_
    rw [show (0 : Int32) + 1 = 1 from rfl, f_X12_feed_23]
    refine wp_neg (by decide) (wp_neg (by decide) (wp_pos rfl ?_))
    unfold f_X12_feed_71
    refine m_feed_77 hM (p := p + 4) (by omega) (e15 _ _ _) ?_
    rw [show (1 : Int32) + 1 = 2 from rfl, f_X12_feed_23]
    refine wp_neg (by decide) (wp_neg (by decide) (wp_neg (by decide) (wp_pos rfl ?_)))
    unfold f_X12_feed_71
    refine m_feed_77 hM (p := p + 8) (by omega) (e15 _ _ _) ?_
    rw [show (2 : Int32) + 1 = 3 from rfl, f_X12_feed_23]
    refine wp_neg (by decide) (wp_neg (by decide) (wp_neg (by decide) (wp_neg (by decide) (wp_pos rfl ?_))))
    unfold f_X12_feed_71
    refine m_feed_77 hM (p := p + 12) (by omega) (e15 _ _ _) ?_
    rw [show (3 : Int32) + 1 = 4 from rfl, f_X12_feed_23]
    refine wp_neg (by decide) (wp_neg (by decide) (wp_neg (by decide) (wp_neg (by decide) (wp_neg (by decide) ?_))))
    unfold f_X12_feed_71
    refine m_feed_77 hM (p := p + 16) (by omega) (e15 _ _ _) ?_
    rw [show (4 : Int32) + 1 = 5 from rfl, f_X12_feed_23]
    refine wp_pos (by decide) ?_
    refine wm_I hM rfl ?_
    rw [e15]
    exact wp_mp (k2 h)
  · exact wp_neg (fun e => h ((nI_leI (by omega) (by omega)).mp e)) (wp_mp (k1 h))
theorem m_fault (hM : ModS E am) (k : Q (D 0 19) (E, ds D 0 0 0, I)) : Wp (f_X12_fault (some am)) (E, D, I) Q := by
  unfold f_X12_fault
  refine wm_P hM rfl ?_
  refine wm_I hM rfl ?_
  rw [ds_ne (by omega)]
  exact wp_mp k
theorem m_end (hM : ModS E am) {x : Int32} {nl : Nat} (hn : D 0 32 = nI nl) (hb : nl ≤ 100) (hz : ∀ l, l < nl → D 28 l = 0 ∨ D 28 l = 1) (k1 : (x < 0 ∨ ¬ x < nI nl) → ∀ r, Q r (E, ds D 0 0 1, I)) (k3 : ∀ l, l < nl → x = nI l → Q (b2i (decide (D 28 l = 0))) (E, ds (ds D 0 0 0) 28 l 1, I)) : Wp (f_X12_end (some am) x) (E, D, I) Q := by
  unfold f_X12_end
  refine wm_P hM rfl ?_
  refine wm_I hM rfl ?_
  rw [ds_ne (by omega), hn]
  refine wm_call hM (m_none hM ds_eq (fun h1 h2 => ?_) (fun h => ?_))
  · obtain ⟨l, hl, rfl⟩ := nI_of h1
    have hi2 : l < nl := (nI_ltI hl (by omega)).mp h2
    refine wp_pos rfl ?_
    refine wm_R hM (by decide) (by decide) rfl ?_
    refine wm_a hM l rfl (by show l < 100; omega) rfl (by decide) (by decide) (by omega) ?_
    rw [ds_ne (by omega)]
    have k3 := k3 l hi2 rfl
    have fin : ∀ c, (c = 0 ∨ c = 1) → b2i (decide (D 28 l = 0)) = c → Wp (f_X12_end_33 (some am) (nI l) c) (E, ds D 0 0 0, I) Q := fun c hc e => by
      rw [e] at k3
      unfold f_X12_end_33
      refine wm_R hM (by decide) (by decide) rfl ?_
      refine wm_s hM l rfl (by show l < 100; omega) rfl (by decide) (by decide) (by omega) ?_
      exact wp_rz hc k3
    refine wp_ite (fun h => ?_) (fun h => ?_)
    · exact fin 1 (.inr rfl) (by rw [decide_eq_true h]; rfl)
    · exact fin 0 (.inl rfl) (by rw [decide_eq_false h]; rfl)
  · refine wp_neg (by decide) ?_
    rw [ds_ds]
    exact wp_rz (.inl rfl) (k1 h 0)
/-- how many links last -/
def lst (en : Nat → Int32) : Nat → Nat
  | 0 => 0
  | n + 1 => lst en n + (if en n = 0 then 1 else 0)
theorem lst_le (en : Nat → Int32) : ∀ n, lst en n ≤ n := by
  intro n
  induction n with
  | zero => exact Nat.le_refl _
  | succ n ih => rw [lst]; split <;> omega
theorem m_count_77 (hM : ModS E am) {nl : Nat} (hn : D 0 32 = nI nl) (hb : nl ≤ 100) (k : Q (nI (lst (D 28) nl)) (E, D, I)) : ∀ (d i n : Nat), d + i = nl → d < n → Wp (f_X12_count_77 (some am) n (nI (lst (D 28) i)) (nI i)) (E, D, I) Q := by
  intro d
  induction d with
  | zero =>
    intro i n hi hf
    cases n with
    | zero => exact absurd hf (Nat.not_lt_zero _)
    | succ n =>
      rw [f_X12_count_77]
      refine wm_I hM rfl ?_
      rw [hn]
      refine wp_pos ((nI_leI (by omega) (by omega)).mpr (by omega)) ?_
      rw [show i = nl by omega]
      exact wp_mp k
  | succ d ih =>
    intro i n hi hf
    cases n with
    | zero => exact absurd hf (Nat.not_lt_zero _)
    | succ n =>
      rw [f_X12_count_77]
      refine wm_I hM rfl ?_
      rw [hn]
      refine wp_neg (fun e => by have := (nI_leI (by omega) (by omega)).mp e; omega) ?_
      refine wm_R hM (by decide) (by decide) rfl ?_
      refine wm_a hM i rfl (by show i < 100; omega) rfl (by decide) (by decide) (by omega) ?_
      have := lst_le (D 28) i
      refine wp_ite (fun h => ?_) (fun h => ?_)
      · unfold f_X12_count_100
        have e := ih (i + 1) n (by omega) (by omega)
        rw [lst, if_pos h] at e
        rw [nI_1, nI_1]
        exact e
      · unfold f_X12_count_100
        have e := ih (i + 1) n (by omega) (by omega)
        rw [lst, if_neg h, Nat.add_zero] at e
        rw [nI_1, show nI (lst (D 28) i) + 0 = nI (lst (D 28) i) from Int32.add_zero _]
        exact e
theorem m_count (hM : ModS E am) {x : Int32} {nl : Nat} (hn : D 0 32 = nI nl) (hb : nl ≤ 100) (k : Q (if x = 0 then D 0 3 else if x = 1 then D 0 7 else if x = 2 then D 0 9 else if x = 3 then D 0 12 else if x = 4 then D 0 32 else if x = 5 then nI (lst (D 28) nl) else if x = 6 then D 0 15 else -1) (E, ds D 0 0 0, I)) : Wp (f_X12_count (some am) x) (E, D, I) Q := by
  unfold f_X12_count
  refine wm_P hM rfl ?_
  refine wp_ite (fun h => ?_) (fun h => ?_)
  · rw [if_pos h] at k
    refine wm_I hM rfl ?_
    rw [ds_ne (by omega)]
    exact wp_mp k
  rw [if_neg h] at k
  refine wp_ite (fun h => ?_) (fun h => ?_)
  · rw [if_pos h] at k
    refine wm_I hM rfl ?_
    rw [ds_ne (by omega)]
    exact wp_mp k
  rw [if_neg h] at k
  refine wp_ite (fun h => ?_) (fun h => ?_)
  · rw [if_pos h] at k
    refine wm_I hM rfl ?_
    rw [ds_ne (by omega)]
    exact wp_mp k
  rw [if_neg h] at k
  refine wp_ite (fun h => ?_) (fun h => ?_)
  · rw [if_pos h] at k
    refine wm_I hM rfl ?_
    rw [ds_ne (by omega)]
    exact wp_mp k
  rw [if_neg h] at k
  refine wp_ite (fun h => ?_) (fun h => ?_)
  · rw [if_pos h] at k
    refine wm_I hM rfl ?_
    rw [ds_ne (by omega)]
    exact wp_mp k
  rw [if_neg h] at k
  refine wp_ite (fun h => ?_) (fun h => ?_)
  · rw [if_pos h] at k
    refine m_count_77 (D := ds D 0 0 0) hM (nl := nl) (by rw [ds_ne (by omega), hn]) hb (by rw [ds_row (by omega)]; exact k) nl 0 fuL (by omega) (fu_ok (by omega))
  rw [if_neg h] at k
  refine wp_ite (fun h => ?_) (fun h => ?_)
  · rw [if_pos h] at k
    refine wm_I hM rfl ?_
    rw [ds_ne (by omega)]
    exact wp_mp k
  rw [if_neg h] at k
  exact wp_mp k
end MB
