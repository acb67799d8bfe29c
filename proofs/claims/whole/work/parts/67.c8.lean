/-! ===== the class: a row collected ===== -/
section CD
variable {E : Es} {D : Nat → Nat → Int32} {I : Tg → Nat → Int32} {Z : Nat → Nat} {r nn nm ng ns nl nc : Nat} {ab : Nat → Int32}
/-- what is known of the data while a row is made -/
def RowD (D : Nat → Nat → Int32) (nn ns nl : Nat) : Prop := (∀ l, l < nl → ∃ z, z < ns ∧ D 25 l = nI z) ∧ ns ≤ 40 ∧ (∀ l ∈ srt (D 31) nl, l < nl) ∧ (srt (D 31) nl).length ≤ 100 ∧ nn ≤ 60 ∧ nl ≤ 100
theorem DI.rowD {cap : Nat} (h : DI cap D nn nm ng ns nl nc) : RowD D nn ns nl := ⟨fun l hl => (h.2.2.2.2.1.2.2.2.1 l hl).2.1, h.2.2.2.1.1, srt_lt h.2.2.2.2.1.1 h.2.2.2.2.1.2.2.2.2.2.1, by unfold srt; rw [List.length_map, List.length_range']; exact h.2.2.2.2.1.1, h.1.1.2, h.2.2.2.2.1.1⟩
/-- the links of a place, in the class's words -/
def lkP (D : Nat → Nat → Int32) (nl : Nat) (st f : Int32) (n : Nat) : List Nat := (lnkN D nl n).filter (fun l => decide (D 27 l = f) && tkB D st l)
def rowT (D : Nat → Nat → Int32) (nl : Nat) (st : Int32) (w : List Nat) : List Nat := (opn (D 2) w).reverse.flatMap (lkP D nl st 0) ++ w.flatMap (lkP D nl st 1)
theorem rowT_eq (st : Int32) (w : List Nat) : rowT D nl st w = (rowD D nl w).filter (tkB D st) := by
  unfold rowT rowD rowA
  rw [List.filter_append, fm_filter, fm_filter]
  have : ∀ f, lkP D nl st f = fun n => (lat (D 31) (D 24) (D 27) (D 28) nl n f).filter (tkB D st) := fun f => funext fun n => lnk_lat f n (tkB D st)
  rw [this, this]
theorem lkP_lt (hRD : RowD D nn ns nl) {st f : Int32} {n : Nat} : ∀ l ∈ lkP D nl st f n, l < nl := fun l hl => hRD.2.2.1 l (lnkN_mem (List.mem_filter.mp hl).1).1
/-- the forced ones, from the machine's node up -/
theorem c_collect_99 {Q : Unit → Gh → Prop} {st : Int32} {ad c8 : Nat} {w : List Nat} (hz : eAd E (0, 0, 0) = Z 0) (hS : RowS E r) (hA : DatA E I D nn ns nl ab) (hRD : RowD D nn ns nl) (ha : eAd E (7, r, 0) = ad) (hwn : ∀ n ∈ w, n < nn) (hw : w.length ≤ 60) {c0 : Nat} : ∀ (suf pre : List Nat) (fu : Nat) (E' : Es) (I' : Tg → Nat → Int32) (c9 : Nat) (R : List Nat), pre ++ suf = w → suf.length < fu → FrR r E I E' I' → Lst E' I' 8 r c8 (w.map tgN) → Lst E' I' 9 r c9 (R.map tgL) → c9 ≤ 300 → Mk E E' c0 c9 → (∀ t : Tg, t.1 = 10 → ∀ k, eLg E' t k = eLg E t k ∧ I' t k = I t k) → (∀ l ∈ R, l < nl) → R.length + (suf.flatMap (lkP D nl st 1)).length ≤ 100 → (∀ E'' I'' c9', FrR r E I E'' I'' → Lst E'' I'' 8 r c8 (w.map tgN) → Lst E'' I'' 9 r c9' ((R ++ suf.flatMap (lkP D nl st 1)).map tgL) → c9' ≤ 300 → Mk E E'' c0 c9' → (∀ t : Tg, t.1 = 10 → ∀ k, eLg E'' t k = eLg E t k ∧ I'' t k = I t k) → Q () (E'', D, I'')) → Wp (f_X8_collect_99 Z (some ad) st fu (nI pre.length)) (E', D, I') Q := by
  intro suf
  induction suf with
  | nil =>
    intro pre fu E' I' c9 R hp hf hF h8 h9 hc9 hM h10 hR hRl kk
    cases fu with
    | zero => exact absurd hf (Nat.not_lt_zero _)
    | succ fu =>
      rw [List.append_nil] at hp
      subst hp
      have hS' := hS.fr hF.q
      rw [f_X8_collect_99]
      refine wc_R (by rw [(hF.2.1 (7, r, 0) (by simp) (by simp)).1]; exact ha) hS'.1 hS'.2.1 rfl ?_
      refine wc_call rfl h8.1 (l_size h8 rfl rfl ?_)
      rw [List.length_map]
      refine wp_pos ((nI_leI (by omega) (by omega)).mpr (Nat.le_refl _)) (wp_mp ?_)
      have kk := kk E' I' c9 hF h8
      rw [List.flatMap_nil, List.append_nil] at kk
      exact kk h9 hc9 hM h10
  | cons n suf ih =>
    intro pre fu E' I' c9 R hp hf hF h8 h9 hc9 hM h10 hR hRl kk
    cases fu with
    | zero => exact absurd hf (Nat.not_lt_zero _)
    | succ fu =>
      rw [List.length_cons] at hf
      have hwl : w.length = pre.length + (suf.length + 1) := by rw [← hp, List.length_append, List.length_cons]
      have hget : w[pre.length]? = some n := by rw [← hp, List.getElem?_append_right (Nat.le_refl _), Nat.sub_self]; rfl
      have hn : n < nn := hwn n (List.mem_of_getElem? hget)
      have hS' := hS.fr hF.q
      have ha' : eAd E' (7, r, 0) = ad := by rw [(hF.2.1 (7, r, 0) (by simp) (by simp)).1]; exact ha
      rw [List.flatMap_cons, List.length_append] at hRl
      rw [f_X8_collect_99]
      refine wc_R ha' hS'.1 hS'.2.1 rfl ?_
      refine wc_call rfl h8.1 (l_size h8 rfl rfl ?_)
      rw [List.length_map]
      refine wp_neg (fun e => by have := (nI_leI (by omega) (by omega)).mp e; omega) ?_
      refine wc_call ha' hS'.1 (c_addLinks (Z := Z) (w := w) (n := n) (by rw [(hF.2.1 (0, 0, 0) (by simp) (by simp)).1]; exact hz) hS' (hA.fr hF.q) hRD.1 hRD.2.1 hRD.2.2.1 hRD.2.2.2.1 hRD.2.2.2.2.1 hRD.2.2.2.2.2 ha' h8 h9 hw hget hn hR (show R.length + (lkP D nl st 1 n).length ≤ 100 by omega) hc9 (fun E2 I2 c2 q1 q2 q3 q4 q5 q6 => ?_))
      rw [nI_1, show pre.length + 1 = (pre ++ [n]).length by rw [List.length_append, List.length_singleton]]
      refine ih (pre ++ [n]) fu E2 I2 c2 _ (by rw [List.append_assoc]; exact hp) (by omega) (hF.tr q1) q2 q3 q4 (hM.tr q5) (fun t ht k => ⟨((q6 t ht k).1).trans (h10 t ht k).1, ((q6 t ht k).2).trans (h10 t ht k).2⟩) (fun l hl => ?_) ?_ (fun E3 I3 c3 r1 r2 r3 r4 r5 r6 => kk E3 I3 c3 r1 r2 ?_ r4 r5 r6)
      · rcases List.mem_append.mp hl with h | h
        · exact hR l h
        · exact lkP_lt hRD l h
      · rw [List.length_append]
        show R.length + (lkP D nl st 1 n).length + _ ≤ 100
        omega
      · rw [List.flatMap_cons, ← List.append_assoc]
        exact r3
/-- those not forced, from the top down -/
theorem c_collect_77 {Q : Unit → Gh → Prop} {st : Int32} {ad c8 : Nat} {w : List Nat} (hz : eAd E (0, 0, 0) = Z 0) (hS : RowS E r) (hA : DatA E I D nn ns nl ab) (hRD : RowD D nn ns nl) (ha : eAd E (7, r, 0) = ad) (hwn : ∀ n ∈ w, n < nn) (hw : w.length ≤ 60) {c0 : Nat} : ∀ (j fu : Nat) (E' : Es) (I' : Tg → Nat → Int32) (c9 : Nat) (R : List Nat), j ≤ w.length → j < fu → FrR r E I E' I' → Lst E' I' 8 r c8 (w.map tgN) → Lst E' I' 9 r c9 (R.map tgL) → c9 ≤ 300 → Mk E E' c0 c9 → (∀ t : Tg, t.1 = 10 → ∀ k, eLg E' t k = eLg E t k ∧ I' t k = I t k) → (∀ l ∈ R, l < nl) → R.length + (((w.take j).reverse.flatMap (lkP D nl st 0)).length + (w.flatMap (lkP D nl st 1)).length) ≤ 100 → (∀ E'' I'' c9', FrR r E I E'' I'' → Lst E'' I'' 8 r c8 (w.map tgN) → Lst E'' I'' 9 r c9' ((R ++ ((w.take j).reverse.flatMap (lkP D nl st 0) ++ w.flatMap (lkP D nl st 1))).map tgL) → c9' ≤ 300 → Mk E E'' c0 c9' → (∀ t : Tg, t.1 = 10 → ∀ k, eLg E'' t k = eLg E t k ∧ I'' t k = I t k) → Q () (E'', D, I'')) → Wp (f_X8_collect_77 Z (some ad) st fu (nI j + (-1))) (E', D, I') Q := by
  intro j
  induction j with
  | zero =>
    intro fu E' I' c9 R hj hf hF h8 h9 hc9 hM h10 hR hRl kk
    cases fu with
    | zero => exact absurd hf (Nat.not_lt_zero _)
    | succ fu =>
      rw [f_X8_collect_77]
      refine wp_pos (by decide) ?_
      rw [List.take_zero, List.reverse_nil, List.flatMap_nil, List.length_nil, Nat.zero_add] at hRl
      rw [List.take_zero, List.reverse_nil, List.flatMap_nil, List.nil_append] at kk
      exact c_collect_99 hz hS hA hRD ha hwn hw w [] fuL E' I' c9 R rfl (fu_ok (by omega)) hF h8 h9 hc9 hM h10 hR hRl kk
  | succ j ih =>
    intro fu E' I' c9 R hj hf hF h8 h9 hc9 hM h10 hR hRl kk
    cases fu with
    | zero => exact absurd hf (Nat.not_lt_zero _)
    | succ fu =>
      obtain ⟨n, hget⟩ : ∃ n, w[j]? = some n := ⟨w[j], List.getElem?_eq_getElem (by omega)⟩
      have hn : n < nn := hwn n (List.mem_of_getElem? hget)
      have ht : (w.take (j + 1)).reverse = n :: (w.take j).reverse := by
        rw [List.take_succ, hget, List.reverse_append]
        rfl
      have hS' := hS.fr hF.q
      have ha' : eAd E' (7, r, 0) = ad := by rw [(hF.2.1 (7, r, 0) (by simp) (by simp)).1]; exact ha
      rw [ht, List.flatMap_cons, List.length_append] at hRl
      rw [ht, List.flatMap_cons] at kk
      rw [f_X8_collect_77, pk_m1]
      refine wp_neg (nI_pos (by omega)) ?_
      refine wc_call ha' hS'.1 (c_addLinks (Z := Z) (w := w) (n := n) (by rw [(hF.2.1 (0, 0, 0) (by simp) (by simp)).1]; exact hz) hS' (hA.fr hF.q) hRD.1 hRD.2.1 hRD.2.2.1 hRD.2.2.2.1 hRD.2.2.2.2.1 hRD.2.2.2.2.2 ha' h8 h9 hw hget hn hR (show R.length + (lkP D nl st 0 n).length ≤ 100 by omega) hc9 (fun E2 I2 c2 q1 q2 q3 q4 q5 q6 => ?_))
      refine ih fu E2 I2 c2 _ (by omega) (by omega) (hF.tr q1) q2 q3 q4 (hM.tr q5) (fun t ht k => ⟨((q6 t ht k).1).trans (h10 t ht k).1, ((q6 t ht k).2).trans (h10 t ht k).2⟩) (fun l hl => ?_) ?_ (fun E3 I3 c3 r1 r2 r3 r4 r5 r6 => kk E3 I3 c3 r1 r2 ?_ r4 r5 r6)
      · rcases List.mem_append.mp hl with h | h
        · exact hR l h
        · exact lkP_lt hRD l h
      · rw [List.length_append]
        show R.length + (lkP D nl st 0 n).length + _ ≤ 100
        omega
      · rw [List.append_assoc] at r3
        rw [List.append_assoc]
        exact r3
/-- the highest open place -/
theorem c_topOfOpen {Q : Int32 → Gh → Prop} {ad c8 : Nat} {w : List Nat} (hS : RowS E r) (hA : DatA E I D nn ns nl ab) (ha : eAd E (7, r, 0) = ad) (hwn : ∀ n ∈ w, n < nn) (hw : w.length ≤ 60) (h8 : Lst E I 8 r c8 (w.map tgN)) (hne : w ≠ []) (kk : ∀ j, j ≤ w.length → opn (D 2) w = w.take j → Q (nI j + (-1)) (E, D, I)) : Wp (f_X8_topOfOpen (some ad)) (E, D, I) Q := by
  have key : ∀ (suf pre : List Nat) (fu : Nat), pre ++ suf = w → suf.length < fu → opn (D 2) w = pre ++ opn (D 2) suf → Wp (f_X8_topOfOpen_2 (some ad) fu (nI pre.length)) (E, D, I) Q := by
    intro suf
    induction suf with
    | nil =>
      intro pre fu hp hf ho
      cases fu with
      | zero => exact absurd hf (Nat.not_lt_zero _)
      | succ fu =>
        rw [List.append_nil] at hp
        subst hp
        rw [f_X8_topOfOpen_2]
        refine wc_R ha hS.1 hS.2.1 rfl ?_
        refine wc_call rfl h8.1 (l_size h8 rfl rfl ?_)
        rw [List.length_map]
        refine wp_pos ((nI_leI (by omega) (by omega)).mpr (Nat.le_refl _)) ?_
        refine wc_R ha hS.1 hS.2.1 rfl ?_
        refine wc_call rfl h8.1 (l_size h8 rfl rfl ?_)
        rw [List.length_map]
        have hl : 0 < pre.length := List.length_pos_iff.mpr hne
        refine wp_mp ?_
        have := kk pre.length (Nat.le_refl _) (by rw [ho, List.take_of_length_le (Nat.le_refl _)]; exact List.append_nil _)
        obtain ⟨q, hq⟩ : ∃ q, pre.length = q + 1 := ⟨pre.length - 1, by omega⟩
        rw [hq] at this ⊢
        rw [pk_m1] at this
        rw [nI_pred]
        exact this
    | cons n suf ih =>
      intro pre fu hp hf ho
      cases fu with
      | zero => exact absurd hf (Nat.not_lt_zero _)
      | succ fu =>
        rw [List.length_cons] at hf
        have hwl : w.length = pre.length + (suf.length + 1) := by rw [← hp, List.length_append, List.length_cons]
        have hget : w[pre.length]? = some n := by rw [← hp, List.getElem?_append_right (Nat.le_refl _), Nat.sub_self]; rfl
        have hn : n < nn := hwn n (List.mem_of_getElem? hget)
        rw [f_X8_topOfOpen_2]
        refine wc_R ha hS.1 hS.2.1 rfl ?_
        refine wc_call rfl h8.1 (l_size h8 rfl rfl ?_)
        rw [List.length_map]
        refine wp_neg (fun e => by have := (nI_leI (by omega) (by omega)).mp e; omega) ?_
        refine wc_R ha hS.1 hS.2.1 rfl ?_
        refine wc_call rfl h8.1 (l_get h8 rfl rfl (t := tgN n) (by rw [List.getElem?_map, hget]; rfl) ?_)
        refine wc_ck rfl (hA.1 n hn).1 ?_
        refine wc_I rfl rfl (hA.1 n hn).1 rfl ?_
        rw [(hA.2.1 n hn).2.1]
        refine wp_ite (fun c => ?_) (fun c => ?_)
        · rw [nI_1, show pre.length + 1 = (pre ++ [n]).length by rw [List.length_append, List.length_singleton]]
          refine ih (pre ++ [n]) fu (by rw [List.append_assoc]; exact hp) (by omega) ?_
          rw [ho, opn, if_pos c, List.append_assoc]
          rfl
        · have := kk (pre.length + 1) (by omega) (by
            rw [ho, opn, if_neg c, ← hp, List.take_append, List.take_of_length_le (by omega), show pre.length + 1 - pre.length = 1 by omega]
            rfl)
          rw [pk_m1] at this
          exact wp_mp this
  unfold f_X8_topOfOpen
  exact key w [] fuL rfl (fu_ok (by omega)) rfl
/-- the whole row -/
theorem c_collect {Q : Unit → Gh → Prop} {st x2 : Int32} {ad am m i : Nat} {w rest : List Nat} {c8 c9 : Nat} {xs ys : List Tg} (hz : eAd E (0, 0, 0) = Z 0) (hS : RowS E r) (hA : DatA E I D nn ns nl ab) (hRD : RowD D nn ns nl) (ha : eAd E (7, r, 0) = ad) (hma : eAd E (14, m, 0) = am) (hmk : eKd E (14, m, 0) = 108) (hmn : eRf E (14, m, 0) 0 = some (12, i, 0)) (hw : Chn ab nn w (nI i)) (hi : i < nn) (h8 : Lst E I 8 r c8 xs) (h9 : Lst E I 9 r c9 ys) (hc8 : c8 ≤ 300) (hc9 : c9 ≤ 300) (hlen : (rowT D nl st w).length ≤ 100) (kk : ∀ E' I' c8' c9', FrR r E I E' I' → Lst E' I' 8 r c8' (w.map tgN) → Lst E' I' 9 r c9' ((rowT D nl st w).map tgL) → c8' ≤ 300 → c9' ≤ 300 → Mk E E' (c8 + c9) (c8' + c9') → I' (10, r, 0) 2 = I (14, m, 0) 1 → I' (10, r, 0) 3 = I (14, m, 0) 2 → I' (10, r, 0) 4 = x2 → (∀ v, v < 60 → lb (eLg E' (10, r, 0) 5) v = decide (v ∈ w)) → Q () (E', D, I')) : Wp (f_X8_collect Z (some ad) (some am) x2 st) (E, D, I) Q := by
  have hnn := hRD.2.2.2.2.1
  have hwl := chn_len hnn hw
  have hwn := chn_lt w hw
  have hwd := chn_nodup hnn w hw
  have hne : w ≠ [] := fun q => by
    subst q
    exact nI_ne_m1 (by omega) hw
  unfold f_X8_collect
  refine wc_R ha hS.1 hS.2.1 rfl ?_
  refine wc_call rfl h8.1 (l_clear h8 rfl rfl (fun E1 I1 p1 p2 p3 p4 => ?_))
  have hF1 : FrR r E I E1 I1 := FrR.ag (.inl rfl) p2 (by rw [p4]) p3.2.2.1
  have hS1 := hS.fr hF1.q
  have h91 : Lst E1 I1 9 r c9 ys := h9.cg (fun x => (p2 (9, r, x) (by simp)).2.1) (fun x => (p2 (9, r, x) (by simp)).2.2.1) (fun x k => (p2 (9, r, x) (by simp)).2.2.2.1 k) ((p2 (9, r, 0) (by simp)).2.2.2.2.2 2)
  refine wc_R (by rw [p4]; exact ha) hS1.1 hS1.2.2.1 rfl ?_
  refine wc_call rfl h91.1 (l_clear h91 rfl rfl (fun E2 I2 q1 q2 q3 q4 => ?_))
  have hF2 : FrR r E I E2 I2 := hF1.tr (FrR.ag (.inr rfl) q2 (by rw [q4]) q3.2.2.1)
  have h82 : Lst E2 I2 8 r c8 [] := p1.cg (fun x => (q2 (8, r, x) (by simp)).2.1) (fun x => (q2 (8, r, x) (by simp)).2.2.1) (fun x k => (q2 (8, r, x) (by simp)).2.2.2.1 k) ((q2 (8, r, 0) (by simp)).2.2.2.2.2 2)
  have hM2 : Mk E E2 c8 c8 := ⟨by have := p3.1; have := q3.1; omega, by have := p3.2.1; have := q3.2.1; omega, q3.2.2.1.trans p3.2.2.1, Nat.le_refl _⟩
  have g14 : eAd E2 (14, m, 0) = am ∧ eKd E2 (14, m, 0) = 108 ∧ eRf E2 (14, m, 0) 0 = some (12, i, 0) := by
    obtain ⟨y1, y2, y3, y4⟩ := hF2.2.1 (14, m, 0) (by simp) (by simp)
    exact ⟨y1.trans hma, y2.trans hmk, (y4 0).trans hmn⟩
  refine wc_R g14.1 g14.2.1 g14.2.2 rfl ?_
  -- the way
  have way : ∀ (suf pre : List Nat) (v : Int32) (fu : Nat) (E' : Es) (I' : Tg → Nat → Int32) (c8' : Nat) (l4 : Int64), pre ++ suf = w → suf.length < fu → Chn ab nn suf v → FrR r E I E' I' → Lst E' I' 8 r c8' (pre.map tgN) → Lst E' I' 9 r c9 [] → c8' ≤ 300 → Mk E E' c8 c8' → (∀ u, u < 64 → lb l4 u = decide (u ∈ pre)) → Wp (f_X8_collect_23 Z (some ad) (some am) x2 st fu l4 ((upT v).map (eAd E'))) (E', D, I') Q := by
    intro suf
    induction suf with
    | nil =>
      intro pre v fu E' I' c8' l4 hp hf hc hF h8' h9' hc8' hM hl4
      cases fu with
      | zero => exact absurd hf (Nat.not_lt_zero _)
      | succ fu =>
        have hc : v = -1 := hc
        subst hc
        rw [List.append_nil] at hp
        subst hp
        have hS' := hS.fr hF.q
        have ha' : eAd E' (7, r, 0) = ad := by rw [(hF.2.1 (7, r, 0) (by simp) (by simp)).1]; exact ha
        have g14' : eAd E' (14, m, 0) = am ∧ eKd E' (14, m, 0) = 108 := by
          obtain ⟨y1, y2, y3, y4⟩ := hF.2.1 (14, m, 0) (by simp) (by simp)
          exact ⟨y1.trans hma, y2.trans hmk⟩
        have i14 : ∀ k, I' (14, m, 0) k = I (14, m, 0) k := fun k => hF.2.2.1 _ _ (by simp) (by simp) (by simp)
        rw [f_X8_collect_23]
        refine wp_pos rfl ?_
        refine wc_R ha' hS'.1 hS'.2.2.2.2.1 rfl ?_
        refine wc_call rfl hS'.2.2.2.2.2.2.2.1 ?_
        unfold f_X9_enter
        refine wc_call g14'.1 g14'.2 ?_
        unfold f_X5_knownFacts
        refine wc_I g14'.1 rfl g14'.2 rfl (wp_mp ?_)
        refine wc_P rfl rfl hS'.2.2.2.2.2.2.2.1 rfl rfl ?_
        refine wc_call g14'.1 g14'.2 ?_
        unfold f_X5_yesFacts
        refine wc_I g14'.1 rfl g14'.2 rfl (wp_mp ?_)
        refine wc_P rfl rfl hS'.2.2.2.2.2.2.2.1 rfl rfl ?_
        refine wc_P rfl rfl hS'.2.2.2.2.2.2.2.1 rfl rfl ?_
        refine wc_PG rfl hS'.2.2.2.2.2.2.2.1 rfl rfl (wp_mp ?_)
        rw [us_ne (show ¬ (((14, m, 0) : Tg) = (10, r, 0) ∧ 2 = 2) by simp), i14, i14]
        generalize hI3 : us (us (us I' (10, r, 0) 2 (I (14, m, 0) 1)) (10, r, 0) 3 (I (14, m, 0) 2)) (10, r, 0) 4 x2 = I3
        generalize hE3 : eG E' (10, r, 0) 5 l4 = E3
        have hF3' : FrR r E' I' E3 I3 := by
          subst hI3; subst hE3
          exact ((FrR.us.tr FrR.us).tr FrR.us).tr (FrR.eG (.inr rfl))
        have hF3 : FrR r E I E3 I3 := hF.tr hF3'
        have hlst : ∀ {a c : Nat} {zs : List Tg}, a ≠ 10 → Lst E' I' a r c zs → Lst E3 I3 a r c zs := fun hne hL => by
          subst hI3; subst hE3
          refine hL.cg (fun _ => rfl) (fun _ => rfl) (fun _ _ => rfl) ?_
          rw [us_ne (fun q => hne (congrArg Prod.fst q.1)), us_ne (fun q => hne (congrArg Prod.fst q.1)), us_ne (fun q => hne (congrArg Prod.fst q.1))]
        have h83 := hlst (by decide) h8'
        have h93 := hlst (by decide) h9'
        have hS3 := hS.fr hF3.q
        have ha3 : eAd E3 (7, r, 0) = ad := by rw [(hF3.2.1 (7, r, 0) (by simp) (by simp)).1]; exact ha
        have hM3 : Mk E E3 c8 c8' := by subst hE3; exact hM
        refine wc_call ha3 hS3.1 (c_topOfOpen (nn := nn) (ns := ns) (nl := nl) (ab := ab) hS3 (hA.fr hF3.q) ha3 hwn (by omega) h83 hne (fun j hj ho => ?_))
        have hlen2 := hlen
        unfold rowT at hlen2
        rw [ho, List.length_append] at hlen2
        refine c_collect_77 (E := E3) (I := I3) (c0 := c9) (by rw [(hF3.2.1 (0, 0, 0) (by simp) (by simp)).1]; exact hz) hS3 (hA.fr hF3.q) hRD ha3 hwn (by omega) j fuL E3 I3 c9 [] hj (fu_ok (by omega)) FrR.rf h83 h93 hc9 Mk.rf (fun _ _ _ => ⟨rfl, rfl⟩) (fun l hl => by cases hl) (by rw [List.length_nil]; omega) (fun E4 I4 c4 r1 r2 r3 r4 r5 r6 => ?_)
        have hst : ∀ k, I4 (10, r, 0) k = I3 (10, r, 0) k := fun k => (r6 (10, r, 0) rfl k).2
        refine kk E4 I4 c8' c4 (hF3.tr r1) r2 ?_ hc8' r4 ⟨?_, ?_, ?_, ?_⟩ ?_ ?_ ?_ (fun u hu => ?_)
        · unfold rowT
          rw [ho]
          rw [List.nil_append] at r3
          exact r3
        · have := hM3.1; have := r5.1; omega
        · have := hM3.2.1; have := r5.2.1; omega
        · exact r5.2.2.1.trans hM3.2.2.1
        · have := hM3.2.2.2; have := r5.2.2.2; omega
        · rw [hst, ← hI3, us_ne (by simp), us_ne (by simp), us_eq]
        · rw [hst, ← hI3, us_ne (by simp), us_eq]
        · rw [hst, ← hI3, us_eq]
        · rw [(r6 (10, r, 0) rfl 5).1, ← hE3, eG_eq]
          exact hl4 u (by omega)
    | cons n suf ih =>
      intro pre v fu E' I' c8' l4 hp hf hc hF h8' h9' hc8' hM hl4
      cases fu with
      | zero => exact absurd hf (Nat.not_lt_zero _)
      | succ fu =>
        obtain ⟨rfl, hn, hc⟩ := hc
        rw [List.length_cons] at hf
        have hwl2 : w.length = pre.length + (suf.length + 1) := by rw [← hp, List.length_append, List.length_cons]
        have hS' := hS.fr hF.q
        have hA' := hA.fr hF.q
        have ha' : eAd E' (7, r, 0) = ad := by rw [(hF.2.1 (7, r, 0) (by simp) (by simp)).1]; exact ha
        rw [upT_nI (by omega), f_X8_collect_23]
        refine wp_neg (by simp) ?_
        refine wc_R ha' hS'.1 hS'.2.1 rfl ?_
        refine wc_call rfl h8'.1 (l_add (ci := 9) (Z := Z) (t := tgN n) h8' rfl rfl (by rw [(hF.2.1 (0, 0, 0) (by simp) (by simp)).1]; exact hz) rfl rfl (hA'.1 n hn).1 (by simp) (by rw [List.length_map]; omega) (fun t ht => ?_) (fun t ht => ?_) (fun E3 I3 c3 r1 r2 r3 r4 r5 => ?_))
        · obtain ⟨l2, hl2, rfl⟩ := List.mem_map.mp ht
          rw [(hA'.1 l2 (hwn l2 (by rw [← hp]; exact List.mem_append_left _ hl2))).1]; omega
        · obtain ⟨l2, hl2, rfl⟩ := List.mem_map.mp ht
          simp
        · rw [List.length_map] at r2
          have hF3' : FrR r E' I' E3 I3 := FrR.ag (.inl rfl) r3 r5 r4.2.2.1
          have hA3 := hA.fr (hF.tr hF3').q
          have hadn : eAd E3 (12, n, 0) = eAd E' (12, n, 0) := (r3 (12, n, 0) (by simp)).1
          refine wc_I hadn rfl (hA3.1 n hn).1 rfl ?_
          rw [(hA3.2.1 n hn).1]
          refine wc_Rm hadn (hA3.1 n hn).1 rfl ?_
          rw [(hA3.1 n hn).2]
          refine ih (pre ++ [n]) (ab n) fu E3 I3 c3 _ (by rw [List.append_assoc]; exact hp) (by omega) hc (hF.tr hF3') (by rw [List.map_append]; exact r1) ?_ (by omega) (hM.tr r4) (fun u hu => ?_)
          · exact h9'.cg (fun x => (r3 (9, r, x) (by simp)).2.1) (fun x => (r3 (9, r, x) (by simp)).2.2.1) (fun x k => (r3 (9, r, x) (by simp)).2.2.2.1 k) ((r3 (9, r, 0) (by simp)).2.2.2.2.2 2)
          · rw [lb_or, hl4 u hu, lb_sh n (by omega) u hu]
            by_cases e : u = n
            · subst e; simp
            · simp [e]
  have := way w [] (nI i) fuL E2 I2 c8 0 rfl (fu_ok (by omega)) hw hF2 h82 q1 hc8 hM2 (fun u hu => by rw [lb_0]; rfl)
  rw [upT_nI (by omega)] at this
  exact this
end CD
