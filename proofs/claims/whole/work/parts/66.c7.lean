/-! ===== the class: the row of a machine ===== -/
theorem Mk.add {E E' : Es} {c c' : Nat} (h : Mk E E' c c') (k : Nat) : Mk E E' (c + k) (c' + k) := by
  obtain ⟨a1, a2, a3, a4⟩ := h
  exact ⟨by omega, by omega, a3, by omega⟩
theorem Mk.addl {E E' : Es} {c c' : Nat} (h : Mk E E' c c') (k : Nat) : Mk E E' (k + c) (k + c') := by
  obtain ⟨a1, a2, a3, a4⟩ := h
  exact ⟨by omega, by omega, a3, by omega⟩
/-- what may change while a row is made -/
def FrR (r : Nat) (E : Es) (I : Tg → Nat → Int32) (E' : Es) (I' : Tg → Nat → Int32) : Prop := (∀ t : Tg, ¬ ((t.1 = 7 ∨ t.1 = 8 ∨ t.1 = 9 ∨ t.1 = 10) ∧ t.2.1 = r) → eAd E' t = eAd E t ∧ eKd E' t = eKd E t ∧ eLn E' t = eLn E t ∧ (∀ k, eRf E' t k = eRf E t k) ∧ (∀ k, eLg E' t k = eLg E t k) ∧ (∀ k, I' t k = I t k)) ∧ (∀ t : Tg, t.1 ≠ 8 → t.1 ≠ 9 → eAd E' t = eAd E t ∧ eKd E' t = eKd E t ∧ eLn E' t = eLn E t ∧ ∀ k, eRf E' t k = eRf E t k) ∧ (∀ t k, t.1 ≠ 8 → t.1 ≠ 9 → t.1 ≠ 10 → I' t k = I t k) ∧ (eAd E' (8, r, 0) = eAd E (8, r, 0) ∧ eAd E' (9, r, 0) = eAd E (9, r, 0)) ∧ eCu E' = eCu E
theorem FrR.rf {r : Nat} {E : Es} {I : Tg → Nat → Int32} : FrR r E I E I := ⟨fun _ _ => ⟨rfl, rfl, rfl, fun _ => rfl, fun _ => rfl, fun _ => rfl⟩, fun _ _ _ => ⟨rfl, rfl, rfl, fun _ => rfl⟩, fun _ _ _ _ _ => rfl, ⟨rfl, rfl⟩, rfl⟩
theorem FrR.tr {r : Nat} {E E' E'' : Es} {I I' I'' : Tg → Nat → Int32} (h : FrR r E I E' I') (h2 : FrR r E' I' E'' I'') : FrR r E I E'' I'' := by
  obtain ⟨a1, a2, a3, a4, a5⟩ := h
  obtain ⟨b1, b2, b3, b4, b5⟩ := h2
  refine ⟨fun t ht => ?_, fun t h8 h9 => ?_, fun t k q1 q2 q3 => (b3 t k q1 q2 q3).trans (a3 t k q1 q2 q3), ⟨b4.1.trans a4.1, b4.2.trans a4.2⟩, b5.trans a5⟩
  · obtain ⟨x1, x2, x3, x4, x5, x6⟩ := a1 t ht
    obtain ⟨y1, y2, y3, y4, y5, y6⟩ := b1 t ht
    exact ⟨y1.trans x1, y2.trans x2, y3.trans x3, fun k => (y4 k).trans (x4 k), fun k => (y5 k).trans (x5 k), fun k => (y6 k).trans (x6 k)⟩
  · obtain ⟨x1, x2, x3, x4⟩ := a2 t h8 h9
    obtain ⟨y1, y2, y3, y4⟩ := b2 t h8 h9
    exact ⟨y1.trans x1, y2.trans x2, y3.trans x3, fun k => (y4 k).trans (x4 k)⟩
theorem FrR.q {r : Nat} {E E' : Es} {I I' : Tg → Nat → Int32} (h : FrR r E I E' I') : FrQ E I E' I' := by
  obtain ⟨a1, a2, a3, a4, a5⟩ := h
  refine ⟨fun t h8 h9 => ⟨(a2 t h8 h9).1, (a2 t h8 h9).2.1, (a2 t h8 h9).2.2.1⟩, fun t k h8 h9 _ => (a2 t h8 h9).2.2.2 k, fun t k q7 q8 q9 q10 => (a1 t (fun q => ?_)).2.2.2.2.1 k, fun t k q1 q2 q3 _ _ => a3 t k q1 q2 q3, a5⟩
  rcases q.1 with h | h | h | h
  · exact q7 h
  · exact q8 h
  · exact q9 h
  · exact q10 h
theorem FrR.ag {a r : Nat} {E E' : Es} {I I' : Tg → Nat → Int32} (ha : a = 8 ∨ a = 9) (h : Ag a r E I E' I') (h0 : eAd E' (a, r, 0) = eAd E (a, r, 0)) (hc : eCu E' = eCu E) : FrR r E I E' I' := by
  refine ⟨fun t ht => h t (fun q => ht ⟨?_, q.2⟩), fun t h8 h9 => ?_, fun t k h8 h9 _ => (h t (fun q => ?_)).2.2.2.2.2 k, ⟨?_, ?_⟩, hc⟩
  · rcases ha with rfl | rfl
    · exact .inr (.inl q.1)
    · exact .inr (.inr (.inl q.1))
  · obtain ⟨x1, x2, x3, x4, -⟩ := h t (fun q => by rcases ha with rfl | rfl; exact h8 q.1; exact h9 q.1)
    exact ⟨x1, x2, x3, x4⟩
  · rcases ha with rfl | rfl
    · exact h8 q.1
    · exact h9 q.1
  · rcases ha with rfl | rfl
    · exact h0
    · exact (h (8, r, 0) (fun q => absurd q.1 (by simp))).1
  · rcases ha with rfl | rfl
    · exact (h (9, r, 0) (fun q => absurd q.1 (by simp))).1
    · exact h0
theorem FrR.us {r c k : Nat} {v : Int32} {E : Es} {I : Tg → Nat → Int32} : FrR r E I E (us I (10, r, c) k v) := ⟨fun t ht => ⟨rfl, rfl, rfl, fun _ => rfl, fun _ => rfl, fun j => us_ne (fun q => ht ⟨.inr (.inr (.inr (by rw [q.1]))), by rw [q.1]⟩)⟩, fun _ _ _ => ⟨rfl, rfl, rfl, fun _ => rfl⟩, fun t j _ _ h10 => us_ne (fun q => h10 (by rw [q.1])), ⟨rfl, rfl⟩, rfl⟩
theorem FrR.eG {a r c k : Nat} {v : Int64} {E : Es} {I : Tg → Nat → Int32} (ha : a = 7 ∨ a = 10) : FrR r E I (eG E (a, r, c) k v) I := ⟨fun t ht => ⟨rfl, rfl, rfl, fun _ => rfl, fun j => eG_ne (fun q => ht ⟨by rw [q.1]; rcases ha with rfl | rfl; exact .inl rfl; exact .inr (.inr (.inr rfl)), by rw [q.1]⟩), fun _ => rfl⟩, fun _ _ _ => ⟨rfl, rfl, rfl, fun _ => rfl⟩, fun _ _ _ _ _ => rfl, ⟨rfl, rfl⟩, rfl⟩
theorem FrR.w {r : Nat} {E E' : Es} {I : Tg → Nat → Int32} (h : FrW r E E') : FrR r E I E' I := by
  obtain ⟨f, rfl⟩ := h
  exact ⟨fun t ht => ⟨rfl, rfl, rfl, fun _ => rfl, fun j => if_neg (fun q => ht ⟨.inr (.inr (.inr (by rw [q]))), by rw [q]⟩), fun _ => rfl⟩, fun _ _ _ => ⟨rfl, rfl, rfl, fun _ => rfl⟩, fun _ _ _ _ _ => rfl, ⟨rfl, rfl⟩, rfl⟩
/-- what is read while a row is made: ab is what is above -/
def DatA (E : Es) (I : Tg → Nat → Int32) (D : Nat → Nat → Int32) (nn ns nl : Nat) (ab : Nat → Int32) : Prop := NodA E ab nn ∧ (∀ i, i < nn → I (12, i, 0) 0 = nI i ∧ I (12, i, 0) 2 = D 2 i ∧ eRf E (12, i, 0) 3 = some (13, i, 0) ∧ ∃ c, Lst E I 13 i c ((lnkN D nl i).map (fun l => (16, l, 0)))) ∧ (∀ s, s < ns → SetC E I D s) ∧ (∀ l, l < nl → LnkC E I D l)
theorem DatC.a {E : Es} {I : Tg → Nat → Int32} {D : Nat → Nat → Int32} {nn nm ns nl : Nat} (h : DatC E I D nn nm ns nl) : DatA E I D nn ns nl (D 1) := by
  obtain ⟨⟨-, n2, -⟩, -, -, ⟨-, s2, -⟩, ⟨-, l2, -⟩, -⟩ := h
  refine ⟨fun i hi => ⟨(n2 i hi).1, (n2 i hi).2.2.1⟩, fun i hi => ?_, s2, l2⟩
  obtain ⟨q1, q2, q3, q4, q5, c, q6, q7⟩ := n2 i hi
  exact ⟨q2, q4, q5, c, q7⟩
theorem DatA.fr {E E' : Es} {I I' : Tg → Nat → Int32} {D : Nat → Nat → Int32} {nn ns nl : Nat} {ab : Nat → Int32} (h : DatA E I D nn ns nl ab) (hF : FrQ E I E' I') : DatA E' I' D nn ns nl ab := by
  obtain ⟨f1, f2, f3, f4, -⟩ := hF
  have kk : ∀ a b c, a ≠ 8 → a ≠ 9 → eKd E' (a, b, c) = eKd E (a, b, c) := fun a b c h8 h9 => (f1 (a, b, c) h8 h9).2.1
  have kl : ∀ a b c, a ≠ 8 → a ≠ 9 → eLn E' (a, b, c) = eLn E (a, b, c) := fun a b c h8 h9 => (f1 (a, b, c) h8 h9).2.2
  have kr : ∀ a b c k, a ≠ 8 → a ≠ 9 → a ≠ 11 → eRf E' (a, b, c) k = eRf E (a, b, c) k := fun a b c k h8 h9 h11 => f2 (a, b, c) k h8 h9 (fun q => h11 q.1)
  have ki : ∀ a b c k, a ≠ 8 → a ≠ 9 → a ≠ 10 → a ≠ 11 → (a, b, c) ≠ (2, 2, 0) → I' (a, b, c) k = I (a, b, c) k := fun a b c k h8 h9 h10 h11 hn => f4 (a, b, c) k h8 h9 h10 h11 hn
  obtain ⟨a1, a2, s2, l2⟩ := h
  refine ⟨fun i hi => ⟨by rw [kk _ _ _ (by decide) (by decide)]; exact (a1 i hi).1, by rw [kr _ _ _ _ (by decide) (by decide) (by decide)]; exact (a1 i hi).2⟩, fun i hi => ?_, fun i hi => ?_, fun i hi => ?_⟩
  · obtain ⟨q2, q4, q5, c, q7⟩ := a2 i hi
    exact ⟨by rw [ki _ _ _ _ (by decide) (by decide) (by decide) (by decide) (by simp)]; exact q2, by rw [ki _ _ _ _ (by decide) (by decide) (by decide) (by decide) (by simp)]; exact q4, by rw [kr _ _ _ _ (by decide) (by decide) (by decide)]; exact q5, c, q7.cg (fun x => kk _ _ _ (by decide) (by decide)) (fun x => kl _ _ _ (by decide) (by decide)) (fun x k => kr _ _ _ _ (by decide) (by decide) (by decide)) (ki _ _ _ _ (by decide) (by decide) (by decide) (by decide) (by simp))⟩
  · obtain ⟨q1, q2, q3, q4, q5, q6⟩ := s2 i hi
    exact ⟨by rw [kk _ _ _ (by decide) (by decide)]; exact q1, by rw [kr _ _ _ _ (by decide) (by decide) (by decide)]; exact q2, by rw [kk _ _ _ (by decide) (by decide)]; exact q3, by rw [kl _ _ _ (by decide) (by decide)]; exact q4, by rw [ki _ _ _ _ (by decide) (by decide) (by decide) (by decide) (by simp)]; exact q5, fun k hk => by rw [ki _ _ _ _ (by decide) (by decide) (by decide) (by decide) (by simp)]; exact q6 k hk⟩
  · obtain ⟨q1, q2, q3, q4, q5, q6, q7, q8, q9, q10, q11, q12, q13⟩ := l2 i hi
    exact ⟨by rw [kk _ _ _ (by decide) (by decide)]; exact q1, by rw [ki _ _ _ _ (by decide) (by decide) (by decide) (by decide) (by simp)]; exact q2, by rw [kr _ _ _ _ (by decide) (by decide) (by decide)]; exact q3, by rw [kr _ _ _ _ (by decide) (by decide) (by decide)]; exact q4, by rw [ki _ _ _ _ (by decide) (by decide) (by decide) (by decide) (by simp)]; exact q5, by rw [ki _ _ _ _ (by decide) (by decide) (by decide) (by decide) (by simp)]; exact q6, by rw [ki _ _ _ _ (by decide) (by decide) (by decide) (by decide) (by simp)]; exact q7, by rw [kr _ _ _ _ (by decide) (by decide) (by decide)]; exact q8, by rw [kk _ _ _ (by decide) (by decide)]; exact q9, by rw [kr _ _ _ _ (by decide) (by decide) (by decide)]; exact q10, by rw [kk _ _ _ (by decide) (by decide)]; exact q11, by rw [kl _ _ _ (by decide) (by decide)]; exact q12, fun j c hj => by rw [ki _ _ _ _ (by decide) (by decide) (by decide) (by decide) (by simp)]; exact q13 j c hj⟩
abbrev tgL (l : Nat) : Tg := (16, l, 0)
abbrev tgN (i : Nat) : Tg := (12, i, 0)
/-- the links of a place that are taken -/
def tkB (D : Nat → Nat → Int32) (st : Int32) (l : Nat) : Bool := decide (¬ D 10 (D 25 l).toNatClampNeg &&& st = 0)
section CC
variable {E : Es} {D : Nat → Nat → Int32} {I : Tg → Nat → Int32} {Z : Nat → Nat} {r nn nm ng ns nl nc : Nat} {ab : Nat → Int32}
theorem lnkN_mem {i l : Nat} (h : l ∈ lnkN D nl i) : l ∈ srt (D 31) nl ∧ D 28 l = 0 ∧ D 24 l = nI i := ⟨(List.mem_filter.mp h).1, of_decide_eq_true (List.mem_filter.mp h).2⟩
theorem lnk_lat (f : Int32) (i : Nat) (p : Nat → Bool) : (lnkN D nl i).filter (fun l => decide (D 27 l = f) && p l) = (lat (D 31) (D 24) (D 27) (D 28) nl i f).filter p := by
  unfold lnkN lat
  rw [List.filter_filter, List.filter_filter]
  congr 1
  funext l
  by_cases h1 : D 28 l = 0 <;> by_cases h2 : D 24 l = nI i <;> by_cases h3 : D 27 l = f <;> simp [h1, h2, h3]
/-- the links of one place -/
theorem c_addLinks {Q : Unit → Gh → Prop} {st f : Int32} {ad p n : Nat} {w : List Nat} {R : List Nat} {c8 c9 : Nat} (hz : eAd E (0, 0, 0) = Z 0) (hS : RowS E r) (hA : DatA E I D nn ns nl ab) (hlk : ∀ l, l < nl → ∃ z, z < ns ∧ D 25 l = nI z) (hs40 : ns ≤ 40) (hsl : ∀ l ∈ srt (D 31) nl, l < nl) (hsn : (srt (D 31) nl).length ≤ 100) (hnn : nn ≤ 60) (h100 : nl ≤ 100) (ha : eAd E (7, r, 0) = ad) (h8 : Lst E I 8 r c8 (w.map tgN)) (h9 : Lst E I 9 r c9 (R.map tgL)) (hw : w.length ≤ 60) (hp : w[p]? = some n) (hn : n < nn) (hR : ∀ l ∈ R, l < nl) (hRl : R.length + ((lnkN D nl n).filter (fun l => decide (D 27 l = f) && tkB D st l)).length ≤ 100) (hc9 : c9 ≤ 300) (kk : ∀ E' I' c9', FrR r E I E' I' → Lst E' I' 8 r c8 (w.map tgN) → Lst E' I' 9 r c9' ((R ++ (lnkN D nl n).filter (fun l => decide (D 27 l = f) && tkB D st l)).map tgL) → c9' ≤ 300 → Mk E E' c9 c9' → (∀ t : Tg, t.1 = 10 → ∀ k, eLg E' t k = eLg E t k ∧ I' t k = I t k) → Q () (E', D, I')) : Wp (f_X8_addLinks Z (some ad) (nI p) f st) (E, D, I) Q := by
  have hpl := (List.getElem?_eq_some_iff.mp hp).1
  obtain ⟨s1, s2, s3, s4, s5, s6, s7, s8, s9⟩ := id hS
  obtain ⟨n1, n2, n3, cN, hLN⟩ := hA.2.1 n hn
  have hkN := (hA.1 n hn).1
  unfold f_X8_addLinks
  refine wp_neg (nI_pos (by omega)) ?_
  refine wc_R ha s1 s2 rfl ?_
  refine wc_call rfl h8.1 (l_size h8 rfl rfl ?_)
  rw [List.length_map]
  refine wp_pos ((nI_ltI (by omega) (by omega)).mpr hpl) ?_
  refine wc_R ha s1 s2 rfl ?_
  refine wc_call rfl h8.1 (l_get h8 rfl rfl (t := tgN n) (by rw [List.getElem?_map, hp]; rfl) ?_)
  refine wc_ck rfl hkN ?_
  -- the loop
  have key : ∀ (suf pre : List Nat) (fu : Nat) (E' : Es) (I' : Tg → Nat → Int32) (c9' : Nat) (T : List Nat), pre ++ suf = lnkN D nl n → suf.length < fu → FrR r E I E' I' → Lst E' I' 8 r c8 (w.map tgN) → Lst E' I' 9 r c9' (T.map tgL) → c9' ≤ 300 → Mk E E' c9 c9' → (∀ t : Tg, t.1 = 10 → ∀ k, eLg E' t k = eLg E t k ∧ I' t k = I t k) → (∀ l ∈ T, l < nl) → T.length + (suf.filter (fun l => decide (D 27 l = f) && tkB D st l)).length ≤ 100 → (∀ E'' I'' c9'', FrR r E I E'' I'' → Lst E'' I'' 8 r c8 (w.map tgN) → Lst E'' I'' 9 r c9'' ((T ++ suf.filter (fun l => decide (D 27 l = f) && tkB D st l)).map tgL) → c9'' ≤ 300 → Mk E E'' c9 c9'' → (∀ t : Tg, t.1 = 10 → ∀ k, eLg E'' t k = eLg E t k ∧ I'' t k = I t k) → Q () (E'', D, I'')) → Wp (f_X8_addLinks_32 Z (some ad) f st (some (eAd E (12, n, 0))) fu (nI pre.length)) (E', D, I') Q := by
    have hlen : (lnkN D nl n).length ≤ 100 := Nat.le_trans (List.length_filter_le _ _) hsn
    intro suf
    induction suf with
    | nil =>
      intro pre fu E' I' c9' T hps hf hF h8' h9' hc9' hM h10 hT hTl kk
      cases fu with
      | zero => exact absurd hf (Nat.not_lt_zero _)
      | succ fu =>
        rw [List.append_nil] at hps
        have hA' := hA.fr hF.q
        obtain ⟨m1, m2, m3, cM, hLM⟩ := hA'.2.1 n hn
        have hadN : eAd E' (12, n, 0) = eAd E (12, n, 0) := (hF.2.1 (12, n, 0) (by simp) (by simp)).1
        rw [f_X8_addLinks_32]
        refine wc_call hadN (hA'.1 n hn).1 ?_
        unfold f_X6_size
        refine wc_R hadN (hA'.1 n hn).1 m3 rfl ?_
        refine wc_call rfl hLM.1 (l_size hLM rfl rfl (wp_mp ?_))
        rw [List.length_map, hps]
        refine wp_pos ((nI_leI (by omega) (by omega)).mpr (Nat.le_refl _)) (wp_mp ?_)
        have kk := kk E' I' c9' hF h8'
        rw [List.filter_nil, List.append_nil] at kk
        exact kk h9' hc9' hM h10
    | cons l suf ih =>
      intro pre fu E' I' c9' T hps hf hF h8' h9' hc9' hM h10 hT hTl kk
      cases fu with
      | zero => exact absurd hf (Nat.not_lt_zero _)
      | succ fu =>
        rw [List.length_cons] at hf
        have hA' := hA.fr hF.q
        obtain ⟨m1, m2, m3, cM, hLM⟩ := hA'.2.1 n hn
        have hadN : eAd E' (12, n, 0) = eAd E (12, n, 0) := (hF.2.1 (12, n, 0) (by simp) (by simp)).1
        have hS' := hS.fr hF.q
        have hget : (lnkN D nl n)[pre.length]? = some l := by rw [← hps, List.getElem?_append_right (Nat.le_refl _), Nat.sub_self]; rfl
        have hpl2 : (lnkN D nl n).length = pre.length + (suf.length + 1) := by rw [← hps, List.length_append, List.length_cons]
        have hl : l < nl := hsl l (lnkN_mem (List.mem_of_getElem? hget)).1
        obtain ⟨z, hz40, ez⟩ := hlk l hl
        have hLk := hA'.2.2.2 l hl
        have hadL : eAd E' (16, l, 0) = eAd E' (16, l, 0) := rfl
        have go : ∀ (E2 : Es) (I2 : Tg → Nat → Int32) (c2 : Nat) (T2 : List Nat), FrR r E I E2 I2 → Lst E2 I2 8 r c8 (w.map tgN) → Lst E2 I2 9 r c2 (T2.map tgL) → c2 ≤ 300 → Mk E E2 c9 c2 → (∀ t : Tg, t.1 = 10 → ∀ k, eLg E2 t k = eLg E t k ∧ I2 t k = I t k) → (∀ l ∈ T2, l < nl) → (T ++ (l :: suf).filter (fun l => decide (D 27 l = f) && tkB D st l)) = T2 ++ suf.filter (fun l => decide (D 27 l = f) && tkB D st l) → Wp (f_X8_addLinks_88 Z (f_X8_addLinks_32 Z (some ad) f st (some (eAd E (12, n, 0))) fu) (some ad) f st (some (eAd E (12, n, 0))) (nI pre.length)) (E2, D, I2) Q := fun E2 I2 c2 T2 q1 q2 q3 q4 q5 q6 q7 q8 => by
          unfold f_X8_addLinks_88
          rw [nI_1, show pre.length + 1 = (pre ++ [l]).length by rw [List.length_append, List.length_singleton]]
          refine ih (pre ++ [l]) fu E2 I2 c2 T2 (by rw [List.append_assoc]; exact hps) (by omega) q1 q2 q3 q4 q5 q6 q7 ?_ (fun E3 I3 c3 r1 r2 r3 r4 r5 r6 => kk E3 I3 c3 r1 r2 (by rw [q8]; exact r3) r4 r5 r6)
          rw [← List.length_append, ← q8, List.length_append]
          exact hTl
        rw [f_X8_addLinks_32]
        refine wc_call hadN (hA'.1 n hn).1 ?_
        unfold f_X6_size
        refine wc_R hadN (hA'.1 n hn).1 m3 rfl ?_
        refine wc_call rfl hLM.1 (l_size hLM rfl rfl (wp_mp ?_))
        rw [List.length_map]
        refine wp_neg (fun e => by have := (nI_leI (by omega) (by omega)).mp e; omega) ?_
        refine wc_call hadN (hA'.1 n hn).1 ?_
        unfold f_X6_linkAt
        refine wp_neg (nI_pos (by omega)) ?_
        refine wc_R hadN (hA'.1 n hn).1 m3 rfl ?_
        refine wc_call rfl hLM.1 (l_size hLM rfl rfl ?_)
        rw [List.length_map]
        refine wp_neg (fun e => by have := (nI_leI (by omega) (by omega)).mp e; omega) ?_
        refine wc_R hadN (hA'.1 n hn).1 m3 rfl ?_
        refine wc_call rfl hLM.1 (l_get hLM rfl rfl (t := tgL l) (by rw [List.getElem?_map, hget]; rfl) ?_)
        refine wc_ck rfl hLk.1 (wp_mp ?_)
        refine wp_neg (by simp) ?_
        refine wc_I rfl rfl hLk.1 rfl ?_
        rw [hLk.2.2.2.2.2.1]
        refine wp_ite (fun c1 => ?_) (fun c1 => ?_)
        · refine wc_R rfl hLk.1 hLk.2.2.2.1 rfl ?_
          rw [ez, nI_clamp (by omega)]
          have hSz := hA'.2.2.1 z hz40
          refine wc_call rfl hSz.1 (c_told hSz rfl ?_)
          have etk : tkB D st l = decide (¬ D 10 z &&& st = 0) := by unfold tkB; rw [ez, nI_clamp (by omega)]
          refine wp_ite (fun c2 => ?_) (fun c2 => ?_)
          · refine go E' I' c9' T hF h8' h9' hc9' hM h10 hT ?_
            rw [List.filter_cons_of_neg (by simp [etk, c2])]
          · have hpos : (decide (D 27 l = f) && tkB D st l) = true := by rw [etk, decide_eq_true c1, decide_eq_true c2]; rfl
            have hTl2 : T.length < 100 := by
              rw [List.filter_cons_of_pos (p := fun l => decide (D 27 l = f) && tkB D st l) hpos, List.length_cons] at hTl
              omega
            have ha7 : eAd E' (7, r, 0) = ad := by rw [(hF.2.1 (7, r, 0) (by simp) (by simp)).1]; exact ha
            refine wc_R ha7 hS'.1 hS'.2.2.1 rfl ?_
            refine wc_call rfl h9'.1 (l_add (ci := 7) (Z := Z) h9' rfl rfl (by rw [(hF.2.1 (0, 0, 0) (by simp) (by simp)).1]; exact hz) rfl rfl hLk.1 (by simp) (by rw [List.length_map]; omega) (fun t ht => ?_) (fun t ht => ?_) (fun E2 I2 c2 q1 q2 q3 q4 q5 => ?_))
            · obtain ⟨l2, hl2, rfl⟩ := List.mem_map.mp ht
              rw [(hA'.2.2.2 l2 (hT l2 hl2)).1]; omega
            · obtain ⟨l2, hl2, rfl⟩ := List.mem_map.mp ht
              simp
            · rw [List.length_map] at q2
              have hF2 : FrR r E' I' E2 I2 := FrR.ag (.inr rfl) q3 q5 q4.2.2.1
              refine go E2 I2 c2 (T ++ [l]) (hF.tr hF2) ?_ (by rw [List.map_append]; exact q1) (by omega) (hM.tr q4) (fun t ht k => ?_) (fun l2 hl2 => ?_) ?_
              · exact h8'.cg (fun x => (q3 (8, r, x) (by simp)).2.1) (fun x => (q3 (8, r, x) (by simp)).2.2.1) (fun x k => (q3 (8, r, x) (by simp)).2.2.2.1 k) ((q3 (8, r, 0) (by simp)).2.2.2.2.2 2)
              · obtain ⟨x1, x2, x3, x4, x5, x6⟩ := q3 t (fun q => by rw [ht] at q; exact absurd q.1 (by decide))
                exact ⟨(x5 k).trans (h10 t ht k).1, (x6 k).trans (h10 t ht k).2⟩
              · rcases List.mem_append.mp hl2 with h | h
                · exact hT l2 h
                · rw [List.mem_singleton.mp h]; exact hl
              · rw [List.filter_cons_of_pos (p := fun l => decide (D 27 l = f) && tkB D st l) hpos, List.append_assoc]
                rfl
        · refine go E' I' c9' T hF h8' h9' hc9' hM h10 hT ?_
          rw [List.filter_cons_of_neg (by rw [decide_eq_false c1]; simp)]
  exact key (lnkN D nl n) [] fuL E I c9 R rfl (fu_ok (by have := List.length_filter_le (fun l => decide (D 28 l = 0 ∧ D 24 l = nI n)) (srt (D 31) nl); have h5 : (lnkN D nl n).length ≤ (srt (D 31) nl).length := this; omega)) FrR.rf h8 h9 hc9 Mk.rf (fun _ _ _ => ⟨rfl, rfl⟩) hR hRl kk
end CC
