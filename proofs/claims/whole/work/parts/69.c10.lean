/-! ===== the class: outcomes ===== -/
def OcIs (E : Es) (I : Tg → Nat → Int32) (q : Nat) (o : List Int32 × Option Nat) : Prop := I (11, q, 0) 1 = nI o.1.length ∧ (∀ i v, o.1[i]? = some v → I (11, q, 1) i = v) ∧ eRf E (11, q, 0) 2 = o.2.map tgL ∧ o.1.length ≤ 100
/-- only an outcome changes -/
def FrO (q : Nat) (E : Es) (I : Tg → Nat → Int32) (E' : Es) (I' : Tg → Nat → Int32) : Prop := (∃ v, E' = eR E (11, q, 0) 2 v) ∧ (∀ t k, ¬ (t.1 = 11 ∧ t.2.1 = q) → I' t k = I t k)
theorem eR_eR (E : Es) (t : Tg) (k : Nat) (v v' : Option Tg) : eR (eR E t k v) t k v' = eR E t k v' := by
  unfold eR
  dsimp only
  congr 4
  funext u j
  by_cases h : u = t ∧ j = k
  · rw [if_pos h, if_pos h]
  · rw [if_neg h, if_neg h, if_neg h]
theorem eR_id {E : Es} {t : Tg} {k : Nat} : eR E t k (eRf E t k) = E := by
  unfold eR
  have : (fun (u : Tg) (j : Nat) => if u = t ∧ j = k then eRf E t k else E.2.2.2.1 u j) = E.2.2.2.1 := by
    funext u j
    by_cases h : u = t ∧ j = k
    · rw [if_pos h, h.1, h.2]
    · rw [if_neg h]
  rw [this]
theorem FrO.rf {q : Nat} {E : Es} {I : Tg → Nat → Int32} : FrO q E I E I := ⟨⟨_, eR_id.symm⟩, fun _ _ _ => rfl⟩
theorem FrO.tr {q : Nat} {E E' E'' : Es} {I I' I'' : Tg → Nat → Int32} (h : FrO q E I E' I') (h2 : FrO q E' I' E'' I'') : FrO q E I E'' I'' := by
  obtain ⟨⟨v, rfl⟩, a⟩ := h
  obtain ⟨⟨v', rfl⟩, b⟩ := h2
  exact ⟨⟨v', eR_eR _ _ _ _ _⟩, fun t k ht => (b t k ht).trans (a t k ht)⟩
theorem FrO.us {q c k : Nat} {v : Int32} {E : Es} {I : Tg → Nat → Int32} : FrO q E I E (us I (11, q, c) k v) := ⟨⟨_, eR_id.symm⟩, fun t j ht => us_ne (fun e => ht ⟨by rw [e.1], by rw [e.1]⟩)⟩
theorem FrO.eR {q : Nat} {v : Option Tg} {E : Es} {I : Tg → Nat → Int32} : FrO q E I (eR E (11, q, 0) 2 v) I := ⟨⟨_, rfl⟩, fun _ _ _ => rfl⟩
theorem FrO.q {q : Nat} {E E' : Es} {I I' : Tg → Nat → Int32} (h : FrO q E I E' I') : FrQ E I E' I' := by
  obtain ⟨⟨v, rfl⟩, a⟩ := h
  exact ⟨fun _ _ _ => ⟨rfl, rfl, rfl⟩, fun u j q1 q2 q3 => eR_ne (fun e => q3 ⟨by rw [e.1], e.2⟩), fun _ _ _ _ _ _ => rfl, fun t k q1 q2 q3 q4 q5 => a t k (fun e => q4 e.1), rfl⟩
theorem FrO.lst {q a b c : Nat} {xs : List Tg} {E E' : Es} {I I' : Tg → Nat → Int32} (h : FrO q E I E' I') (ha : a ≠ 11) (hL : Lst E I a b c xs) : Lst E' I' a b c xs := by
  obtain ⟨⟨v, rfl⟩, h2⟩ := h
  exact hL.cg (fun _ => rfl) (fun _ => rfl) (fun x k => eR_ne (fun e => ha (congrArg Prod.fst e.1))) (h2 _ _ (fun e => ha e.1))
section CF
variable {E : Es} {D : Nat → Nat → Int32} {I : Tg → Nat → Int32} {Z : Nat → Nat} {r q nn nm ng ns nl nc : Nat}
theorem c_valueAt {Q : Int32 → Gh → Prop} {a : Nat} {o : List Int32 × Option Nat} {k : Int32} (hS : OutS E q) (hO : OcIs E I q o) (ha : eAd E (11, q, 0) = a) (kk : Q (vAt o.1 k) (E, D, I)) : Wp (f_X7_valueAt (some a) k) (E, D, I) Q := by
  obtain ⟨s1, s2, s3, s4⟩ := hS
  obtain ⟨o1, o2, o3, o4⟩ := hO
  unfold vAt at kk
  unfold f_X7_valueAt
  refine wp_ite (fun c => ?_) (fun c => ?_)
  · rw [if_pos c] at kk; exact wp_mp kk
  · rw [if_neg c] at kk
    obtain ⟨j, hj, rfl⟩ := nI_of c
    rw [nI_clamp hj] at kk
    refine wc_I ha rfl s1 rfl ?_
    rw [o1]
    refine wp_ite (fun c2 => ?_) (fun c2 => ?_)
    · have := (nI_leI (by omega) hj).mp c2
      rw [List.getD_eq_getElem?_getD, List.getElem?_eq_none this] at kk
      exact wp_mp kk
    · have hlt : j < o.1.length := Nat.lt_of_not_le fun h => c2 ((nI_leI (by omega) hj).mpr h)
      refine wc_R ha s1 s2 rfl ?_
      refine wc_aN rfl s3 (by omega) ?_
      rw [s4]
      refine wp_neg (fun e => by have := (nI_leI (by omega) (by omega)).mp e; omega) ?_
      refine wc_R ha s1 s2 rfl ?_
      refine wc_a j rfl rfl s3 (.inr (.inl rfl)) rfl (by omega) (by rw [s4]; omega) ?_
      have hget : o.1[j]? = some o.1[j] := List.getElem?_eq_getElem hlt
      rw [List.getD_eq_getElem?_getD, hget] at kk
      rw [o2 j _ hget]
      exact wp_mp kk
theorem vAt_get {vs : List Int32} {i : Nat} {v : Int32} (hi : i < 2 ^ 31) (h : vs[i]? = some v) : vAt vs (nI i) = v := by
  unfold vAt
  rw [if_neg (nI_pos hi), nI_clamp hi, List.getD_eq_getElem?_getD, h]
  rfl
theorem c_isSame {Q : Int32 → Gh → Prop} {a b p : Nat} {o o2 : List Int32 × Option Nat} (hS : OutS E q) (hS2 : OutS E p) (hO : OcIs E I q o) (hO2 : OcIs E I p o2) (ha : eAd E (11, q, 0) = a) (hb : eAd E (11, p, 0) = b) (kk : Q (b2i (decide (o.1 = o2.1))) (E, D, I)) : Wp (f_X7_isSame (some a) (some b)) (E, D, I) Q := by
  unfold f_X7_isSame
  refine wc_I ha rfl hS.1 rfl ?_
  refine wc_I hb rfl hS2.1 rfl ?_
  rw [hO.1, hO2.1]
  have l1 := hO.2.2.2
  have l2 := hO2.2.2.2
  by_cases hl : o.1.length = o2.1.length
  · refine wp_pos (by rw [hl]) ?_
    have key : ∀ (d i fu : Nat), d + i = o.1.length → d < fu → (∀ j, j < i → o.1[j]? = o2.1[j]?) → Wp (f_X7_isSame_15 (some a) (some b) fu (nI i)) (E, D, I) Q := by
      intro d
      induction d with
      | zero =>
        intro i fu hi hf hj
        cases fu with
        | zero => exact absurd hf (Nat.not_lt_zero _)
        | succ fu =>
          rw [f_X7_isSame_15]
          refine wc_I ha rfl hS.1 rfl ?_
          rw [hO.1]
          refine wp_pos ((nI_leI (by omega) (by omega)).mpr (by omega)) ?_
          have e : o.1 = o2.1 := List.ext_getElem? fun j => by
            by_cases hj2 : j < i
            · exact hj j hj2
            · rw [List.getElem?_eq_none (by omega), List.getElem?_eq_none (by omega)]
          rw [decide_eq_true e] at kk
          exact wp_rz (.inr rfl) kk
      | succ d ih =>
        intro i fu hi hf hj
        cases fu with
        | zero => exact absurd hf (Nat.not_lt_zero _)
        | succ fu =>
          have g1 : o.1[i]? = some o.1[i] := List.getElem?_eq_getElem (by omega)
          have g2 : o2.1[i]? = some o2.1[i] := List.getElem?_eq_getElem (by omega)
          rw [f_X7_isSame_15]
          refine wc_I ha rfl hS.1 rfl ?_
          rw [hO.1]
          refine wp_neg (fun e => by have := (nI_leI (by omega) (by omega)).mp e; omega) ?_
          refine wc_call ha hS.1 (c_valueAt hS hO ha ?_)
          refine wc_call hb hS2.1 (c_valueAt hS2 hO2 hb ?_)
          rw [vAt_get (by omega) g1, vAt_get (by omega) g2]
          refine wp_ite (fun e => ?_) (fun e => ?_)
          · rw [nI_1]
            refine ih (i + 1) fu (by omega) (by omega) (fun j hj2 => ?_)
            by_cases ej : j = i
            · subst ej; rw [g1, g2, e]
            · exact hj j (by omega)
          · have : o.1 ≠ o2.1 := fun h => e (by
              have : o.1[i]? = o2.1[i]? := by rw [h]
              rw [g1, g2] at this
              exact Option.some.inj this)
            rw [decide_eq_false this] at kk
            exact wp_rz (.inl rfl) kk
    exact key o.1.length 0 fuL (by omega) (fu_ok (by omega)) (fun j hj => absurd hj (Nat.not_lt_zero _))
  · rw [decide_eq_false (fun h => hl (by rw [h]))] at kk
    exact wp_neg (fun h => hl ((nI_eq (by omega) (by omega)).mp h)) (wp_rz (.inl rfl) kk)
/-- one more -/
theorem c_take {Q : Unit → Gh → Prop} {a b l : Nat} {o : List Int32 × Option Nat} {v law : Int32} (hS : OutS E q) (hO : OcIs E I q o) (ha : eAd E (11, q, 0) = a) (hb : eAd E (16, l, 0) = b) (hk : eKd E (16, l, 0) = 107) (hlaw : law = 0 ∨ law = 1 ∨ law = 2) (hlen : o.1.length < 100) (kk : ∀ E' I', FrO q E I E' I' → OcIs E' I' q (ost law o (v, l)) → Q () (E', D, I')) : Wp (f_X7_take (some a) (some b) v law) (E, D, I) Q := by
  obtain ⟨s1, s2, s3, s4⟩ := id hS
  obtain ⟨o1, o2, o3, o4⟩ := id hO
  have e86 : ost law o (v, l) = ([v], some l) → Wp (f_X7_take_86 (some a) (some b) v) (E, D, I) Q := fun e => by
    unfold f_X7_take_86
    refine wc_R ha s1 s2 rfl ?_
    refine wc_s 0 rfl rfl s3 (.inr (.inl rfl)) rfl (by omega) (by rw [s4]; omega) ?_
    refine wc_P ha rfl s1 rfl rfl ?_
    refine wc_PR (u := (16, l, 0)) ha hb s1 rfl rfl (.inl (by rw [hk]; omega)) (wp_mp ?_)
    refine kk _ _ ((FrO.us.tr FrO.us).tr FrO.eR) ?_
    rw [e]
    refine ⟨us_eq, fun i u hi => ?_, eR_eq, by simp⟩
    cases i with
    | zero =>
      cases hi
      rw [us_ne (by simp), us_eq]
      rfl
    | succ i => cases hi
  have e103 : ost law o (v, l) = o → Wp f_X7_take_103 (E, D, I) Q := fun e => wp_mp (kk E I FrO.rf (by rw [e]; exact hO))
  unfold f_X7_take
  refine wp_ite (fun c => ?_) (fun c => ?_)
  · have eo : ost law o (v, l) = (if v ∈ o.1 then o.1 else o.1 ++ [v], some l) := by unfold ost; rw [if_pos c]
    have fin : ∀ I2 vs, FrO q E I E I2 → (if v ∈ o.1 then o.1 else o.1 ++ [v]) = vs → I2 (11, q, 0) 1 = nI vs.length → (∀ i u, vs[i]? = some u → I2 (11, q, 1) i = u) → vs.length ≤ 100 → Wp (f_X7_take_52 (some a) (some b)) (E, D, I2) Q := fun I2 vs h1 h2 h3 h4 h5 => by
      unfold f_X7_take_52
      refine wc_PR (u := (16, l, 0)) ha hb s1 rfl rfl (.inl (by rw [hk]; omega)) (wp_mp ?_)
      refine kk _ _ (h1.tr FrO.eR) ?_
      rw [eo, h2]
      exact ⟨h3, h4, eR_eq, h5⟩
    -- has
    have has : ∀ (Q2 : Int32 → Gh → Prop), Q2 (b2i (decide (v ∈ o.1))) (E, D, I) → Wp (f_X7_has (some a) v) (E, D, I) Q2 := fun Q2 k2 => by
      have key : ∀ (suf pre : List Int32) (fu : Nat), pre ++ suf = o.1 → suf.length < fu → v ∉ pre → Wp (f_X7_has_2 (some a) v fu (nI pre.length)) (E, D, I) Q2 := by
        intro suf
        induction suf with
        | nil =>
          intro pre fu hp hf hv
          cases fu with
          | zero => exact absurd hf (Nat.not_lt_zero _)
          | succ fu =>
            rw [List.append_nil] at hp
            rw [f_X7_has_2]
            refine wc_I ha rfl s1 rfl ?_
            rw [o1]
            refine wp_pos ((nI_leI (by omega) (by rw [hp]; omega)).mpr (by rw [hp]; exact Nat.le_refl _)) ?_
            rw [← hp, decide_eq_false hv] at k2
            exact wp_rz (.inl rfl) k2
        | cons u suf ih =>
          intro pre fu hp hf hv
          cases fu with
          | zero => exact absurd hf (Nat.not_lt_zero _)
          | succ fu =>
            rw [List.length_cons] at hf
            have hl2 : o.1.length = pre.length + (suf.length + 1) := by rw [← hp, List.length_append, List.length_cons]
            have hget : o.1[pre.length]? = some u := by rw [← hp, List.getElem?_append_right (Nat.le_refl _), Nat.sub_self]; rfl
            rw [f_X7_has_2]
            refine wc_I ha rfl s1 rfl ?_
            rw [o1]
            refine wp_neg (fun e => by have := (nI_leI (by omega) (by omega)).mp e; omega) ?_
            refine wc_call ha s1 (c_valueAt hS hO ha ?_)
            rw [vAt_get (by omega) hget]
            refine wp_ite (fun e => ?_) (fun e => ?_)
            · subst e
              rw [decide_eq_true (List.mem_of_getElem? hget)] at k2
              exact wp_rz (.inr rfl) k2
            · rw [nI_1, show pre.length + 1 = (pre ++ [u]).length by rw [List.length_append, List.length_singleton]]
              refine ih (pre ++ [u]) fu (by rw [List.append_assoc]; exact hp) (by omega) (fun h => ?_)
              rcases List.mem_append.mp h with h | h
              · exact hv h
              · exact e (List.mem_singleton.mp h).symm
      unfold f_X7_has
      exact key o.1 [] fuL rfl (fu_ok (by omega)) (by simp)
    refine wc_call ha s1 (has _ ?_)
    by_cases hv : v ∈ o.1
    · rw [decide_eq_true hv]
      refine wp_neg (by decide) (fin I o.1 FrO.rf (if_pos hv) o1 o2 (by omega))
    · rw [decide_eq_false hv]
      refine wp_pos rfl ?_
      refine wc_I ha rfl s1 rfl ?_
      rw [o1]
      refine wp_neg (nI_pos (by omega)) ?_
      refine wc_I ha rfl s1 rfl ?_
      rw [o1]
      refine wc_R ha s1 s2 rfl ?_
      refine wc_aN rfl s3 (by omega) ?_
      rw [s4]
      refine wp_neg (fun e => by have := (nI_leI (by omega) (by omega)).mp e; omega) ?_
      refine wc_R ha s1 s2 rfl ?_
      refine wc_I ha rfl s1 rfl ?_
      rw [o1]
      refine wc_s o.1.length rfl rfl s3 (.inr (.inl rfl)) rfl (by omega) (by rw [s4]; omega) ?_
      refine wc_I ha rfl s1 rfl ?_
      rw [us_ne (by simp), o1, nI_1]
      refine wc_P ha rfl s1 rfl rfl ?_
      refine fin _ (o.1 ++ [v]) (FrO.us.tr FrO.us) (if_neg hv) (by rw [us_eq, List.length_append, List.length_singleton]) (fun i u hi => ?_) (by rw [List.length_append, List.length_singleton]; omega)
      rw [us_ne (by simp)]
      by_cases hi2 : i < o.1.length
      · rw [List.getElem?_append_left hi2] at hi
        rw [us_ne (fun e => by have := e.2; omega)]
        exact o2 i u hi
      · rw [List.getElem?_append_right (by omega)] at hi
        have hi3 : i - o.1.length = 0 := by
          have := (List.getElem?_eq_some_iff.mp hi).1
          rw [List.length_singleton] at this
          omega
        rw [hi3] at hi
        cases hi
        rw [show i = o.1.length by omega, us_eq]
        rfl
  · obtain ⟨vs, lk⟩ := o
    refine wc_I ha rfl s1 rfl ?_
    rw [o1]
    cases vs with
    | nil =>
      refine wp_pos rfl (e86 ?_)
      unfold ost
      rw [if_neg c]
    | cons u t =>
      have hl1 : (u :: t).length < 100 := hlen
      refine wp_neg (fun e => ?_) ?_
      · have := (nI_eq (a := (u :: t).length) (b := 0) (by omega) (by omega)).mp e
        rw [List.length_cons] at this
        omega
      · refine wp_ite (fun c0 => e86 ?_) (fun c0 => ?_)
        · unfold ost
          rw [if_neg c]
          exact if_pos (.inl c0)
        · have c1 : law = 1 := by
            rcases hlaw with h | h | h
            · exact absurd h c0
            · exact h
            · exact absurd h c
          refine wp_pos c1 ?_
          refine wc_R ha s1 s2 rfl ?_
          refine wc_a 0 rfl rfl s3 (.inr (.inl rfl)) rfl (by omega) (by rw [s4]; omega) ?_
          rw [o2 0 u rfl]
          refine wp_ite (fun c2 => e103 ?_) (fun c2 => e86 ?_)
          · unfold ost
            rw [if_neg c]
            exact if_neg (fun h => h.elim c0 (fun h => absurd c2 (Int32.not_le.mpr h)))
          · unfold ost
            rw [if_neg c]
            exact if_pos (.inr (Int32.not_le.mp c2))
/-- the links of a row read -/
theorem c_rsize {Q : Int32 → Gh → Prop} {a c9 : Nat} {R : List Nat} (hS : RowS E r) (h9 : Lst E I 9 r c9 (R.map tgL)) (ha : eAd E (7, r, 0) = a) (kk : Q (nI R.length) (E, D, I)) : Wp (f_X8_size (some a)) (E, D, I) Q := by
  unfold f_X8_size
  refine wc_R ha hS.1 hS.2.2.1 rfl ?_
  refine wc_call rfl h9.1 (l_size h9 rfl rfl (wp_mp ?_))
  rw [List.length_map]
  exact kk
theorem c_linkAt {Q : Option Nat → Gh → Prop} {a c9 i l : Nat} {R : List Nat} (hS : RowS E r) (h9 : Lst E I 9 r c9 (R.map tgL)) (ha : eAd E (7, r, 0) = a) (hR : R.length ≤ 100) (hi : R[i]? = some l) (hk : eKd E (16, l, 0) = 107) (kk : Q (some (eAd E (16, l, 0))) (E, D, I)) : Wp (f_X8_linkAt (some a) (nI i)) (E, D, I) Q := by
  have hlt := (List.getElem?_eq_some_iff.mp hi).1
  unfold f_X8_linkAt
  refine wp_neg (nI_pos (by omega)) ?_
  refine wc_R ha hS.1 hS.2.2.1 rfl ?_
  refine wc_call rfl h9.1 (l_size h9 rfl rfl ?_)
  rw [List.length_map]
  refine wp_neg (fun e => by have := (nI_leI (by omega) (by omega)).mp e; omega) ?_
  refine wc_R ha hS.1 hS.2.2.1 rfl ?_
  refine wc_call rfl h9.1 (l_get h9 rfl rfl (t := tgL l) (by rw [List.getElem?_map, hi]; rfl) ?_)
  exact wc_ck rfl hk (wp_mp kk)
theorem c_holds {Q : Int32 → Gh → Prop} {a i b : Nat} (hS : RowS E r) (ha : eAd E (7, r, 0) = a) (hi : i < 100) (hb : b < 64) (kk : Q (b2i (lb (eLg E (7, r, 1) i) b)) (E, D, I)) : Wp (f_X8_holds (some a) (nI i) (nI b)) (E, D, I) Q := by
  unfold f_X8_holds
  refine wp_neg (nI_pos (by omega)) ?_
  refine wc_R ha hS.1 hS.2.2.2.1 rfl ?_
  refine wc_aN rfl hS.2.2.2.2.2.1 (by omega) ?_
  rw [hS.2.2.2.2.2.2.1]
  refine wp_neg (fun e => by have := (nI_leI (by omega) (by omega)).mp e; omega) ?_
  refine wc_R ha hS.1 hS.2.2.2.1 rfl ?_
  refine wc_aL i rfl hS.2.2.2.2.2.1 rfl (by omega) (by rw [hS.2.2.2.2.2.2.1]; exact hi) ?_
  rw [lb_shr _ hb]
  cases hl : lb (eLg E (7, r, 1) i) b with
  | true => rw [hl] at kk; exact wp_neg (by decide) (wp_rz (.inr rfl) kk)
  | false => rw [hl] at kk; exact wp_pos (by decide) (wp_rz (.inl rfl) kk)
theorem c_read {Q : Unit → Gh → Prop} {ab : Nat → Int32} {a ar b s c9 : Nat} {R : List Nat} {wo : Option Nat} {H : Nat → Bool} {law : Int32} (hS : RowS E r) (hOS : OutS E q) (hA : DatA E I D nn ns nl ab) (hRD : RowD D nn ns nl) (ha : eAd E (11, q, 0) = a) (har : eAd E (7, r, 0) = ar) (h9 : Lst E I 9 r c9 (R.map tgL)) (hR : ∀ l ∈ R, l < nl) (hR100 : R.length ≤ 100) (hs : s < 12) (hb : b < 64) (hlaw : law = 0 ∨ law = 1 ∨ law = 2) (hwo : ∀ l, wo = some l → l < nl) (hH : ∀ i l, R[i]? = some l → lb (eLg E (7, r, 1) i) b = H l) (kk : ∀ E' I', FrO q E I E' I' → OcIs E' I' q (oc law (psD D s (R.filter (fun l => decide (some l ≠ wo) && H l)))) → Q () (E', D, I')) : Wp (f_X7_read (some a) (some ar) (nI s) law (nI b) (wo.map (fun l => eAd E (16, l, 0)))) (E, D, I) Q := by
  unfold f_X7_read
  refine wc_P ha rfl hOS.1 rfl rfl ?_
  refine wc_PRn ha hOS.1 rfl rfl ?_
  have key : ∀ (suf pre : List Nat) (fu : Nat) (E' : Es) (I' : Tg → Nat → Int32) (o : List Int32 × Option Nat), pre ++ suf = R → suf.length < fu → FrO q E I E' I' → OcIs E' I' q o → o.1.length ≤ pre.length → (∀ E'' I'', FrO q E I E'' I'' → OcIs E'' I'' q ((psD D s (suf.filter (fun l => decide (some l ≠ wo) && H l))).foldl (ost law) o) → Q () (E'', D, I'')) → Wp (f_X7_read_13 (some a) (some ar) (nI s) law (nI b) (wo.map (fun l => eAd E (16, l, 0))) fu (nI pre.length)) (E', D, I') Q := by
    intro suf
    induction suf with
    | nil =>
      intro pre fu E' I' o hp hf hF hO ho k9
      cases fu with
      | zero => exact absurd hf (Nat.not_lt_zero _)
      | succ fu =>
        rw [List.append_nil] at hp
        subst hp
        have hS' := hS.fr hF.q
        have h9' := hF.lst (by decide) h9
        have hadr : eAd E' (7, r, 0) = ar := by obtain ⟨⟨v, rfl⟩, -⟩ := hF; exact har
        rw [f_X7_read_13]
        refine wc_call hadr hS'.1 (c_rsize hS' h9' hadr ?_)
        exact wp_pos ((nI_leI (by omega) (by omega)).mpr (Nat.le_refl _)) (wp_mp (k9 E' I' hF hO))
    | cons l suf ih =>
      intro pre fu E' I' o hp hf hF hO ho kk
      cases fu with
      | zero => exact absurd hf (Nat.not_lt_zero _)
      | succ fu =>
        rw [List.length_cons] at hf
        have hRl : R.length = pre.length + (suf.length + 1) := by rw [← hp, List.length_append, List.length_cons]
        have hget : R[pre.length]? = some l := by rw [← hp, List.getElem?_append_right (Nat.le_refl _), Nat.sub_self]; rfl
        have hl := hR l (List.mem_of_getElem? hget)
        have hS' := hS.fr hF.q
        have hOS' := hOS.fr hF.q
        have hA' := hA.fr hF.q
        have h9' := hF.lst (by decide) h9
        have hLk := hA'.2.2.2 l hl
        obtain ⟨z, hz, ez⟩ := hRD.1 l hl
        have hz40 := hRD.2.1
        have hSz := hA'.2.2.1 z hz
        have had : ∀ t, eAd E' t = eAd E t := fun t => by obtain ⟨⟨v, rfl⟩, -⟩ := hF; rfl
        have hlg : ∀ t k, eLg E' t k = eLg E t k := fun t k => by obtain ⟨⟨v, rfl⟩, -⟩ := hF; rfl
        have hadr : eAd E' (7, r, 0) = ar := by rw [had]; exact har
        have etl : tlD D s l = bt (D 10 z) s := by unfold tlD; rw [ez, nI_clamp (by omega)]
        have evl : vlD D s l = D 11 (12 * z + s) := by unfold vlD; rw [ez, nI_clamp (by omega)]
        have go : ∀ E2 I2 o2, FrO q E I E2 I2 → OcIs E2 I2 q o2 → o2.1.length ≤ pre.length + 1 → (psD D s ((l :: suf).filter (fun l => decide (some l ≠ wo) && H l))).foldl (ost law) o = (psD D s (suf.filter (fun l => decide (some l ≠ wo) && H l))).foldl (ost law) o2 → Wp (f_X7_read_81 (f_X7_read_13 (some a) (some ar) (nI s) law (nI b) (wo.map (fun l => eAd E (16, l, 0))) fu) (some a) (some ar) (nI s) law (nI b) (wo.map (fun l => eAd E (16, l, 0))) (nI pre.length)) (E2, D, I2) Q := fun E2 I2 o2 q1 q2 q3 q4 => by
          rw [q4] at kk
          unfold f_X7_read_81
          rw [nI_1, show pre.length + 1 = (pre ++ [l]).length by rw [List.length_append, List.length_singleton]]
          exact ih (pre ++ [l]) fu E2 I2 o2 (by rw [List.append_assoc]; exact hp) (by omega) q1 q2 (by rw [List.length_append, List.length_singleton]; exact q3) kk
        rw [f_X7_read_13]
        refine wc_call hadr hS'.1 (c_rsize hS' h9' hadr ?_)
        refine wp_neg (fun e => by have := (nI_leI (by omega) (by omega)).mp e; omega) ?_
        refine wc_call hadr hS'.1 (c_linkAt hS' h9' hadr hR100 hget hLk.1 ?_)
        refine wp_neg (by simp) ?_
        by_cases hw : wo = some l
        · refine wp_pos (by rw [hw, had]; rfl) ?_
          refine go E' I' o hF hO (by omega) ?_
          rw [List.filter_cons_of_neg (by rw [hw]; simp)]
        · refine wp_inj (fun inj _ _ => wp_neg (fun e => hw ?_) ?_)
          · cases hwo2 : wo with
            | none => rw [hwo2] at e; simp at e
            | some l2 =>
              rw [hwo2] at e
              have e2 : eAd E' (16, l, 0) = eAd E' (16, l2, 0) := by rw [had (16, l2, 0)]; exact Option.some.inj e
              have := inj (16, l, 0) (16, l2, 0) (by show eKd E' _ ≠ 0; rw [hLk.1]; omega) (by show eKd E' _ ≠ 0; rw [(hA'.2.2.2 l2 (hwo l2 hwo2)).1]; omega) e2
              have : l = l2 := congrArg (fun t : Tg => t.2.1) this
              rw [this]
          · refine wc_call hadr hS'.1 (c_holds hS' hadr (by omega) hb ?_)
            rw [hlg, hH _ _ hget]
            cases hh : H l with
            | false =>
              refine wp_pos rfl (go E' I' o hF hO (by omega) ?_)
              rw [List.filter_cons_of_neg (by rw [hh]; simp)]
            | true =>
              have hpos : (decide (some l ≠ wo) && H l) = true := by
                rw [hh, Bool.and_true]
                exact decide_eq_true (fun h => hw h.symm)
              refine wp_neg (by decide) ?_
              refine wc_R rfl hLk.1 hLk.2.2.2.1 rfl ?_
              rw [ez, nI_clamp (by omega)]
              refine wc_call rfl hSz.1 (c_tells hSz rfl hs ?_)
              cases ht : bt (D 10 z) s with
              | false =>
                refine wp_pos rfl (go E' I' o hF hO (by omega) ?_)
                rw [List.filter_cons_of_pos (p := fun l => decide (some l ≠ wo) && H l) hpos]
                unfold psD
                rw [List.filter_cons_of_neg (by rw [etl, ht]; decide)]
              | true =>
                refine wp_neg (by decide) ?_
                refine wc_R rfl hLk.1 hLk.2.2.2.1 rfl ?_
                rw [ez, nI_clamp (by omega)]
                refine wc_call rfl hSz.1 (c_valueOf hSz rfl hs ?_)
                refine wc_call (by rw [had]; exact ha) hOS'.1 (c_take (l := l) hOS' hO (by rw [had]; exact ha) rfl hLk.1 hlaw (by omega) (fun E2 I2 r1 r2 => ?_))
                have hol := ost_len law o (D 11 (12 * z + s), l)
                refine go E2 I2 _ (hF.tr r1) r2 (by omega) ?_
                rw [List.filter_cons_of_pos (p := fun l => decide (some l ≠ wo) && H l) hpos]
                unfold psD
                rw [List.filter_cons_of_pos (by rw [etl, ht]), List.map_cons, List.foldl_cons, evl]
  refine key R [] fuL _ _ ([], none) rfl (fu_ok (by omega)) (FrO.us.tr FrO.eR) ⟨us_eq, fun i v h => (by cases h), eR_eq, Nat.zero_le _⟩ (Nat.le_refl _) kk
end CF
