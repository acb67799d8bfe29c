/-! ===== the class: is it sure ===== -/
theorem wf_mem {ng nn : Nat} : ∀ (cs : List Int32) (n n' : Nat), wfC ng nn cs n n' → ∀ c ∈ cs, (c = 0 ∨ c = 1 ∨ c = 2) ∨ ∃ v, (c = nI (100 + v) ∧ v < ng ∨ c = nI (200 + v) ∧ v < 8 ∨ c = nI (300 + v) ∧ v < nn) := by
  intro cs
  induction cs with
  | nil => intro n n' _ c hc; cases hc
  | cons d cs ih =>
    intro n n' h c hc
    rcases List.mem_cons.mp hc with rfl | hc
    · rcases h with ⟨e, -, -⟩ | ⟨e, -, -⟩ | ⟨e, -, -⟩
      · rcases e with e | e
        · exact .inl (.inl e)
        · exact .inl (.inr (.inl e))
      · exact .inl (.inr (.inr e))
      · exact .inr e
    · rcases h with ⟨-, -, h⟩ | ⟨-, -, h⟩ | ⟨-, -, h⟩
      · exact ih _ _ h c hc
      · exact ih _ _ h c hc
      · exact ih _ _ h c hc
theorem ev_cg {a a' : Int32 → Bool} : ∀ (cs : List Int32) (st : List Bool), (∀ c ∈ cs, a c = a' c) → evC a cs st = evC a' cs st := by
  intro cs
  induction cs with
  | nil => intro _ _; rfl
  | cons c cs ih =>
    intro st h
    have e : evS a c st = evS a' c st := by
      unfold evS
      rw [h c List.mem_cons_self]
    rw [evC, evC, e]
    exact ih _ (fun d hd => h d (List.mem_cons_of_mem _ hd))
theorem hld_cg {mem : Nat → Bool} {y y' : Int32} {w : List Nat} {cs : List Int32} {ng nn n n' : Nat} (hng : ng ≤ 20) (hnn : nn ≤ 60) (hwf : wfC ng nn cs n n') (h : ∀ f, f < 8 → nI (200 + f) ∈ cs → bt y f = bt y' f) : hld mem y w cs = hld mem y' w cs := by
  unfold hld
  rw [ev_cg (a' := atmV mem y' w) cs [] (fun c hc => ?_)]
  rcases wf_mem cs n n' hwf c hc with (rfl | rfl | rfl) | ⟨v, (⟨rfl, hv⟩ | ⟨rfl, hv⟩ | ⟨rfl, hv⟩)⟩
  · rfl
  · rfl
  · rfl
  · rw [atm_g (by omega), atm_g (by omega)]
  · rw [atm_f (by omega), atm_f (by omega)]
    exact h v hv hc
  · rw [atm_n (by omega), atm_n (by omega)]
/-- a fact that a row's filters mention -/
def mtB (D : Nat → Nat → Int32) (R : List Nat) (f : Nat) : Bool := R.any (fun l => decide (nI (200 + f) ∈ cdl (D 21) (D 29) (D 30) l))
section CJ
variable {E E' : Es} {D : Nat → Nat → Int32} {I I' : Tg → Nat → Int32} {Z : Nat → Nat} {r q nn nm ng ns nl nc ax ao cap m s : Nat}
theorem c_ment {Q : Int32 → Gh → Prop} {l n n' a : Nat} {all : List Int32} (ha : eAd E (17, l, 0) = a) (h17 : eKd E (17, l, 0) = 104) (hr17 : eRf E (17, l, 0) 0 = some (17, l, 1)) (hk17 : eKd E (17, l, 1) = 2) (hl17 : eLn E (17, l, 1) = all.length) (hi17 : ∀ i c, all[i]? = some c → I (17, l, 1) i = cvS c) (hng : ng ≤ 20) (hnn : nn ≤ 60) (hall : all.length ≤ 20000) (hwf : wfC ng nn all n n') (kk : ∀ x, (∀ f, f < 32 → bt x f = (decide (f < 8) && decide (nI (200 + f) ∈ all))) → Q x (E, D, I)) : Wp (f_X1_mentionedFacts (some a)) (E, D, I) Q := by
  have dv : ∀ u, u < 2 ^ 31 → nI u / (256 : Int32) = nI (u / 256) := fun u hu => pk_div (d := 256) hu (by omega) (by omega)
  have rm : ∀ u, u < 2 ^ 31 → nI u - nI u / (256 : Int32) * (256 : Int32) = nI (u % 256) := fun u hu => pk_rem (d := 256) hu (by omega) (by omega)
  have key : ∀ (cs pre : List Int32) (fu : Nat) (x : Int32), pre ++ cs = all → cs.length < fu → (∀ f, f < 32 → bt x f = (decide (f < 8) && decide (nI (200 + f) ∈ pre))) → Wp (f_X1_mentionedFacts_4 (some a) fu x (nI pre.length)) (E, D, I) Q := by
    intro cs
    induction cs with
    | nil =>
      intro pre fu x hp hf hx
      cases fu with
      | zero => exact absurd hf (Nat.not_lt_zero _)
      | succ fu =>
        rw [List.append_nil] at hp
        subst hp
        rw [f_X1_mentionedFacts_4]
        refine wc_R ha h17 hr17 rfl ?_
        refine wc_aN rfl hk17 (by omega) ?_
        rw [hl17]
        exact wp_pos ((nI_leI (by omega) (by omega)).mpr (Nat.le_refl _)) (wp_mp (kk x hx))
    | cons c cs ih =>
      intro pre fu x hp hf hx
      cases fu with
      | zero => exact absurd hf (Nat.not_lt_zero _)
      | succ fu =>
        rw [List.length_cons] at hf
        have hal : all.length = pre.length + (cs.length + 1) := by rw [← hp, List.length_append, List.length_cons]
        have hget : all[pre.length]? = some c := by rw [← hp, List.getElem?_append_right (Nat.le_refl _), Nat.sub_self]; rfl
        rw [f_X1_mentionedFacts_4]
        unfold f_X1_mentionedFacts_42
        refine wc_R ha h17 hr17 rfl ?_
        refine wc_aN rfl hk17 (by omega) ?_
        rw [hl17]
        refine wp_neg (fun e => by have := (nI_leI (by omega) (by omega)).mp e; omega) ?_
        refine wc_R ha h17 hr17 rfl ?_
        refine wc_a (t := (17, l, 1)) pre.length rfl rfl hk17 (.inr (.inl rfl)) rfl (by omega) (by rw [hl17]; omega) ?_
        rw [hi17 _ _ hget]
        have other : ∀ k, k < 2 ^ 31 → cvS c = nI k → k / 256 ≠ 1 → (∀ f, f < 8 → nI (200 + f) ≠ c) → Wp (if cvS c / (256 : Int32) = (1 : Int32) then mb (gR 4 0 (some a)) (fun v30 => mb (aI 1 v30 (nI pre.length)) (fun v34 => f_X1_mentionedFacts_4 (some a) fu (x ||| ((1 : Int32) <<< ((v34 - v34 / (256 : Int32) * (256 : Int32)) &&& 31))) (nI pre.length + 1))) else f_X1_mentionedFacts_4 (some a) fu x (nI pre.length + 1)) (E, D, I) Q := fun k hk e hk1 hnf => by
          rw [e, dv k hk]
          refine wp_neg (fun q => hk1 ((nI_eq (b := 1) (by omega) (by omega)).mp q)) ?_
          rw [nI_1, show pre.length + 1 = (pre ++ [c]).length by rw [List.length_append, List.length_singleton]]
          refine ih (pre ++ [c]) fu x (by rw [List.append_assoc]; exact hp) (by omega) (fun f hf2 => ?_)
          rw [hx f hf2]
          by_cases h8 : f < 8
          · have : (nI (200 + f) ∈ pre ++ [c]) ↔ (nI (200 + f) ∈ pre) := by
              rw [List.mem_append, List.mem_singleton]
              exact ⟨fun q => q.elim id (fun q => absurd q (hnf f h8)), .inl⟩
            simp only [this]
          · rw [decide_eq_false h8]; rfl
        have hf200 : ∀ f, f < 8 → ∀ c : Nat, c < 2 ^ 31 → nI (200 + f) = nI c → 200 + f = c := fun f hf c hc q => (nI_eq (by omega) hc).mp q
        rcases wf_mem all n n' hwf c (List.mem_of_getElem? hget) with (rfl | rfl | rfl) | ⟨v, (⟨rfl, hv⟩ | ⟨rfl, hv⟩ | ⟨rfl, hv⟩)⟩
        · exact other 1024 (by omega) cv_and (by omega) (fun f hf q => by have := hf200 f hf 0 (by omega) q; omega)
        · exact other 1280 (by omega) cv_or (by omega) (fun f hf q => by have := hf200 f hf 1 (by omega) q; omega)
        · exact other 768 (by omega) cv_not (by omega) (fun f hf q => by have := hf200 f hf 2 (by omega) q; omega)
        · exact other v (by omega) (cv_g v (by omega)) (by omega) (fun f hf q => by have := hf200 f hf (100 + v) (by omega) q; omega)
        · rw [cv_f v (by omega), dv _ (by omega), show (256 + v) / 256 = 1 by omega]
          refine wp_pos rfl ?_
          refine wc_R ha h17 hr17 rfl ?_
          refine wc_a (t := (17, l, 1)) pre.length rfl rfl hk17 (.inr (.inl rfl)) rfl (by omega) (by rw [hl17]; omega) ?_
          rw [hi17 _ _ hget, cv_f v (by omega), rm _ (by omega), show (256 + v) % 256 = v by omega, nI_1, show pre.length + 1 = (pre ++ [nI (200 + v)]).length by rw [List.length_append, List.length_singleton]]
          refine ih (pre ++ [nI (200 + v)]) fu _ (by rw [List.append_assoc]; exact hp) (by omega) (fun f hf2 => ?_)
          rw [b_or, bt_sh (by omega) hf2, hx f hf2]
          by_cases e : f = v
          · subst e
            rw [decide_eq_true (p := f = f) rfl, decide_eq_true (p := nI (200 + f) ∈ pre ++ [nI (200 + f)]) (List.mem_append_right _ List.mem_cons_self), decide_eq_true hv, Bool.or_true]
            rfl
          · rw [decide_eq_false e, Bool.or_false]
            by_cases h8 : f < 8
            · have : (nI (200 + f) ∈ pre ++ [nI (200 + v)]) ↔ (nI (200 + f) ∈ pre) := by
                rw [List.mem_append, List.mem_singleton]
                exact ⟨fun q => q.elim id (fun q => by have := hf200 f h8 (200 + v) (by omega) q; omega), .inl⟩
              simp only [this]
            · rw [decide_eq_false h8]; rfl
        · exact other (512 + v) (by omega) (cv_n v (by omega)) (by omega) (fun f hf q => by have := hf200 f hf (300 + v) (by omega) q; omega)
  unfold f_X1_mentionedFacts
  exact key all [] fuL 0 rfl (fu_ok (by omega)) (fun f hf => by rw [b_0, decide_eq_false (p := nI (200 + f) ∈ []) (by simp), Bool.and_false])
/-- the facts in doubt -/
theorem c_doubt {Q : Int32 → Gh → Prop} {st : Int32} {w : List Nat} {ad : Nat} (hr : r < 2) (hc : Cst E I D Z ax ao cap nn nm ng ns nl nc) (ha : eAd E (7, r, 0) = ad) (hL : RowL E I D nl r st m w) (hR : ∀ l ∈ rowT D nl st w, l < nl) (hR100 : (rowT D nl st w).length ≤ 100) (kk : ∀ x, (∀ f, f < 32 → bt x f = (decide (f < 8 ∧ D 5 (8 * m + f) = -1) && mtB D (rowT D nl st w) f)) → Q x (E, D, I)) : Wp (f_X8_doubtedFacts (some ad)) (E, D, I) Q := by
  obtain ⟨hT, hDat, hC, hDI⟩ := id hc
  have hr0 := hT.2.2.2.1 r hr
  have h5 := hDI.2.2.2.2.1
  obtain ⟨-, ⟨c9, k9, h9⟩, s1, s2, s3, s4⟩ := hL
  have key : ∀ (suf pre : List Nat) (fu : Nat) (x : Int32), pre ++ suf = rowT D nl st w → suf.length < fu → (∀ f, f < 32 → bt x f = (decide (f < 8) && mtB D pre f)) → Wp (f_X8_doubtedFacts_4 (some ad) fu x (nI pre.length)) (E, D, I) Q := by
    intro suf
    induction suf with
    | nil =>
      intro pre fu x hp hf hx
      cases fu with
      | zero => exact absurd hf (Nat.not_lt_zero _)
      | succ fu =>
        rw [List.append_nil] at hp
        rw [f_X8_doubtedFacts_4]
        refine wc_R ha hr0.1 hr0.2.2.1 rfl ?_
        refine wc_call rfl h9.1 (l_size h9 rfl rfl ?_)
        rw [List.length_map, ← hp]
        rw [← hp] at hR100
        refine wp_pos ((nI_leI (by omega) (by omega)).mpr (Nat.le_refl _)) ?_
        refine wc_R ha hr0.1 hr0.2.2.2.2.1 rfl ?_
        refine wc_call rfl hr0.2.2.2.2.2.2.2.1 ?_
        unfold f_X9_knownFacts
        refine wc_I (t := (10, r, 0)) rfl rfl hr0.2.2.2.2.2.2.2.1 rfl (wp_mp (wp_mp (kk _ (fun f hf2 => ?_))))
        rw [b_and, bt_no _ hf2, s1 f hf2, hx f hf2, ← hp]
        by_cases h8 : f < 8
        · by_cases h1 : D 5 (8 * m + f) = -1
          · simp [h8, h1]
          · simp [h8, h1]
        · simp [h8]
    | cons l suf ih =>
      intro pre fu x hp hf hx
      cases fu with
      | zero => exact absurd hf (Nat.not_lt_zero _)
      | succ fu =>
        rw [List.length_cons] at hf
        have hRl : (rowT D nl st w).length = pre.length + (suf.length + 1) := by rw [← hp, List.length_append, List.length_cons]
        have hget : (rowT D nl st w)[pre.length]? = some l := by rw [← hp, List.getElem?_append_right (Nat.le_refl _), Nat.sub_self]; rfl
        have hl := hR l (List.mem_of_getElem? hget)
        obtain ⟨q1, q2, q3, q4, q5, q6, q7, q8, q9, q10, q11, q12, q13⟩ := hDat.2.2.2.2.1.2.1 l hl
        obtain ⟨-, -, -, -, -, fr, to, n', e1, e2, e3, e4, e5, e6⟩ := h5.2.2.2.1 l hl
        have hnc := h5.2.2.1.2.1
        have hnl := h5.1
        obtain ⟨d1, d2⟩ := cdl_get (cd := D 21) e1 e2 (by omega) (by omega)
        rw [f_X8_doubtedFacts_4]
        refine wc_R ha hr0.1 hr0.2.2.1 rfl ?_
        refine wc_call rfl h9.1 (l_size h9 rfl rfl ?_)
        rw [List.length_map]
        refine wp_neg (fun e => by have := (nI_leI (by omega) (by omega)).mp e; omega) ?_
        refine wc_R ha hr0.1 hr0.2.2.1 rfl ?_
        refine wc_call rfl h9.1 (l_get h9 rfl rfl (t := tgL l) (by rw [List.getElem?_map, hget]; rfl) ?_)
        refine wc_ck rfl q1 ?_
        refine wc_R rfl q1 q8 rfl ?_
        refine wc_call rfl q9 (c_ment rfl q9 q10 q11 q12 q13 hDI.2.2.1.1 hDI.1.1.2 (by omega) e6 (fun y hy => ?_))
        rw [nI_1, show pre.length + 1 = (pre ++ [l]).length by rw [List.length_append, List.length_singleton]]
        refine ih (pre ++ [l]) fu _ (by rw [List.append_assoc]; exact hp) (by omega) (fun f hf2 => ?_)
        rw [b_or, hx f hf2, hy f hf2]
        unfold mtB
        rw [List.any_append, List.any_cons, List.any_nil, Bool.or_false]
        cases decide (f < 8) <;> simp
  unfold f_X8_doubtedFacts
  refine key (rowT D nl st w) [] fuL 0 rfl (fu_ok (by omega)) (fun f hf => by rw [b_0]; unfold mtB; rw [List.any_nil, Bool.and_false])
/-- a guess of facts in doubt -/
def subG (D : Nat → Nat → Int32) (m : Nat) (R : List Nat) (u : Nat) : Prop := ∀ f, f < 8 → u.testBit f = true → D 5 (8 * m + f) = -1 ∧ mtB D R f = true
def samG (D : Nat → Nat → Int32) (nl s m u : Nat) : Prop := (ocD D nl s m (yG D m u) (-1)).1 = (ocD D nl s m (yesO (D 5) m 8) (-1)).1
theorem bits8 (p : Nat → Bool) : ∀ n, ∃ d, d < 2 ^ n ∧ ∀ f, d.testBit f = (decide (f < n) && p f) := by
  intro n
  induction n with
  | zero => exact ⟨0, by omega, fun f => by rw [Nat.zero_testBit, decide_eq_false (by omega)]; rfl⟩
  | succ n ih =>
    obtain ⟨d, hd, h⟩ := ih
    refine ⟨d ||| (if p n then 2 ^ n else 0), ?_, fun f => ?_⟩
    · refine Nat.or_lt_two_pow (Nat.lt_of_lt_of_le hd (Nat.pow_le_pow_right (by omega) (by omega))) ?_
      split
      · exact Nat.pow_lt_pow_right (by omega) (by omega)
      · exact Nat.two_pow_pos _
    · rw [Nat.testBit_or, h f]
      by_cases e : f = n
      · subst e
        cases hp : p f with
        | true => rw [if_pos rfl, Nat.testBit_two_pow_self, Bool.or_true, decide_eq_true (by omega)]; rfl
        | false => rw [if_neg (by decide), Nat.zero_testBit, Bool.and_false, Bool.and_false]; rfl
      · have : (if p n then 2 ^ n else 0).testBit f = false := by
          split
          · rw [Nat.testBit_two_pow_of_ne (fun q => e q.symm)]
          · exact Nat.zero_testBit f
        rw [this, Bool.or_false]
        have : (f < n) ↔ (f < n + 1) := by omega
        simp only [this]
theorem un_sub {u : Nat} (hu : u < 256) (h : ∀ f, f < 8 → u.testBit f = true → D 5 (8 * m + f) = -1) : u &&& unN (D 5) m 8 = u := by
  refine Nat.eq_of_testBit_eq (fun f => ?_)
  rw [Nat.testBit_and, unN_bt]
  cases hb : u.testBit f with
  | false => rfl
  | true =>
    have h8 : f < 8 := Nat.lt_of_not_le (fun q => by
      have : u < 2 ^ f := Nat.lt_of_lt_of_le (show u < 2 ^ 8 from hu) (Nat.pow_le_pow_right (by omega) q)
      rw [Nat.testBit_lt_two_pow this] at hb
      cases hb)
    rw [decide_eq_true ⟨h8, h f h8 hb⟩]
    rfl
/-- facts that no filter mentions don't matter -/
theorem ocD_mt (hDI : DI cap D nn nm ng ns nl nc) {u u' : Nat} {w : List Nat} (hw : wy (D 1) 61 (D 4 m) = w) (h : ∀ f, f < 8 → D 5 (8 * m + f) = -1 → mtB D ((rowD D nl w).filter (tlD D s)) f = true → u.testBit f = u'.testBit f) : ocD D nl s m (yG D m u) (-1) = ocD D nl s m (yG D m u') (-1) := by
  have h5 := hDI.2.2.2.2.1
  unfold ocD psD
  rw [hw]
  congr 2
  rw [rowK_eq, rowK_eq, List.filter_filter, List.filter_filter]
  refine List.filter_congr (fun l hl => ?_)
  cases ht : tlD D s l with
  | false => rfl
  | true =>
    rw [Bool.true_and, Bool.true_and]
    unfold kpB
    congr 1
    have hll := row_lt (srt_lt h5.1 h5.2.2.2.2.2.1) l hl
    obtain ⟨-, -, -, -, -, fr, to, n', e1, e2, e3, e4, e5, e6⟩ := h5.2.2.2.1 l hll
    refine hld_cg hDI.2.2.1.1 hDI.1.1.2 e6 (fun f hf hm => ?_)
    unfold yG
    rw [b_or, b_or, nI_bt _ (by omega), nI_bt _ (by omega), Nat.testBit_and, Nat.testBit_and, unN_bt]
    by_cases h1 : D 5 (8 * m + f) = -1
    · rw [h f hf h1 (by
        unfold mtB
        rw [List.any_eq_true]
        exact ⟨l, List.mem_filter.mpr ⟨hl, ht⟩, decide_eq_true hm⟩)]
    · rw [decide_eq_false (fun q => h1 q.2), Bool.and_false, Bool.and_false]
theorem sure_iff (hDI : DI cap D nn nm ng ns nl nc) {w R : List Nat} (hw : wy (D 1) 61 (D 4 m) = w) (hR : R = (rowD D nl w).filter (tlD D s)) : (∀ u, u < 256 → subG D m R u → samG D nl s m u) ↔ SureP D nl s m := by
  subst hR
  constructor
  · intro h u hu
    obtain ⟨d, hd, hb⟩ := bits8 (fun f => u.testBit f && mtB D ((rowD D nl w).filter (tlD D s)) f) 8
    have hub : ∀ f, u.testBit f = true → f < 8 ∧ D 5 (8 * m + f) = -1 := fun f hf => by
      rw [← hu, Nat.testBit_and, unN_bt, Bool.and_eq_true] at hf
      exact of_decide_eq_true hf.2
    have h1 := h d (by omega) (fun f hf hdf => by
      rw [hb, Bool.and_eq_true, Bool.and_eq_true] at hdf
      exact ⟨(hub f hdf.2.1).2, hdf.2.2⟩)
    unfold samG at h1
    rw [ocD_mt hDI (u' := u) hw (fun f hf _ hm => by rw [hb, hm, decide_eq_true hf, Bool.true_and, Bool.and_true])] at h1
    unfold yG at h1
    rw [hu] at h1
    exact h1
  · intro h u hu hs
    have e := un_sub (D := D) (m := m) hu (fun f hf hb => (hs f hf hb).1)
    have := h u e
    unfold samG yG
    rw [e]
    exact this
end CJ
