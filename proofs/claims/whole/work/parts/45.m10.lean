/-! ===== the model: sure ===== -/
/-- the subsets of k, one after the other down -/
theorem sub_dn : ∀ (k set u : Nat), set &&& k = set → u &&& k = u → u < set → u ≤ (set - 1) &&& k := by
  have h2 : ∀ a b : Nat, (a &&& b) / 2 = a / 2 &&& b / 2 := fun a b => Nat.and_div_two
  have hm : ∀ a b : Nat, (a &&& b) % 2 = (a % 2) &&& (b % 2) := fun a b => by
    have := @Nat.and_mod_two_pow a b 1
    simpa using this
  intro k
  induction k using Nat.strongRecOn with
  | ind k ih =>
    intro set u hs hu hlt
    by_cases hk : k = 0
    · subst hk
      rw [Nat.and_zero] at hs
      omega
    · have hs2 : set / 2 &&& k / 2 = set / 2 := by rw [← h2, hs]
      have hu2 : u / 2 &&& k / 2 = u / 2 := by rw [← h2, hu]
      have hsm : set % 2 &&& k % 2 = set % 2 := by rw [← hm, hs]
      have hum : u % 2 &&& k % 2 = u % 2 := by rw [← hm, hu]
      have q2 := h2 (set - 1) k
      have qm := hm (set - 1) k
      rcases Nat.mod_two_eq_zero_or_one set with e | e
      · have e1 : (set - 1) / 2 = set / 2 - 1 := by omega
        have e2 : (set - 1) % 2 = 1 := by omega
        rw [e1] at q2
        rw [e2] at qm
        have hk1 : 1 &&& k % 2 = k % 2 := by rcases Nat.mod_two_eq_zero_or_one k with c | c <;> rw [c] <;> rfl
        rw [hk1] at qm
        by_cases hl : u / 2 < set / 2
        · have := ih (k / 2) (by omega) (set / 2) (u / 2) hs2 hu2 hl
          have hle : u % 2 ≤ k % 2 := by
            rw [← hum]
            rcases Nat.mod_two_eq_zero_or_one k with c | c <;> rcases Nat.mod_two_eq_zero_or_one u with d | d <;> rw [c, d] <;> decide
          omega
        · omega
      · have e1 : (set - 1) / 2 = set / 2 := by omega
        have e2 : (set - 1) % 2 = 0 := by omega
        rw [e1, hs2] at q2
        rw [e2] at qm
        have : (0 : Nat) &&& k % 2 = 0 := Nat.zero_and _
        rw [this] at qm
        omega
theorem and_idem (k set : Nat) : (set &&& k) &&& k = set &&& k := by rw [Nat.and_assoc, Nat.and_self]
theorem and_lt {set k : Nat} (h : 0 < set) : (set - 1) &&& k < set := Nat.lt_of_le_of_lt Nat.and_le_left (by omega)
/-- what isn't known, as a number -/
def unN (fa : Nat → Int32) (m : Nat) : Nat → Nat
  | 0 => 0
  | f + 1 => unN fa m f ||| (if fa (8 * m + f) = -1 then 1 <<< f else 0)
theorem unN_lt (fa : Nat → Int32) (m : Nat) : ∀ f, unN fa m f < 2 ^ f := by
  intro f
  induction f with
  | zero => exact Nat.lt_succ_self _
  | succ f ih =>
    rw [unN]
    refine Nat.or_lt_two_pow (Nat.lt_of_lt_of_le ih (Nat.pow_le_pow_right (by omega) (by omega))) ?_
    split
    · rw [Nat.one_shiftLeft]; exact Nat.pow_lt_pow_right (by omega) (by omega)
    · exact Nat.pos_of_ne_zero (by exact Nat.ne_of_gt (Nat.two_pow_pos _))
theorem sh_nI : ∀ f, f < 8 → (1 : Int32) <<< (nI f &&& 31) = nI (1 <<< f) := by decide
theorem or_nI (a b : Nat) : nI a ||| nI b = nI (a ||| b) := by
  refine Int32.toBitVec_inj.mp ?_
  rw [Int32.toBitVec_or]
  show BitVec.ofNat 32 a ||| BitVec.ofNat 32 b = BitVec.ofNat 32 (a ||| b)
  exact BitVec.ofNat_or.symm
theorem unk_nI (fa : Nat → Int32) (m : Nat) : ∀ f, f ≤ 8 → unkO fa m f = nI (unN fa m f) := by
  intro f
  induction f with
  | zero => intro _; rfl
  | succ f ih =>
    intro hf
    rw [unkO, unN, ih (by omega), ← or_nI]
    congr 1
    split
    · rw [sh_nI f (by omega)]
    · rfl
/-- the outcome stands whatever isn't known -/
def SureP (D : Nat → Nat → Int32) (nl s m : Nat) : Prop := ∀ u, u &&& unN (D 5) m 8 = u → (ocD D nl s m (yesO (D 5) m 8 ||| nI u) (-1)).1 = (ocD D nl s m (yesO (D 5) m 8) (-1)).1
section MJ
variable {E : Es} {D : Nat → Nat → Int32} {I : Tg → Nat → Int32} {am : Nat} {nn nm ng ns nl nc s m : Nat} {Q : Int32 → Gh → Prop}
theorem m_sure_70 (hM : ModS E am) (hD : DI (eCu E) D nn nm ng ns nl nc) (hm : m < nm) (hs : s < 12) (kt : SureP D nl s m → ∀ D', FrL frA frK D D' → D' 0 0 = 0 → Q 1 (E, D', I)) (kf : ¬ SureP D nl s m → ∀ D', FrL frA frK D D' → D' 0 0 = 0 → Q 0 (E, D', I)) : ∀ (d set fu : Nat) (D' : Nat → Nat → Int32), set ≤ d → d < fu → set &&& unN (D 5) m 8 = set → set < 256 → (∀ u, u &&& unN (D 5) m 8 = u → set < u → (ocD D nl s m (yesO (D 5) m 8 ||| nI u) (-1)).1 = (ocD D nl s m (yesO (D 5) m 8) (-1)).1) → FrL frA frK D D' → D' 0 0 = 0 → (∀ g, g < ng → Cl (D 8) ng g (D' 33 g)) → KepIs D' (ocD D nl s m (yesO (D 5) m 8) (-1)).1 → Wp (f_X12_sure_70 (some am) (nI m) (nI s) (nI (unN (D 5) m 8)) (yesO (D 5) m 8) fu (nI set)) (E, D', I) Q := by
  intro d
  induction d with
  | zero =>
    intro set fu D' hsd hf hsub h256 hall hF h00 hc hK
    cases fu with
    | zero => exact absurd hf (Nat.not_lt_zero _)
    | succ fu =>
      have e0 : set = 0 := by omega
      subst e0
      rw [f_X12_sure_70]
      refine wp_pos (by decide) (wp_rz (.inr rfl) (kt (fun u hu => ?_) D' hF h00))
      by_cases h0 : u = 0
      · subst h0
        rw [show yesO (D 5) m 8 ||| nI 0 = yesO (D 5) m 8 from Int32.or_zero]
      · exact hall u hu (by omega)
  | succ d ih =>
    intro set fu D' hsd hf hsub h256 hall hF h00 hc hK
    cases fu with
    | zero => exact absurd hf (Nat.not_lt_zero _)
    | succ fu =>
      rw [f_X12_sure_70]
      by_cases e0 : set = 0
      · subst e0
        refine wp_pos (by decide) (wp_rz (.inr rfl) (kt (fun u hu => ?_) D' hF h00))
        by_cases h0 : u = 0
        · subst h0
          rw [show yesO (D 5) m 8 ||| nI 0 = yesO (D 5) m 8 from Int32.or_zero]
        · exact hall u hu (by omega)
      · refine wp_neg (nI_nle (by omega) (by omega)) ?_
        refine m_made hM hD hm hs hF hc (fun D2 q1 q2 q3 => ?_)
        have hF2 : FrL frA frK D D2 := (hF.tr q1).wk (by decide) (by decide)
        have h002 : D2 0 0 = 0 := by rw [q1.2 0 (by decide), h00]
        have hK2 : KepIs D2 (ocD D nl s m (yesO (D 5) m 8) (-1)).1 := by
          unfold KepIs
          rw [q1.2 41 (by decide), q1.1 40 (by decide) (by decide)]
          exact hK
        have hc2 : ∀ g, g < ng → Cl (D 8) ng g (D2 33 g) := fun g hg => by
          rw [q1.1 33 (by decide) (by decide)]
          exact hc g hg
        refine wm_call hM (m_isAsKept hM q3 hK2 (ocD_len hD hm) (ocD_len hD hm) ?_)
        by_cases e : (ocD D nl s m (yesO (D 5) m 8) (-1)).1 = (ocD D nl s m (yesO (D 5) m 8 ||| nI set) (-1)).1
        · rw [decide_eq_true e]
          refine wp_neg (by decide) ?_
          obtain ⟨t, rfl⟩ : ∃ t, set = t + 1 := ⟨set - 1, by omega⟩
          rw [nI_pred, nx_and]
          have hlt := and_lt (set := t + 1) (k := unN (D 5) m 8) (by omega)
          rw [Nat.add_sub_cancel] at hlt
          refine ih (t &&& unN (D 5) m 8) fu D2 (by omega) (by omega) (and_idem _ _) (by omega) (fun u hu hlu => ?_) hF2 h002 hc2 hK2
          by_cases h1 : t + 1 < u
          · exact hall u hu h1
          · by_cases h2 : u = t + 1
            · subst h2
              exact e.symm
            · have := sub_dn (unN (D 5) m 8) (t + 1) u hsub hu (by omega)
              rw [Nat.add_sub_cancel] at this
              omega
        · rw [decide_eq_false e]
          exact wp_pos rfl (wp_rz (.inl rfl) (kf (fun h => e (h set hsub).symm) D2 hF2 h002))
theorem m_sure (hM : ModS E am) (hD : DI (eCu E) D nn nm ng ns nl nc) {x y : Int32} (k1 : (x < 0 ∨ ¬ x < nI nm) → ∀ r, Q r (E, ds D 0 0 1, I)) (k2 : ¬ x < 0 → x < nI nm → (y < 0 ∨ ¬ y < 12) → ∀ r, Q r (E, ds D 0 0 2, I)) (k3 : ∀ m s, m < nm → x = nI m → s < 12 → y = nI s → ∀ D', FrL frA frK D D' → D' 0 0 = 0 → (SureP D nl s m → Q 1 (E, D', I)) ∧ (¬ SureP D nl s m → Q 0 (E, D', I))) : Wp (f_X12_sure (some am) x y) (E, D, I) Q := by
  unfold f_X12_sure
  refine wm_call hM (m_isAsked hM hD (fun h => wp_pos rfl (wp_rz (.inl rfl) (k1 h 0))) (fun h1 h2 h => wp_pos rfl (wp_rz (.inl rfl) (k2 h1 h2 h 0))) (fun m s hm e1 hs e2 D' hF h0 hc hR hG => ?_))
  have k5 := k3 m s hm e1 hs e2
  have hm60 : m < 60 := by have := hD.2.1.1; omega
  subst e1
  subst e2
  refine wp_neg (by decide) ?_
  refine wm_call hM (m_keepsThem hM hG (ocD_len hD hm) (fun D2 q1 q2 => ?_))
  have hF2 : FrL frA frK D D2 := (hF.tr q1).wk (by decide) (by decide)
  have h002 : D2 0 0 = 0 := by rw [q1.2 0 (by decide), h0]
  have hc2 : ∀ g, g < ng → Cl (D 8) ng g (D2 33 g) := fun g hg => by
    rw [q1.1 33 (by decide) (by decide)]
    exact hc g hg
  have key : ∀ (d f fu : Nat), d + f = 8 → d < fu → Wp (f_X12_sure_20 (some am) (nI m) (nI s) fu (unkO (D 5) m f) (nI f)) (E, D2, I) Q := by
    intro d
    induction d with
    | zero =>
      intro f n hf hn
      cases n with
      | zero => exact absurd hn (Nat.not_lt_zero _)
      | succ n =>
        rw [f_X12_sure_20, show f = 8 by omega]
        refine wp_pos (by decide) ?_
        refine wm_call hM (m_yesOf hM hm60 ?_)
        rw [hF2.1 5 (by decide) (by decide), unk_nI _ _ 8 (by omega)]
        have hlt := unN_lt (D 5) m 8
        refine m_sure_70 hM hD hm hs (fun hp D3 r1 r2 => (k5 D3 r1 r2).1 hp) (fun hp D3 r1 r2 => (k5 D3 r1 r2).2 hp) 255 (unN (D 5) m 8) fuL D2 (by omega) (fu_ok (by omega)) (Nat.and_self _) (by omega) (fun u hu hlu => ?_) hF2 h002 hc2 q2
        have : u ≤ unN (D 5) m 8 := by rw [← hu]; exact Nat.and_le_right
        omega
    | succ d ih =>
      intro f n hf hn
      cases n with
      | zero => exact absurd hn (Nat.not_lt_zero _)
      | succ n =>
        rw [f_X12_sure_20]
        refine wp_neg (fun e => by have := (nI_leI (a := 8) (by omega) (by omega)).mp e; omega) ?_
        refine wm_R hM (by decide) (by decide) rfl ?_
        refine wm_a hM (8 * m + f) ?_ (by show 8 * m + f < 480; omega) rfl (by decide) (by decide) (by omega) ?_
        · rw [show (8 : Int32) = nI 8 from rfl, pk_mul, nI_add]
        · rw [hF2.1 5 (by decide) (by decide)]
          have e := ih (f + 1) n (by omega) (by omega)
          rw [unkO] at e
          refine wp_ite (fun c => ?_) (fun c => ?_)
          · rw [if_pos c] at e
            unfold f_X12_sure_52
            rw [nI_1]
            exact e
          · rw [if_neg c] at e
            unfold f_X12_sure_52
            rw [nI_1]
            exact e
  exact key 8 0 fuL (by omega) (fu_ok (by omega))
/-! the model: reach -/
noncomputable def rchB (D : Nat → Nat → Int32) (nl l m s : Nat) : Bool := decide ((D 24 l).toNatClampNeg ∈ wy (D 1) 61 (D 4 m)) && (tlD D s l && decide ((ocD D nl s m (yesO (D 5) m 8) (-1)).1 ≠ (ocD D nl s m (yesO (D 5) m 8) (nI l)).1))
noncomputable def rchL (D : Nat → Nat → Int32) (nl l m : Nat) (ss : List Nat) : List (Nat × Nat) := (ss.filter (rchB D nl l m)).map (fun s => (m, s))
noncomputable def rchM (D : Nat → Nat → Int32) (nl l : Nat) (ms : List Nat) : List (Nat × Nat) := ms.flatMap (fun m => rchL D nl l m (List.range' 0 12))
/-- the answer's form: early with the k-th pair, or late with how many -/
def Rdone (Q : Int32 → Gh → Prop) (E : Es) (D : Nat → Nat → Int32) (I : Tg → Nat → Int32) (k : Nat) (L : List (Nat × Nat)) : Prop := ∀ D', FrL frA frK D D' → D' 0 0 = 0 → (∀ p, L[k]? = some p → D' 0 42 = nI p.1 → D' 0 43 = nI p.2 → Q (nI (k + 1)) (E, D', I)) ∧ (L.length ≤ k → Q (nI L.length) (E, D', I))
theorem m_reaches_63 (hM : ModS E am) (hD : DI (eCu E) D nn nm ng ns nl nc) {l : Nat} (hl : l < nl) (hm : m < nm) {k : Nat} (hk : k ≤ 100000) (hw : (D 24 l).toNatClampNeg ∈ wy (D 1) 61 (D 4 m)) {k20 : Int32 → Int32 → Mo Int32} {L : List (Nat × Nat)} (hdone : Rdone Q E D I k L) (done : List (Nat × Nat)) {rest : List (Nat × Nat)} (hL : done ++ rchL D nl l m (List.range' 0 12) ++ rest = L) (hL720 : L.length ≤ 720) (kk : ∀ D' n, FrL frA frK D D' → D' 0 0 = 0 → (∀ g, g < ng → Cl (D 8) ng g (D' 33 g)) → n = (done ++ rchL D nl l m (List.range' 0 12)).length → n ≤ k → Wp (k20 (nI n) (nI (m + 1))) (E, D', I) Q) : ∀ (d s fu : Nat) (D' : Nat → Nat → Int32) (a : List Nat), d + s = 12 → d < fu → List.range' 0 12 = a ++ List.range' s d → (done ++ rchL D nl l m a).length ≤ k → FrL frA frK D D' → D' 0 0 = 0 → (∀ g, g < ng → Cl (D 8) ng g (D' 33 g)) → Wp (f_X12_reaches_63 k20 (some am) (nI l) (nI k) (nI m) (yesO (D 5) m 8) fu (nI (done ++ rchL D nl l m a).length) (nI s)) (E, D', I) Q := by
  have hl100 : l < 100 := by have := hD.2.2.2.2.1.1; omega
  obtain ⟨z, hz, ez⟩ := (hD.2.2.2.2.1.2.2.2.1 l hl).2.1
  have hz40 := hD.2.2.2.1.1
  have hm60 : m < 60 := by have := hD.2.1.1; omega
  intro d
  induction d with
  | zero =>
    intro s fu D' a hs hf ha hlen hF h00 hc
    cases fu with
    | zero => exact absurd hf (Nat.not_lt_zero _)
    | succ fu =>
      rw [f_X12_reaches_63, show s = 12 by omega]
      refine wp_pos (by decide) ?_
      unfold f_X12_reaches_162
      rw [show List.range' s 0 = [] from rfl, List.append_nil] at ha
      rw [nI_1]
      rw [← ha] at hlen ⊢
      exact kk D' _ hF h00 hc rfl hlen
  | succ d ih =>
    intro s fu D' a hs hf ha hlen hF h00 hc
    cases fu with
    | zero => exact absurd hf (Nat.not_lt_zero _)
    | succ fu =>
      have ha2 : List.range' 0 12 = (a ++ [s]) ++ List.range' (s + 1) d := by rw [ha, List.range'_succ, List.append_assoc]; rfl
      have e24 := hD.2.2.2.2.1.2.2.2.1 l hl
      have etl : tlD D s l = bt (D 10 z) s := by unfold tlD; rw [ez, nI_clamp (by omega)]
      have hLa : rchL D nl l m (a ++ [s]) = rchL D nl l m a ++ rchL D nl l m [s] := by unfold rchL; rw [List.filter_append, List.map_append]
      have skip : ∀ D2, rchB D nl l m s = false → FrL frA frK D D2 → D2 0 0 = 0 → (∀ g, g < ng → Cl (D 8) ng g (D2 33 g)) → Wp (f_X12_reaches_156 k20 (f_X12_reaches_63 k20 (some am) (nI l) (nI k) (nI m) (yesO (D 5) m 8) fu) (some am) (nI l) (nI k) (nI (done ++ rchL D nl l m a).length) (nI m) (yesO (D 5) m 8) (nI s)) (E, D2, I) Q := fun D2 hr q1 q2 q3 => by
        unfold f_X12_reaches_156
        have e : rchL D nl l m (a ++ [s]) = rchL D nl l m a := by
          rw [hLa]
          unfold rchL
          rw [List.filter_cons_of_neg (by rw [hr]; decide)]
          simp
        have := ih (s + 1) fu D2 (a ++ [s]) (by omega) (by omega) ha2 (by rw [e]; exact hlen) q1 q2 q3
        rw [e] at this
        rw [nI_1]
        exact this
      rw [f_X12_reaches_63]
      refine wp_neg (fun e => by have := (nI_leI (a := 12) (by omega) (by omega)).mp e; omega) ?_
      refine wm_R hM (by decide) (by decide) rfl ?_
      refine wm_a hM l rfl (by show l < 100; omega) rfl (by decide) (by decide) (by omega) ?_
      rw [hF.1 25 (by decide) (by decide), ez]
      refine wm_call hM (m_tells hM (by omega) (by omega) ?_)
      rw [hF.1 10 (by decide) (by decide)]
      cases hb : bt (D 10 z) s with
      | false =>
        refine wp_pos rfl (skip D' ?_ hF h00 hc)
        unfold rchB
        rw [etl, hb]
        simp
      | true =>
        refine wp_neg (by decide) ?_
        refine m_made hM hD hm (by omega) hF hc (fun D2 q1 q2 q3 => ?_)
        have hF2 : FrL frA frK D D2 := (hF.tr q1).wk (by decide) (by decide)
        refine wm_call hM (m_keepsThem hM q3 (ocD_len hD hm) (fun D3 r1 r2 => ?_))
        have hF3 : FrL frA frK D D3 := (hF2.tr r1).wk (by decide) (by decide)
        have hc3 : ∀ g, g < ng → Cl (D 8) ng g (D3 33 g) := fun g hg => by
          rw [r1.1 33 (by decide) (by decide), q1.1 33 (by decide) (by decide)]
          exact hc g hg
        refine m_made hM hD hm (by omega) hF3 hc3 (fun D4 t1 t2 t3 => ?_)
        have hF4 : FrL frA frK D D4 := (hF3.tr t1).wk (by decide) (by decide)
        have h004 : D4 0 0 = 0 := by rw [t1.2 0 (by decide), r1.2 0 (by decide), q1.2 0 (by decide), h00]
        have hc4 : ∀ g, g < ng → Cl (D 8) ng g (D4 33 g) := fun g hg => by
          rw [t1.1 33 (by decide) (by decide)]
          exact hc3 g hg
        have hK4 : KepIs D4 (ocD D nl s m (yesO (D 5) m 8) (-1)).1 := by
          unfold KepIs
          rw [t1.2 41 (by decide), t1.1 40 (by decide) (by decide)]
          exact r2
        refine wm_call hM (m_isAsKept hM t3 hK4 (ocD_len hD hm) (ocD_len hD hm) ?_)
        by_cases e : (ocD D nl s m (yesO (D 5) m 8) (-1)).1 = (ocD D nl s m (yesO (D 5) m 8) (nI l)).1
        · rw [decide_eq_true e]
          refine wp_neg (by decide) (skip D4 ?_ hF4 h004 hc4)
          unfold rchB
          simp [e]
        · rw [decide_eq_false e]
          have hr : rchB D nl l m s = true := by
            unfold rchB
            rw [etl, hb, decide_eq_true e, decide_eq_true hw]
            rfl
          have eL : rchL D nl l m (a ++ [s]) = rchL D nl l m a ++ [(m, s)] := by
            rw [hLa]
            congr 1
            unfold rchL
            rw [List.filter_cons_of_pos hr]
            rfl
          have elen : (done ++ rchL D nl l m (a ++ [s])).length = (done ++ rchL D nl l m a).length + 1 := by rw [eL, ← List.append_assoc, List.length_append (as := done ++ rchL D nl l m a), List.length_singleton]
          refine wp_pos rfl ?_
          refine wm_P hM rfl ?_
          refine wm_P hM rfl ?_
          have hF6 : FrL frA frK D (ds (ds D4 0 42 (nI m)) 0 43 (nI s)) := (hF4.sc (by decide)).sc (by decide)
          have hb720 : (done ++ rchL D nl l m a).length ≤ 720 := by
            have : (done ++ rchL D nl l m (List.range' 0 12) ++ rest).length ≤ 720 := by rw [hL]; exact hL720
            rw [ha] at this
            unfold rchL at this ⊢
            rw [List.filter_append, List.map_append] at this
            simp only [List.length_append, List.length_map] at this ⊢
            omega
          rw [nI_1, nI_1]
          by_cases ek : (done ++ rchL D nl l m a).length = k
          · refine wp_pos (by rw [ek]) (wp_mp ?_)
            rw [ek]
            refine ((hdone _ hF6 (by rw [ds_ne (by decide), ds_ne (by decide), h004])).1 (m, s) ?_ (by rw [ds_ne (by decide), ds_eq]) ds_eq)
            rw [← hL, ha2]
            have : rchL D nl l m ((a ++ [s]) ++ List.range' (s + 1) d) = rchL D nl l m a ++ ((m, s) :: rchL D nl l m (List.range' (s + 1) d)) := by
              have : rchL D nl l m ((a ++ [s]) ++ List.range' (s + 1) d) = rchL D nl l m (a ++ [s]) ++ rchL D nl l m (List.range' (s + 1) d) := by unfold rchL; rw [List.filter_append, List.map_append]
              rw [this, eL, List.append_assoc]
              rfl
            rw [this, ← List.append_assoc, List.append_assoc (done ++ rchL D nl l m a), List.getElem?_append_right (by omega), ek, Nat.sub_self]
            rfl
          · refine wp_neg (fun h => ek ?_) ?_
            · have := (nI_eq (by omega) (by omega)).mp h
              omega
            · unfold f_X12_reaches_156
              have := ih (s + 1) fu _ (a ++ [s]) (by omega) (by omega) ha2 (by rw [elen]; omega) hF6 (by rw [ds_ne (by decide), ds_ne (by decide), h004]) (fun g hg => by rw [ds_row (by decide), ds_row (by decide)]; exact hc4 g hg)
              rw [elen] at this
              rw [nI_1]
              exact this
end MJ
