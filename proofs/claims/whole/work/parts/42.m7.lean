/-! ===== the model: outcomes ===== -/
def tlD (D : Nat → Nat → Int32) (s l : Nat) : Bool := bt (D 10 (D 25 l).toNatClampNeg) s
def vlD (D : Nat → Nat → Int32) (s l : Nat) : Int32 := D 11 (12 * (D 25 l).toNatClampNeg + s)
def psD (D : Nat → Nat → Int32) (s : Nat) (R : List Nat) : List (Int32 × Nat) := (R.filter (tlD D s)).map (fun l => (vlD D s l, l))
def rsn : Option Nat → Int32
  | none => -1
  | some l => nI l
def GotIs (D : Nat → Nat → Int32) (st : List Int32 × Option Nat) : Prop := D 0 38 = nI st.1.length ∧ (∀ i v, st.1[i]? = some v → D 37 i = v) ∧ D 0 39 = rsn st.2
/-- what is read of sets -/
def AskS (D : Nat → Nat → Int32) (ns nl : Nat) : Prop := ns ≤ 40 ∧ nl ≤ 100 ∧ (∀ l, l < nl → ∃ s, s < ns ∧ D 25 l = nI s) ∧ (∀ s, D 13 s = 0 ∨ D 13 s = 1 ∨ D 13 s = 2)
theorem AskS.fr {D D' : Nat → Nat → Int32} {ns nl : Nat} (h : AskS D ns nl) (h25 : D' 25 = D 25) (h13 : D' 13 = D 13) : AskS D' ns nl := by
  unfold AskS at h ⊢
  rw [h25, h13]
  exact h
section MG
variable {E : Es} {D : Nat → Nat → Int32} {I : Tg → Nat → Int32} {am : Nat} {Q : Unit → Gh → Prop} {ns nl s : Nat}
theorem m_valueOf {Q : Int32 → Gh → Prop} (hM : ModS E am) (hS : AskS D ns nl) (hs : s < 12) {l : Nat} (hl : l < nl) (k : Q (vlD D s l) (E, D, I)) : Wp (f_X12_valueOf (some am) (nI l) (nI s)) (E, D, I) Q := by
  obtain ⟨h40, h100, h25, -⟩ := hS
  obtain ⟨z, hz, ez⟩ := h25 l hl
  have k : Q (D 11 (12 * (D 25 l).toNatClampNeg + s)) (E, D, I) := k
  rw [ez, nI_clamp (by omega)] at k
  unfold f_X12_valueOf
  refine wm_R hM (by decide) (by decide) rfl ?_
  refine wm_R hM (by decide) (by decide) rfl ?_
  refine wm_a hM l rfl (by show l < 100; omega) rfl (by decide) (by decide) (by omega) ?_
  rw [ez]
  refine wm_a hM (12 * z + s) ?_ (by show 12 * z + s < 480; omega) rfl (by decide) (by decide) (by omega) (wp_mp k)
  rw [show (12 : Int32) = nI 12 from rfl, pk_mul, nI_add]
/-- one more value -/
theorem m_out_89 (hM : ModS E am) {k12 : Int32 → Mo Unit} {D' : Nat → Nat → Int32} {x1 : Int32} {k l : Nat} {v : Int32} (hF : FrL [37] [38, 39] D D') (kk : ∀ D'', FrL [37] [38, 39] D D'' → GotIs D'' ([v], some l) → Wp (k12 (nI (k + 1))) (E, D'', I) Q) : Wp (f_X12_outcomes_89 k12 (some am) x1 (nI k) (nI l) v) (E, D', I) Q := by
  unfold f_X12_outcomes_89
  refine wm_R hM (by decide) (by decide) rfl ?_
  refine wm_s hM 0 rfl (by show 0 < 100; omega) rfl (by decide) (by decide) (by omega) ?_
  refine wm_P hM rfl ?_
  refine wm_P hM rfl ?_
  unfold f_X12_outcomes_190
  rw [nI_1]
  refine kk _ (((hF.row (by decide) (by decide)).sc (by decide)).sc (by decide)) ⟨?_, fun i u hi => ?_, ds_eq⟩
  · rw [ds_ne (by decide), ds_eq]
    rfl
  · cases i with
    | zero =>
      cases hi
      rw [ds_ne (by decide), ds_ne (by decide), ds_eq]
      rfl
    | succ i => cases hi
theorem m_out_150 (hM : ModS E am) {k12 : Int32 → Mo Unit} {D' : Nat → Nat → Int32} {x1 : Int32} {k l : Nat} {v : Int32} {vs : List Int32} {r : Option Nat} (hF : FrL [37] [38, 39] D D') (hG : GotIs D' (vs, r)) (hlen : vs.length < 100) (i : Nat) (hi : (i = vs.length ∧ v ∉ vs) ∨ vs[i]? = some v) (kk : ∀ D'', FrL [37] [38, 39] D D'' → GotIs D'' (if v ∈ vs then vs else vs ++ [v], some l) → Wp (k12 (nI (k + 1))) (E, D'', I) Q) : Wp (f_X12_outcomes_150 k12 (some am) x1 (nI k) (nI l) v (nI i)) (E, D', I) Q := by
  obtain ⟨g1, g2, g3⟩ := hG
  have g1 : D' 0 38 = nI vs.length := g1
  have hi100 : i < 100 := by
    rcases hi with ⟨h, -⟩ | h
    · omega
    · have := (List.getElem?_eq_some_iff.mp h).1
      omega
  unfold f_X12_outcomes_150
  refine wm_R hM (by decide) (by decide) rfl ?_
  refine wm_s hM i rfl (by show i < 100; omega) rfl (by decide) (by decide) (by omega) ?_
  refine wm_I hM rfl ?_
  rw [ds_ne (by omega), g1]
  have fin : ∀ (z : Nat) (vs2 : List Int32), z = vs2.length → (if v ∈ vs then vs else vs ++ [v]) = vs2 → (∀ j u, vs2[j]? = some u → ds D' 37 i (kp 1 v) 37 j = u) → Wp (f_X12_outcomes_182 k12 (some am) x1 (nI k) (nI l) (some am) (nI z)) (E, ds D' 37 i (kp 1 v), I) Q := fun z vs2 hz he hj => by
    subst hz
    rw [he] at kk
    unfold f_X12_outcomes_182
    refine wm_P hM rfl ?_
    refine wm_P hM rfl ?_
    unfold f_X12_outcomes_190
    rw [nI_1]
    refine kk _ (((hF.row (by decide) (by decide)).sc (by decide)).sc (by decide)) ⟨?_, fun j u hu => ?_, ds_eq⟩
    · rw [ds_ne (by decide), ds_eq]
    · rw [ds_ne (by omega), ds_ne (by omega)]
      exact hj j u hu
  rcases hi with ⟨h1, h2⟩ | h1
  · subst h1
    refine wp_pos rfl ?_
    refine wm_I hM rfl ?_
    rw [ds_ne (by omega), g1, nI_1]
    refine fin _ (vs ++ [v]) (by rw [List.length_append, List.length_singleton]) (if_neg h2) (fun j u hu => ?_)
    by_cases hj : j < vs.length
    · rw [List.getElem?_append_left hj] at hu
      rw [ds_ne (by omega)]
      exact g2 j u hu
    · rw [List.getElem?_append_right (by omega)] at hu
      have hi3 : j - vs.length = 0 := by
        have := (List.getElem?_eq_some_iff.mp hu).1
        rw [List.length_singleton] at this
        omega
      rw [hi3] at hu
      cases hu
      rw [show j = vs.length by omega, ds_eq]
      rfl
  · have hlt := (List.getElem?_eq_some_iff.mp h1).1
    refine wp_neg (fun e => by have := (nI_eq (by omega) (by omega)).mp e; omega) ?_
    refine wm_I hM rfl ?_
    rw [ds_ne (by omega), g1]
    refine fin _ vs rfl (if_pos (List.mem_of_getElem? h1)) (fun j u hu => ?_)
    by_cases hj : j = i
    · subst hj
      rw [ds_eq]
      rw [h1] at hu
      cases hu
      rfl
    · rw [ds_ne (by omega)]
      exact g2 j u hu
theorem m_out_123 (hM : ModS E am) {k12 : Int32 → Mo Unit} {D' : Nat → Nat → Int32} {x1 : Int32} {k l : Nat} {v : Int32} {vs : List Int32} {r : Option Nat} (hF : FrL [37] [38, 39] D D') (hG : GotIs D' (vs, r)) (hlen : vs.length < 100) (kk : ∀ D'', FrL [37] [38, 39] D D'' → GotIs D'' (if v ∈ vs then vs else vs ++ [v], some l) → Wp (k12 (nI (k + 1))) (E, D'', I) Q) : ∀ (b a : List Int32) (fu : Nat), a ++ b = vs → v ∉ a → b.length < fu → Wp (f_X12_outcomes_123 k12 (some am) x1 (nI k) (nI l) v fu (nI a.length)) (E, D', I) Q := by
  intro b
  induction b with
  | nil =>
    intro a fu hab hv hf
    cases fu with
    | zero => exact absurd hf (Nat.not_lt_zero _)
    | succ fu =>
      rw [List.append_nil] at hab
      subst hab
      rw [f_X12_outcomes_123]
      refine wm_I hM rfl ?_
      rw [hG.1]
      refine wp_pos ((nI_leI (by show a.length < _; omega) (by omega)).mpr (Nat.le_refl _)) ?_
      exact m_out_150 hM hF hG hlen a.length (.inl ⟨rfl, hv⟩) kk
  | cons c b ih =>
    intro a fu hab hv hf
    cases fu with
    | zero => exact absurd hf (Nat.not_lt_zero _)
    | succ fu =>
      rw [List.length_cons] at hf
      have hl : vs.length = a.length + (b.length + 1) := by rw [← hab, List.length_append, List.length_cons]
      have hget : vs[a.length]? = some c := by rw [← hab, List.getElem?_append_right (Nat.le_refl _), Nat.sub_self]; rfl
      rw [f_X12_outcomes_123]
      refine wm_I hM rfl ?_
      rw [hG.1]
      refine wp_neg (fun e => by have := (nI_leI (by show vs.length < _; omega) (by omega)).mp e; dsimp only at this; omega) ?_
      refine wm_R hM (by decide) (by decide) rfl ?_
      refine wm_a hM a.length rfl (by show a.length < 100; omega) rfl (by decide) (by decide) (by omega) ?_
      rw [hG.2.1 _ _ hget]
      refine wp_ite (fun e => ?_) (fun e => ?_)
      · subst e
        exact m_out_150 hM hF hG hlen a.length (.inr hget) kk
      · rw [nI_1, show a.length + 1 = (a ++ [c]).length by rw [List.length_append, List.length_singleton]]
        refine ih (a ++ [c]) fu (by rw [List.append_assoc]; exact hab) (fun h => ?_) (by omega)
        rcases List.mem_append.mp h with h | h
        · exact hv h
        · exact e (List.mem_singleton.mp h).symm
theorem m_out_12 (hM : ModS E am) (hS : AskS D ns nl) (hs : s < 12) {R : List Nat} (hR : RowIs D R) (hR100 : R.length ≤ 100) (hRl : ∀ l ∈ R, l < nl) : ∀ (suf pre : List Nat) (fu : Nat) (D' : Nat → Nat → Int32) (st : List Int32 × Option Nat), pre ++ suf = R → suf.length < fu → FrL [37] [38, 39] D D' → GotIs D' st → st.1.length ≤ pre.length → (∀ D'', FrL [37] [38, 39] D D'' → GotIs D'' ((psD D s suf).foldl (ost (D 13 s)) st) → Q () (E, D'', I)) → Wp (f_X12_outcomes_12 (some am) (nI s) fu (nI pre.length)) (E, D', I) Q := by
  intro suf
  induction suf with
  | nil =>
    intro pre fu D' st hp hf hF hG hl kk
    cases fu with
    | zero => exact absurd hf (Nat.not_lt_zero _)
    | succ fu =>
      rw [List.append_nil] at hp
      subst hp
      rw [f_X12_outcomes_12]
      refine wm_I hM rfl ?_
      rw [hF.2 36 (by decide), hR.1]
      exact wp_pos ((nI_leI (by omega) (by omega)).mpr (Nat.le_refl _)) (wp_mp (kk D' hF hG))
  | cons l suf ih =>
    intro pre fu D' st hp hf hF hG hlen kk
    cases fu with
    | zero => exact absurd hf (Nat.not_lt_zero _)
    | succ fu =>
      rw [List.length_cons] at hf
      have hRl2 : R.length = pre.length + (suf.length + 1) := by rw [← hp, List.length_append, List.length_cons]
      have hget : R[pre.length]? = some l := by rw [← hp, List.getElem?_append_right (Nat.le_refl _), Nat.sub_self]; rfl
      have hl : l < nl := hRl l (List.mem_of_getElem? hget)
      have hl100 : l < 100 := Nat.lt_of_lt_of_le hl hS.2.1
      obtain ⟨z, hz, ez⟩ := hS.2.2.1 l hl
      have hz40 := hS.1
      have epre : pre.length + 1 = (pre ++ [l]).length := by rw [List.length_append, List.length_singleton]
      have etl : tlD D s l = bt (D 10 z) s := by unfold tlD; rw [ez, nI_clamp (by omega)]
      -- going on
      have go : ∀ D2 st2, FrL [37] [38, 39] D D2 → GotIs D2 st2 → st2.1.length ≤ pre.length + 1 → (psD D s (l :: suf)).foldl (ost (D 13 s)) st = (psD D s suf).foldl (ost (D 13 s)) st2 → Wp (f_X12_outcomes_12 (some am) (nI s) fu (nI (pre.length + 1))) (E, D2, I) Q := fun D2 st2 q1 q2 q3 q4 => by
        rw [q4] at kk
        rw [epre]
        exact ih (pre ++ [l]) fu D2 st2 (by rw [List.append_assoc]; exact hp) (by omega) q1 q2 (by rw [← epre]; exact q3) kk
      rw [f_X12_outcomes_12]
      refine wm_I hM rfl ?_
      rw [hF.2 36 (by decide), hR.1]
      refine wp_neg (fun e => by have := (nI_leI (by omega) (by omega)).mp e; omega) ?_
      refine wm_R hM (by decide) (by decide) rfl ?_
      refine wm_a hM pre.length rfl (by show pre.length < 100; omega) rfl (by decide) (by decide) (by omega) ?_
      rw [hF.1 35 (by decide) (by decide), hR.2 _ _ hget]
      refine wm_R hM (by decide) (by decide) rfl ?_
      refine wm_a hM l rfl (by show l < 100; omega) rfl (by decide) (by decide) (by omega) ?_
      rw [hF.1 25 (by decide) (by decide), ez]
      refine wm_call hM (m_tells hM (by omega) hs ?_)
      rw [hF.1 10 (by decide) (by decide)]
      cases hb : bt (D 10 z) s with
      | false =>
        refine wp_pos rfl ?_
        unfold f_X12_outcomes_190
        rw [nI_1]
        refine go D' st hF hG (by omega) ?_
        unfold psD
        rw [List.filter_cons_of_neg (by rw [etl, hb]; decide)]
      | true =>
        have eps : psD D s (l :: suf) = (vlD D s l, l) :: psD D s suf := by
          unfold psD
          rw [List.filter_cons_of_pos (by rw [etl, hb]), List.map_cons]
        rw [eps, List.foldl_cons] at kk go
        have evl : vlD D' s l = vlD D s l := by
          unfold vlD
          rw [hF.1 11 (by decide) (by decide), hF.1 25 (by decide) (by decide)]
        refine wp_neg (by decide) ?_
        refine wm_call hM (m_valueOf hM (hS.fr (hF.1 25 (by decide) (by decide)) (hF.1 13 (by decide) (by decide))) hs hl ?_)
        rw [evl]
        generalize vlD D s l = v at kk go ⊢
        obtain ⟨vs, r⟩ := st
        have e89 : ost (D 13 s) (vs, r) (v, l) = ([v], some l) → Wp (f_X12_outcomes_89 (f_X12_outcomes_12 (some am) (nI s) fu) (some am) (nI s) (nI pre.length) (nI l) v) (E, D', I) Q := fun e => m_out_89 hM hF (fun D2 q1 q2 => go D2 _ q1 q2 (by simp) (by rw [e]))
        have e110 : ost (D 13 s) (vs, r) (v, l) = (if D 13 s = 2 then (if v ∈ vs then vs else vs ++ [v], some l) else (vs, r)) → Wp (f_X12_outcomes_110 (f_X12_outcomes_12 (some am) (nI s) fu) (some am) (nI s) (nI pre.length) (nI l) v) (E, D', I) Q := fun e => by
          unfold f_X12_outcomes_110
          refine wm_R hM (by decide) (by decide) rfl ?_
          refine wm_a hM s rfl (by show s < 12; omega) rfl (by decide) (by decide) (by omega) ?_
          rw [hF.1 13 (by decide) (by decide)]
          refine wp_ite (fun c => ?_) (fun c => ?_)
          · rw [if_pos c] at e
            have hlen : vs.length ≤ pre.length := hlen
            refine m_out_123 hM hF hG (by omega) (fun D2 q1 q2 => go D2 _ q1 q2 ?_ (by rw [e])) vs [] fuL rfl (by simp) (fu_ok (by omega))
            dsimp only
            split
            · omega
            · rw [List.length_append, List.length_singleton]; omega
          · rw [if_neg c] at e
            unfold f_X12_outcomes_190
            rw [nI_1]
            exact go D' _ hF hG (by omega) (by rw [e])
        refine wm_R hM (by decide) (by decide) rfl ?_
        refine wm_a hM s rfl (by show s < 12; omega) rfl (by decide) (by decide) (by omega) ?_
        rw [hF.1 13 (by decide) (by decide)]
        refine wp_ite (fun c0 => ?_) (fun c0 => ?_)
        · refine e89 ?_
          unfold ost
          rw [if_neg (by rw [c0]; decide)]
          cases vs with
          | nil => rfl
          | cons u t => exact if_pos (.inl c0)
        · refine wm_R hM (by decide) (by decide) rfl ?_
          refine wm_a hM s rfl (by show s < 12; omega) rfl (by decide) (by decide) (by omega) ?_
          rw [hF.1 13 (by decide) (by decide)]
          refine wp_ite (fun c1 => ?_) (fun c1 => ?_)
          · refine wm_I hM rfl ?_
            rw [hG.1]
            cases vs with
            | nil =>
              refine wp_pos rfl (e89 ?_)
              unfold ost
              rw [if_neg (by rw [c1]; decide)]
            | cons u t =>
              have ht : (u :: t).length ≤ pre.length := hlen
              refine wp_neg (fun e => ?_) ?_
              · have := (nI_eq (a := (u :: t).length) (b := 0) (by omega) (by omega)).mp e
                rw [List.length_cons] at this
                omega
              · refine wm_R hM (by decide) (by decide) rfl ?_
                refine wm_a hM 0 rfl (by show 0 < 100; omega) rfl (by decide) (by decide) (by omega) ?_
                rw [hG.2.1 0 u rfl]
                refine wp_ite (fun c2 => ?_) (fun c2 => ?_)
                · refine e110 ?_
                  unfold ost
                  rw [if_neg (by rw [c1]; decide), if_neg (by rw [c1]; decide)]
                  exact if_neg (fun h => h.elim c0 (fun h => absurd c2 (Int32.not_le.mpr h)))
                · refine e89 ?_
                  unfold ost
                  rw [if_neg (by rw [c1]; decide)]
                  exact if_pos (.inr (Int32.not_le.mp c2))
          · refine e110 ?_
            have c2 : D 13 s = 2 := by
              rcases hS.2.2.2 s with h | h | h
              · exact absurd h c0
              · exact absurd h c1
              · exact h
            unfold ost
            rw [if_pos c2, if_pos c2]
theorem m_outcomes (hM : ModS E am) (hS : AskS D ns nl) (hs : s < 12) {R : List Nat} (hR : RowIs D R) (hR100 : R.length ≤ 100) (hRl : ∀ l ∈ R, l < nl) (kk : ∀ D'', FrL [37] [38, 39] D D'' → GotIs D'' (oc (D 13 s) (psD D s R)) → Q () (E, D'', I)) : Wp (f_X12_outcomes (some am) (nI s)) (E, D, I) Q := by
  unfold f_X12_outcomes
  refine wm_P hM rfl ?_
  refine wm_P hM rfl ?_
  exact m_out_12 hM hS hs hR hR100 hRl R [] fuL _ ([], none) rfl (fu_ok (by omega)) ((FrL.rf.sc (by decide)).sc (by decide)) ⟨(by rw [ds_ne (by decide), ds_eq]; rfl), (fun i v h => by cases h), (by rw [ds_eq]; rfl)⟩ (Nat.le_refl _) kk
/-- facts that are yes -/
theorem m_yesOf {Q : Int32 → Gh → Prop} (hM : ModS E am) {m : Nat} (hm : m < 60) (kk : Q (yesO (D 5) m 8) (E, D, I)) : Wp (f_X12_yesOf (some am) (nI m)) (E, D, I) Q := by
  have key : ∀ (d f n : Nat), d + f = 8 → d < n → Wp (f_X12_yesOf_4 (some am) (nI m) n (yesO (D 5) m f) (nI f)) (E, D, I) Q := by
    intro d
    induction d with
    | zero =>
      intro f n hf hn
      cases n with
      | zero => exact absurd hn (Nat.not_lt_zero _)
      | succ n =>
        rw [f_X12_yesOf_4, show f = 8 by omega]
        exact wp_pos (by decide) (wp_mp kk)
    | succ d ih =>
      intro f n hf hn
      cases n with
      | zero => exact absurd hn (Nat.not_lt_zero _)
      | succ n =>
        rw [f_X12_yesOf_4]
        refine wp_neg (fun e => by have := (nI_leI (a := 8) (by omega) (by omega)).mp e; omega) ?_
        refine wm_R hM (by decide) (by decide) rfl ?_
        refine wm_a hM (8 * m + f) ?_ (by show 8 * m + f < 480; omega) rfl (by decide) (by decide) (by omega) ?_
        · rw [show (8 : Int32) = nI 8 from rfl, pk_mul, nI_add]
        · have e := ih (f + 1) n (by omega) (by omega)
          rw [yesO] at e
          refine wp_ite (fun c => ?_) (fun c => ?_)
          · rw [if_pos c] at e
            unfold f_X12_yesOf_33
            rw [nI_1]
            exact e
          · rw [if_neg c] at e
            unfold f_X12_yesOf_33
            rw [nI_1]
            exact e
  unfold f_X12_yesOf
  exact key 8 0 fuL (by omega) (fu_ok (by omega))
end MG
