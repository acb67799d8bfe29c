/-! ===== the model's reader: numbers, steps ===== -/
section WK
variable {α : Type} {Q : α → Gh → Prop}
theorem wp_nAk {E : Es} {D : Nat → Nat → Int32} {I : Tg → Nat → Int32} (t : Tg) {u : Nat} {i : Int32} {K : Option Nat → Mo α} (h1 : ¬ p_im (eCu E) t) (ht : eKd E t = 0) (ht0 : t ≠ (0, 0, 0)) (hu : u < 10) (h0 : ¬ i < 0) (hn : i.toNatClampNeg ≤ 1000000) (kk : Wp (K (some (eAd (eNew E t (u + 1) i.toNatClampNeg i.toNatClampNeg) t))) (eNew E t (u + 1) i.toNatClampNeg i.toNatClampNeg, D, uI I t (fun _ => 0)) Q) : Wp (mb (nA u i) K) (E, D, I) Q := by
  refine wp_mb fun h r => ?_
  have hv : ∀ w k, w ≠ t → p_iv (eNew E t (u + 1) i.toNatClampNeg i.toNatClampNeg, D, uI I t (fun _ => 0)) w k = p_iv (E, D, I) w k := fun w k hw => by
    unfold p_iv uI
    simp only [if_neg hw]
    rfl
  have h2 := r.sn (g' := (eNew E t (u + 1) i.toNatClampNeg i.toNatClampNeg, D, uI I t (fun _ => 0))) (t := t) ht ht0 rfl (by omega) hv
  have ha : eAd (eNew E t (u + 1) i.toNatClampNeg i.toNatClampNeg) t = h.2 := by rw [r.1]; exact if_pos rfl
  refine ⟨some (eAd (eNew E t (u + 1) i.toNatClampNeg i.toNatClampNeg) t), _, 1, i.toNatClampNeg, _, ?_, h2, rfl, rfl, kk⟩
  have hce : p_ce (eNew E t (u + 1) i.toNatClampNeg i.toNatClampNeg, D, uI I t (fun _ => 0)) t = .inr (u, (i.toNatClampNeg, z0 u)) := by
    have hkd : eKd (eNew E t (u + 1) i.toNatClampNeg i.toNatClampNeg) t = u + 1 := if_pos rfl
    have hln : eLn (eNew E t (u + 1) i.toNatClampNeg i.toNatClampNeg) t = i.toNatClampNeg := if_pos rfl
    have e1 : p_iv (eNew E t (u + 1) i.toNatClampNeg i.toNatClampNeg, D, uI I t (fun _ => 0)) t = fun _ => 0 := by
      funext j
      rw [show p_iv (eNew E t (u + 1) i.toNatClampNeg i.toNatClampNeg, D, uI I t (fun _ => 0)) t j = uI I t (fun _ => 0) t j from if_neg h1]
      exact if_pos rfl
    have e2 : (fun j => (eRf (eNew E t (u + 1) i.toNatClampNeg i.toNatClampNeg) t j).map (eAd (eNew E t (u + 1) i.toNatClampNeg i.toNatClampNeg))) = fun _ => none := by
      funext j
      rw [show eRf (eNew E t (u + 1) i.toNatClampNeg i.toNatClampNeg) t j = none from if_pos rfl]
      rfl
    have e3 : eLg (eNew E t (u + 1) i.toNatClampNeg i.toNatClampNeg) t = fun _ => 0 := funext fun j => if_pos rfl
    unfold p_ce
    show (if 100 ≤ eKd (eNew E t (u + 1) i.toNatClampNeg i.toNatClampNeg) t then _ else Sum.inr (eKd (eNew E t (u + 1) i.toNatClampNeg i.toNatClampNeg) t - 1, eLn (eNew E t (u + 1) i.toNatClampNeg i.toNatClampNeg) t, if eKd (eNew E t (u + 1) i.toNatClampNeg i.toNatClampNeg) t = 3 then _ else if eKd (eNew E t (u + 1) i.toNatClampNeg i.toNatClampNeg) t = 5 then _ else _)) = _
    rw [e1, e2, e3, hkd, hln, if_neg (by omega), Nat.add_sub_cancel]
    unfold z0
    by_cases c2 : u = 2
    · subst c2; rfl
    · rw [if_neg (show ¬ u + 1 = 3 by omega), if_neg c2]
      by_cases c4 : u = 4
      · subst c4; rfl
      · rw [if_neg (show ¬ u + 1 = 5 by omega), if_neg c4]
  unfold nA
  rw [if_neg (fun e => e.elim h0 (fun e => Nat.not_lt.mpr hn e)), ha, hce]
theorem wp_sIk {E : Es} {D : Nat → Nat → Int32} {I : Tg → Nat → Int32} {t : Tg} {u : Nat} {i x : Int32} {K : Unit → Mo α} (h1 : ¬ p_im (eCu E) t) (hk : eKd E t = u + 1) (hu : u = 0 ∨ u = 1 ∨ u = 3) (h0 : ¬ i < 0) (hn : i.toNatClampNeg < eLn E t) (kk : Wp (K ()) (E, D, us I t i.toNatClampNeg (kp u x)) Q) : Wp (mb (sI u (some (eAd E t)) i x) K) (E, D, I) Q :=
  p_sIW (g := (E, D, I)) (g' := (E, D, us I t i.toNatClampNeg (kp u x))) hk hu h0 hn rfl (fun w j h => p_iv_us h) (by rw [show p_iv (E, D, us I t i.toNatClampNeg (kp u x)) t i.toNatClampNeg = us I t i.toNatClampNeg (kp u x) t i.toNatClampNeg from if_neg h1, us_eq]) kk
end WK

/-- what is not the model's is as it was -/
def EqC (E E' : Es) : Prop := ∀ t : Tg, t.1 ≠ 1 → eAd E' t = eAd E t ∧ eKd E' t = eKd E t ∧ eLn E' t = eLn E t ∧ (∀ k, eRf E' t k = eRf E t k) ∧ (∀ k, eLg E' t k = eLg E t k)
theorem EqC.rf {E : Es} : EqC E E := fun _ _ => ⟨rfl, rfl, rfl, fun _ => rfl, fun _ => rfl⟩
theorem EqC.tr {E E' E'' : Es} (h : EqC E E') (h2 : EqC E' E'') : EqC E E'' := fun t ht => by
  obtain ⟨a1, a2, a3, a4, a5⟩ := h t ht
  obtain ⟨b1, b2, b3, b4, b5⟩ := h2 t ht
  exact ⟨b1.trans a1, b2.trans a2, b3.trans a3, fun k => (b4 k).trans (a4 k), fun k => (b5 k).trans (a5 k)⟩
def PX (am c : Nat) (g g' : Gh) : Prop := ModS g'.1 am ∧ EqC g.1 g'.1 ∧ (∀ t : Tg, t.1 ≠ 1 → ∀ k, g'.2.2 t k = g.2.2 t k) ∧ eMs g'.1 + 2 * eCu g.1 = eMs g.1 + 2 * eCu g'.1 ∧ eMc g'.1 + eCu g.1 ≤ eMc g.1 + eCu g'.1 ∧ eCu g.1 ≤ eCu g'.1 ∧ eCu g'.1 ≤ 40960 ∧ FrL [21] frP g.2.1 g'.2.1 ∧ (∀ k, k < c → g'.2.1 21 k = g.2.1 21 k)
theorem PX.rf {am c : Nat} {E : Es} {D : Nat → Nat → Int32} {I : Tg → Nat → Int32} (hM : ModS E am) (hc : eCu E ≤ 40960) : PX am c (E, D, I) (E, D, I) := ⟨hM, EqC.rf, fun _ _ _ => rfl, rfl, Nat.le_refl _, Nat.le_refl _, hc, FrL.rf, fun _ _ => rfl⟩
theorem PX.tr {am c c' : Nat} {g g' g'' : Gh} (h : PX am c g g') (h2 : PX am c' g' g'') (hc : c ≤ c') : PX am c g g'' := by
  obtain ⟨a1, a2, a3, a4, a5, a6, a7, a8, a9⟩ := h
  obtain ⟨b1, b2, b3, b4, b5, b6, b7, b8, b9⟩ := h2
  exact ⟨b1, a2.tr b2, fun t ht k => (b3 t ht k).trans (a3 t ht k), by omega, by omega, by omega, b7, (a8.tr b8).wk (by decide) (by decide), fun k hk => (b9 k (by omega)).trans (a9 k hk)⟩
theorem PX.sc {am c : Nat} {g : Gh} {E : Es} {D : Nat → Nat → Int32} {I : Tg → Nat → Int32} (h : PX am c g (E, D, I)) {k : Nat} {v : Int32} (hk : k ∈ frP) : PX am c g (E, ds D 0 k v, I) := by
  obtain ⟨a1, a2, a3, a4, a5, a6, a7, a8, a9⟩ := h
  exact ⟨a1, a2, a3, a4, a5, a6, a7, a8.sc hk, fun k' hk' => by
    have e : ds D 0 k v 21 k' = D 21 k' := ds_ne (by omega)
    exact e.trans (a9 k' hk')⟩
section MQ
variable {E : Es} {D : Nat → Nat → Int32} {I : Tg → Nat → Int32} {am : Nat}
theorem m_emits_52 {Q : Unit → Gh → Prop} (hM : ModS E am) {c : Nat} {x : Int32} (h22 : D 0 22 = nI c) (hc : c < eCu E) (hcb : c ≤ 20300) (kk : Q () (E, ds (ds D 21 c x) 0 22 (nI (c + 1)), I)) : Wp (f_X12_emits_52 (some am) x) (E, D, I) Q := by
  unfold f_X12_emits_52
  refine wm_Rk hM ?_
  refine wm_I hM rfl ?_
  rw [h22]
  refine wm_sk hM c rfl hc (by omega) ?_
  refine wm_I hM rfl ?_
  rw [ds_ne (by omega), h22, nI_1]
  refine wm_P hM rfl ?_
  exact wp_mp kk
/-- the code row grown: another picture -/
def gwE (E : Es) (cu : Nat) : Es := (E.1, E.2.1, E.2.2.1, E.2.2.2.1, E.2.2.2.2.1, E.2.2.2.2.2.1, E.2.2.2.2.2.2.1, E.2.2.2.2.2.2.2.1, cu)
theorem p_grow {E : Es} {D : Nat → Nat → Int32} {I : Tg → Nat → Int32} {c2 : Nat} (hne : c2 ≠ eCu E) : p_iv (gwE E c2, (fun j k => if j = 21 then I (1, 21, c2) k else D j k), uI I (1, 21, eCu E) (D 21)) = p_iv (E, D, I) := by
  funext t k
  unfold p_iv
  obtain ⟨a, b, c⟩ := t
  dsimp only
  by_cases h1 : p_im (eCu E) (a, b, c)
  · rw [if_pos h1]
    by_cases h21 : b = 21
    · subst h21
      obtain ⟨ha, h | h⟩ := h1
      · exact absurd rfl h.1
      · have ha : a = 1 := ha
        have hc : c = eCu E := h.2
        subst ha; subst hc
        rw [if_neg (fun q => by
          obtain ⟨-, q | q⟩ := q
          · exact q.1 rfl
          · exact hne q.2.symm)]
        unfold uI
        rw [if_pos rfl]
    · rw [if_pos (show p_im (eCu (gwE E c2)) (a, b, c) from ⟨h1.1, .inl ⟨h21, h1.2.elim (fun q => q.2) (fun q => absurd q.1 h21)⟩⟩), if_neg h21]
  · rw [if_neg h1]
    by_cases h2 : p_im (eCu (gwE E c2)) (a, b, c)
    · rw [if_pos h2]
      obtain ⟨ha, h | h⟩ := h2
      · exact absurd ⟨ha, .inl h⟩ h1
      · have ha : a = 1 := ha
        have hb : b = 21 := h.1
        have hc : c = c2 := h.2
        subst ha; subst hb; subst hc
        rw [if_pos rfl]
    · rw [if_neg h2]
      unfold uI
      rw [if_neg (fun e => h1 (by
        have e1 : a = 1 := congrArg Prod.fst e
        have e2 : b = 21 := congrArg (fun t : Tg => t.2.1) e
        have e3 : c = eCu E := congrArg (fun t : Tg => t.2.2) e
        exact ⟨e1, .inr ⟨e2, e3⟩⟩))]
theorem p_Rep_grow {E : Es} {D : Nat → Nat → Int32} {I : Tg → Nat → Int32} {c2 : Nat} (hne : c2 ≠ eCu E) {h : Hs} (r : p_Rep (E, D, I) h) : p_Rep (gwE E c2, (fun j k => if j = 21 then I (1, 21, c2) k else D j k), uI I (1, 21, eCu E) (D 21)) h := by
  obtain ⟨r1, r2, r3, r4, r5, r6, r7, r8⟩ := r
  refine ⟨r1, fun t ht => ?_, r3, r4, r5, r6, r7, r8⟩
  rw [show eAd (gwE E c2) t = eAd E t from rfl, r2 t ht]
  rw [p_ce_congr (g := (E, D, I)) (g' := (gwE E c2, (fun j k => if j = 21 then I (1, 21, c2) k else D j k), uI I (1, 21, eCu E) (D 21))) rfl rfl (fun k => congrFun (congrFun (p_grow hne) t) k) (fun _ => rfl) (fun _ => rfl)]
theorem m_emits {Q : Unit → Gh → Prop} (hM : ModS E am) {c : Nat} {x : Int32} (h22 : D 0 22 = nI c) (hc : c ≤ eCu E) (hcb : c ≤ 20300) (hcu : eCu E ≤ 40960) (kk : ∀ E' D' I', PX am c (E, D, I) (E', D', I') → D' 0 22 = nI (c + 1) → D' 21 c = x → c + 1 ≤ eCu E' → (∀ k, k ≠ 22 → D' 0 k = D 0 k) → Q () (E', D', I')) : Wp (f_X12_emits (some am) x) (E, D, I) Q := by
  obtain ⟨m1, m2, m3, m4, m5, m6, m7, m8⟩ := id hM
  unfold f_X12_emits
  refine wm_I hM rfl ?_
  refine wm_Rk hM ?_
  refine wp_aN (g := (E, D, I)) (t := (1, 21, eCu E)) (u := 1) m5 (by omega) ?_
  rw [h22]
  show Wp (if nI c = nI (eLn E (1, 21, eCu E)) then _ else _) _ Q
  rw [m6]
  by_cases e : c = eCu E
  · refine wp_pos (by rw [e]) ?_
    refine wm_Rk hM ?_
    refine wp_aN (g := (E, D, I)) (t := (1, 21, eCu E)) (u := 1) m5 (by omega) ?_
    show Wp (mb (nA 1 ((2 : Int32) * nI (eLn E (1, 21, eCu E)))) _) _ Q
    rw [m6, show (2 : Int32) = nI 2 from rfl, pk_mul]
    have hcl : (nI (2 * eCu E)).toNatClampNeg = 2 * eCu E := nI_clamp (by omega)
    have hnim : ¬ p_im (eCu E) (1, 21, 2 * eCu E) := fun q => by
      obtain ⟨-, q | q⟩ := q
      · exact q.1 rfl
      · have : 2 * eCu E = eCu E := q.2
        omega
    refine wp_nAk (1, 21, 2 * eCu E) hnim (m8 _ (by omega)) (by simp) (by omega) (nI_pos (by omega)) (by rw [hcl]; omega) ?_
    rw [hcl]
    generalize hE1 : eNew E (1, 21, 2 * eCu E) (1 + 1) (2 * eCu E) (2 * eCu E) = E1
    have n1 : ∀ u : Tg, u ≠ (1, 21, 2 * eCu E) → eAd E1 u = eAd E u ∧ eKd E1 u = eKd E u ∧ eLn E1 u = eLn E u ∧ (∀ k, eRf E1 u k = eRf E u k) ∧ (∀ k, eLg E1 u k = eLg E u k) := fun u hu => by
      subst hE1
      exact ⟨if_neg hu, if_neg hu, if_neg hu, fun k => if_neg hu, fun k => if_neg hu⟩
    have n2 : eKd E1 (1, 21, 2 * eCu E) = 2 ∧ eLn E1 (1, 21, 2 * eCu E) = 2 * eCu E := by
      subst hE1
      exact ⟨if_pos rfl, if_pos rfl⟩
    have n3 : eCu E1 = eCu E ∧ eMc E1 = eMc E + 1 ∧ eMs E1 = eMs E + 2 * eCu E := by
      subst hE1
      exact ⟨rfl, rfl, rfl⟩
    have ne0 : ((1, 0, 0) : Tg) ≠ (1, 21, 2 * eCu E) := by simp
    have nej : ∀ j, j ≠ 21 → ((1, j, 0) : Tg) ≠ (1, 21, 2 * eCu E) := fun j hj q => hj (congrArg (fun t : Tg => t.2.1) q)
    have nec : ((1, 21, eCu E) : Tg) ≠ (1, 21, 2 * eCu E) := fun q => by
      have : eCu E = 2 * eCu E := congrArg (fun t : Tg => t.2.2) q
      omega
    have hM1 : ModS E1 am → True := fun _ => trivial
    have hA1 : eAd E1 (1, 0, 0) = am := by rw [(n1 _ ne0).1]; exact m1
    have hK1 : eKd E1 (1, 0, 0) = 115 := by rw [(n1 _ ne0).2.1]; exact m2
    have hR1 : eRf E1 (1, 0, 0) 21 = some (1, 21, eCu E1) := by rw [(n1 _ ne0).2.2.2.1, n3.1]; exact m4
    have hKc : eKd E1 (1, 21, eCu E1) = 2 := by rw [n3.1, (n1 _ nec).2.1]; exact m5
    have hLc : eLn E1 (1, 21, eCu E1) = eCu E1 := by rw [n3.1, (n1 _ nec).2.2.1]; exact m6
    -- the copy
    have key : ∀ (d k fu : Nat) (J : Tg → Nat → Int32), d + k = c → d < fu → (∀ t : Tg, t.1 ≠ 1 → ∀ k, J t k = I t k) → (∀ j, j < k → J (1, 21, 2 * eCu E) j = D 21 j) → Wp (f_X12_emits_24 (some am) x (some (eAd E1 (1, 21, 2 * eCu E))) fu (nI k)) (E1, D, J) Q := by
      intro d
      induction d with
      | zero =>
        intro k fu J hk hf hJ hJ2
        cases fu with
        | zero => exact absurd hf (Nat.not_lt_zero _)
        | succ fu =>
          rw [f_X12_emits_24]
          rw [← hA1]
          refine wp_gI (g := (E1, D, J)) (t := (1, 0, 0)) hK1 rfl ?_
          rw [p_iv_i (p_im_m (by omega)), show D ((1, 0, 0) : Tg).2.1 22 = nI c from h22]
          refine wp_pos ((nI_leI (by omega) (by omega)).mpr (by omega)) ?_
          refine wp_pR (E := E1) (t := (1, 0, 0)) (u := (1, 21, 2 * eCu E)) hK1 rfl (by omega) (.inl (by rw [n2.1]; omega)) ?_
          have hcu1 : eCu (eR E1 (1, 0, 0) 21 (some (1, 21, 2 * eCu E))) = eCu E := n3.1
          have hne : 2 * eCu E ≠ eCu (eR E1 (1, 0, 0) 21 (some (1, 21, 2 * eCu E))) := by rw [hcu1]; omega
          refine wp_ghost (g' := (gwE (eR E1 (1, 0, 0) 21 (some (1, 21, 2 * eCu E))) (2 * eCu E), (fun j k => if j = 21 then J (1, 21, 2 * eCu E) k else D j k), uI J (1, 21, eCu (eR E1 (1, 0, 0) 21 (some (1, 21, 2 * eCu E)))) (D 21))) (fun h r => p_Rep_grow hne r) rfl rfl ?_
          have hM3 : ModS (gwE (eR E1 (1, 0, 0) 21 (some (1, 21, 2 * eCu E))) (2 * eCu E)) am := by
            refine ⟨hA1, hK1, fun j hj h21 => ?_, (by show eRf (eR E1 (1, 0, 0) 21 (some (1, 21, 2 * eCu E))) (1, 0, 0) 21 = some (1, 21, 2 * eCu E); exact eR_eq), n2.1, n2.2, by show 256 ≤ 2 * eCu E; omega, fun c' hc' => ?_⟩
            · obtain ⟨q1, q2, q3⟩ := m3 j hj h21
              refine ⟨?_, by show eKd E1 (1, j, 0) = _; rw [(n1 _ (nej j h21)).2.1]; exact q2, by show eLn E1 (1, j, 0) = _; rw [(n1 _ (nej j h21)).2.2.1]; exact q3⟩
              show eRf (eR E1 (1, 0, 0) 21 (some (1, 21, 2 * eCu E))) (1, 0, 0) j = _
              rw [eR_ne (fun q => h21 q.2), (n1 _ ne0).2.2.2.1]
              exact q1
            · have hc' : 2 * eCu E < c' := hc'
              show eKd E1 (1, 21, c') = 0
              rw [(n1 (1, 21, c') (fun q => by have : c' = 2 * eCu E := congrArg (fun t : Tg => t.2.2) q; omega)).2.1]
              exact m8 c' (by omega)
          rw [hA1]
          refine m_emits_52 hM3 (c := c) ?_ (by show c < 2 * eCu E; omega) hcb ?_
          · show (if (0 : Nat) = 21 then _ else D 0 22) = _
            rw [if_neg (by omega)]
            exact h22
          · refine kk _ _ _ ⟨hM3, fun t ht => ?_, fun t ht k => ?_, ?_, ?_, ?_, ?_, ⟨fun j h0 hj => ?_, fun k hk => ?_⟩, fun k hk => ?_⟩ ds_eq (by rw [ds_ne (by omega), ds_eq]) (by show c + 1 ≤ 2 * eCu E; omega) (fun k hk => by rw [ds_ne (by omega), ds_ne (by omega)]; exact if_neg (by omega))
            · have hn : t ≠ (1, 21, 2 * eCu E) := fun q => ht (by rw [q])
              obtain ⟨q1, q2, q3, q4, q5⟩ := n1 t hn
              refine ⟨q1, q2, q3, fun k => ?_, q5⟩
              show eRf (eR E1 (1, 0, 0) 21 (some (1, 21, 2 * eCu E))) t k = _
              rw [eR_ne (fun q => ht (by rw [q.1]))]
              exact q4 k
            · show uI J (1, 21, _) (D 21) t k = I t k
              unfold uI
              rw [if_neg (fun q => ht (by rw [q]))]
              exact hJ t ht k
            · show eMs E1 + 2 * eCu E = eMs E + 2 * (2 * eCu E)
              rw [n3.2.2]; omega
            · show eMc E1 + eCu E ≤ eMc E + 2 * eCu E
              rw [n3.2.1]; omega
            · show eCu E ≤ 2 * eCu E
              omega
            · show 2 * eCu E ≤ 40960
              omega
            · dsimp only
              rw [ds_row h0, ds_row (fun q => hj (by rw [q]; decide))]
              funext k
              exact if_neg (fun q => hj (by rw [q]; decide))
            · dsimp only
              rw [ds_ne (show ¬ (0 = 0 ∧ k = 22) from fun q => hk (by rw [q.2]; decide)), ds_ne (by omega)]
              exact if_neg (by omega)
            · have hk : k < c := hk
              dsimp only
              rw [ds_ne (by omega), ds_ne (by omega)]
              show (if (21 : Nat) = 21 then J (1, 21, 2 * eCu E) k else _) = _
              rw [if_pos rfl]
              exact hJ2 k (by omega)
      | succ d ih =>
        intro k fu J hk hf hJ hJ2
        cases fu with
        | zero => exact absurd hf (Nat.not_lt_zero _)
        | succ fu =>
          rw [f_X12_emits_24]
          rw [← hA1]
          refine wp_gI (g := (E1, D, J)) (t := (1, 0, 0)) hK1 rfl ?_
          rw [p_iv_i (p_im_m (by omega)), show D ((1, 0, 0) : Tg).2.1 22 = nI c from h22]
          refine wp_neg (fun e => by have := (nI_leI (by omega) (by omega)).mp e; omega) ?_
          refine wp_gR (g := (E1, D, J)) (t := (1, 0, 0)) hK1 rfl ?_
          show Wp (mb (aI 1 ((eRf E1 (1, 0, 0) 21).map (eAd E1)) (nI k)) _) _ Q
          rw [hR1]
          have hkc : (nI k).toNatClampNeg = k := nI_clamp (by omega)
          refine wp_aI (g := (E1, D, J)) (t := (1, 21, eCu E1)) hKc (.inr (.inl rfl)) (nI_pos (by omega)) (by rw [hkc]; show k < eLn E1 _; rw [hLc, n3.1]; omega) ?_
          rw [hkc, p_iv_i p_im_k]
          refine wp_sIk (E := E1) (t := (1, 21, 2 * eCu E)) (by rw [n3.1]; exact hnim) n2.1 (.inr (.inl rfl)) (nI_pos (by omega)) (by rw [hkc, n2.2]; omega) ?_
          rw [hkc, nI_1, hA1]
          refine ih (k + 1) fu _ (by omega) (by omega) (fun t ht k' => by rw [us_ne (fun q => ht (by rw [q.1]))]; exact hJ t ht k') (fun j hj => ?_)
          by_cases ej : j = k
          · subst ej
            rw [us_eq]
            rfl
          · rw [us_ne (fun q => ej q.2)]
            exact hJ2 j (by omega)
    refine key c 0 fuL _ (by omega) (fu_ok (by omega)) (fun t ht k => ?_) (fun j hj => absurd hj (Nat.not_lt_zero _))
    unfold uI
    rw [if_neg (fun q => ht (by rw [q]))]
  · refine wp_neg (fun h => e ((nI_eq (by omega) (by omega)).mp h)) ?_
    refine m_emits_52 hM h22 (by omega) hcb ?_
    refine kk E _ I ⟨hM, EqC.rf, fun _ _ _ => rfl, rfl, Nat.le_refl _, Nat.le_refl _, hcu, (FrL.rf.row (by decide) (by decide)).sc (by decide), fun k hk => ?_⟩ ds_eq (by rw [ds_ne (by omega), ds_eq]) (by omega) (fun k hk => by rw [ds_ne (by omega), ds_ne (by omega)])
    dsimp only
    rw [ds_ne (by omega), ds_ne (by omega)]
end MQ
