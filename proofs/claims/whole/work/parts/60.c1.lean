/-! ===== the class's side: rules with known addresses; lists ===== -/
section WC
variable {α β : Type} {E : Es} {D : Nat → Nat → Int32} {I : Tg → Nat → Int32} {Q : α → Gh → Prop}
theorem wc_call {t : Tg} {a ci : Nat} {x : Mo β} {K : β → Mo α} (ha : eAd E t = a) (hk : eKd E t = 100 + ci) (kk : Wp x (E, D, I) (fun r g' => Wp (K r) g' Q)) : Wp (mb (mo ci (some a) x) K) (E, D, I) Q := by
  subst ha
  exact wp_mb (wp_mo (g := (E, D, I)) hk kk)
theorem wc_mo {t : Tg} {a ci : Nat} {x : Mo α} (ha : eAd E t = a) (hk : eKd E t = 100 + ci) (kk : Wp x (E, D, I) Q) : Wp (mo ci (some a) x) (E, D, I) Q := by
  subst ha
  exact wp_mo (g := (E, D, I)) hk kk
theorem wc_ck {t : Tg} {a ci : Nat} {K : Unit → Mo α} (ha : eAd E t = a) (hk : eKd E t = 100 + ci) (kk : Wp (K ()) (E, D, I) Q) : Wp (mb (ck ci (some a)) K) (E, D, I) Q := by
  subst ha
  exact wp_ck (g := (E, D, I)) hk kk
theorem wc_I {t : Tg} {a ci k : Nat} {K : Int32 → Mo α} (ha : eAd E t = a) (h1 : Nat.beq t.1 1 = false) (hk : eKd E t = 100 + ci) (hty : (p_ty ci)[k]? = some 0) (kk : Wp (K (I t k)) (E, D, I) Q) : Wp (mb (gI ci k (some a)) K) (E, D, I) Q := by
  subst ha
  refine wp_gI (g := (E, D, I)) hk hty ?_
  rw [p_iv_c (Nat.ne_of_beq_eq_false h1)]
  exact kk
theorem wc_L {t : Tg} {a ci k : Nat} {K : Int64 → Mo α} (ha : eAd E t = a) (hk : eKd E t = 100 + ci) (hty : (p_ty ci)[k]? = some 2) (kk : Wp (K (eLg E t k)) (E, D, I) Q) : Wp (mb (gL ci k (some a)) K) (E, D, I) Q := by
  subst ha
  exact wp_gL (g := (E, D, I)) hk hty kk
theorem wc_R {t u : Tg} {a ci k : Nat} {K : Option Nat → Mo α} (ha : eAd E t = a) (hk : eKd E t = 100 + ci) (hr : eRf E t k = some u) (hty : (p_ty ci)[k]? = some 1) (kk : Wp (K (some (eAd E u))) (E, D, I) Q) : Wp (mb (gR ci k (some a)) K) (E, D, I) Q := by
  subst ha
  refine wp_gR (g := (E, D, I)) hk hty ?_
  show Wp (K ((eRf E t k).map (eAd E))) _ _
  rw [hr]
  exact kk
theorem wc_Rn {t : Tg} {a ci k : Nat} {K : Option Nat → Mo α} (ha : eAd E t = a) (hk : eKd E t = 100 + ci) (hr : eRf E t k = none) (hty : (p_ty ci)[k]? = some 1) (kk : Wp (K none) (E, D, I) Q) : Wp (mb (gR ci k (some a)) K) (E, D, I) Q := by
  subst ha
  refine wp_gR (g := (E, D, I)) hk hty ?_
  show Wp (K ((eRf E t k).map (eAd E))) _ _
  rw [hr]
  exact kk
theorem wc_P {t : Tg} {a ci k : Nat} {v : Int32} {K : Unit → Mo α} (ha : eAd E t = a) (h1 : Nat.beq t.1 1 = false) (hk : eKd E t = 100 + ci) (hty : (p_ty ci)[k]? = some 0) (hc : Nat.beq ci 0 = false) (kk : Wp (K ()) (E, D, us I t k v) Q) : Wp (mb (pV ci k (some a) (.int v)) K) (E, D, I) Q := by
  subst ha
  exact wp_pI (Nat.ne_of_beq_eq_false h1) hk hty (Nat.ne_of_beq_eq_false hc) kk
theorem wc_Z {t : Tg} {a ci k : Nat} {v : Int32} {K : Unit → Mo α} (ha : eAd E t = a) (h1 : Nat.beq t.1 1 = false) (hk : eKd E t = 100 + ci) (hty : (p_ty ci)[k]? = some 0) (hc : Nat.beq ci 0 = false) (hx : v = 0 ∨ v = 1) (kk : Wp (K ()) (E, D, us I t k v) Q) : Wp (mb (pZ ci k (some a) v) K) (E, D, I) Q := by
  subst ha
  exact wp_pZ (Nat.ne_of_beq_eq_false h1) hk hty (Nat.ne_of_beq_eq_false hc) hx kk
theorem wc_PR {t u : Tg} {a b ci k : Nat} {K : Unit → Mo α} (ha : eAd E t = a) (hb : eAd E u = b) (hk : eKd E t = 100 + ci) (hty : (p_ty ci)[k]? = some 1) (hc : Nat.beq ci 0 = false) (hu : eKd E u ≠ 0 ∨ u = (0, 0, 0)) (kk : Wp (K ()) (eR E t k (some u), D, I) Q) : Wp (mb (pV ci k (some a) (va_rf (some b))) K) (E, D, I) Q := by
  subst ha
  subst hb
  exact wp_pR hk hty (Nat.ne_of_beq_eq_false hc) hu kk
theorem wc_PRn {t : Tg} {a ci k : Nat} {K : Unit → Mo α} (ha : eAd E t = a) (hk : eKd E t = 100 + ci) (hty : (p_ty ci)[k]? = some 1) (hc : Nat.beq ci 0 = false) (kk : Wp (K ()) (eR E t k none, D, I) Q) : Wp (mb (pV ci k (some a) (va_rf none)) K) (E, D, I) Q := by
  subst ha
  exact wp_pRn hk hty (Nat.ne_of_beq_eq_false hc) kk
theorem wc_PG {t : Tg} {a ci k : Nat} {v : Int64} {K : Unit → Mo α} (ha : eAd E t = a) (hk : eKd E t = 100 + ci) (hty : (p_ty ci)[k]? = some 2) (hc : Nat.beq ci 0 = false) (kk : Wp (K ()) (eG E t k v, D, I) Q) : Wp (mb (pV ci k (some a) (.long v)) K) (E, D, I) Q := by
  subst ha
  exact wp_pG hk hty (Nat.ne_of_beq_eq_false hc) kk
theorem wc_a {t : Tg} {a u : Nat} {i : Int32} {K : Int32 → Mo α} (k : Nat) (ha : eAd E t = a) (h1 : Nat.beq t.1 1 = false) (hk : eKd E t = u + 1) (hu : u = 0 ∨ u = 1 ∨ u = 3) (hi : i = nI k) (hb : k < 2 ^ 31) (hn : k < eLn E t) (kk : Wp (K (I t k)) (E, D, I) Q) : Wp (mb (aI u (some a) i) K) (E, D, I) Q := by
  subst ha
  subst hi
  have hc : (nI k).toNatClampNeg = k := nI_clamp hb
  refine wp_aI (g := (E, D, I)) hk hu (nI_pos hb) (by rw [hc]; exact hn) ?_
  rw [hc, p_iv_c (Nat.ne_of_beq_eq_false h1)]
  exact kk
theorem wc_s {t : Tg} {a u : Nat} {i x : Int32} {K : Unit → Mo α} (k : Nat) (ha : eAd E t = a) (h1 : Nat.beq t.1 1 = false) (hk : eKd E t = u + 1) (hu : u = 0 ∨ u = 1 ∨ u = 3) (hi : i = nI k) (hb : k < 2 ^ 31) (hn : k < eLn E t) (kk : Wp (K ()) (E, D, us I t k (kp u x)) Q) : Wp (mb (sI u (some a) i x) K) (E, D, I) Q := by
  subst ha
  subst hi
  have hc : (nI k).toNatClampNeg = k := nI_clamp hb
  refine wp_sI (Nat.ne_of_beq_eq_false h1) hk hu (nI_pos hb) (by rw [hc]; exact hn) ?_
  rw [hc]
  exact kk
theorem wc_aL {t : Tg} {a : Nat} {i : Int32} {K : Int64 → Mo α} (k : Nat) (ha : eAd E t = a) (hk : eKd E t = 3) (hi : i = nI k) (hb : k < 2 ^ 31) (hn : k < eLn E t) (kk : Wp (K (eLg E t k)) (E, D, I) Q) : Wp (mb (aL (some a) i) K) (E, D, I) Q := by
  subst ha
  subst hi
  have hc : (nI k).toNatClampNeg = k := nI_clamp hb
  refine wp_aL (g := (E, D, I)) hk (nI_pos hb) (by rw [hc]; exact hn) ?_
  rw [hc]
  exact kk
theorem wc_sL {t : Tg} {a : Nat} {i : Int32} {x : Int64} {K : Unit → Mo α} (k : Nat) (ha : eAd E t = a) (hk : eKd E t = 3) (hi : i = nI k) (hb : k < 2 ^ 31) (hn : k < eLn E t) (kk : Wp (K ()) (eG E t k x, D, I) Q) : Wp (mb (sL (some a) i x) K) (E, D, I) Q := by
  subst ha
  subst hi
  have hc : (nI k).toNatClampNeg = k := nI_clamp hb
  refine wp_sL hk (nI_pos hb) (by rw [hc]; exact hn) ?_
  rw [hc]
  exact kk
theorem wc_aR {t u : Tg} {a : Nat} {i : Int32} {K : Option Nat → Mo α} (k : Nat) (ha : eAd E t = a) (hk : eKd E t = 5) (hi : i = nI k) (hb : k < 2 ^ 31) (hn : k < eLn E t) (hr : eRf E t k = some u) (kk : Wp (K (some (eAd E u))) (E, D, I) Q) : Wp (mb (aR (some a) i) K) (E, D, I) Q := by
  subst ha
  subst hi
  have hc : (nI k).toNatClampNeg = k := nI_clamp hb
  refine wp_aR (g := (E, D, I)) hk (nI_pos hb) (by rw [hc]; exact hn) ?_
  rw [hc]
  show Wp (K ((eRf E t k).map (eAd E))) _ _
  rw [hr]
  exact kk
theorem wc_sR {t v : Tg} {a b ci : Nat} {i : Int32} {K : Unit → Mo α} (k : Nat) (ha : eAd E t = a) (hb : eAd E v = b) (hk : eKd E t = 5) (hv : eKd E v = 100 + ci) (hi : i = nI k) (hb2 : k < 2 ^ 31) (hn : k < eLn E t) (kk : Wp (K ()) (eR E t k (some v), D, I) Q) : Wp (mb (sR (some a) i (some b)) K) (E, D, I) Q := by
  subst ha
  subst hb
  subst hi
  have hc : (nI k).toNatClampNeg = k := nI_clamp hb2
  refine wp_sR hk (nI_pos hb2) (by rw [hc]; exact hn) hv ?_
  rw [hc]
  exact kk
theorem wc_sRn {t : Tg} {a : Nat} {i : Int32} {K : Unit → Mo α} (k : Nat) (ha : eAd E t = a) (hk : eKd E t = 5) (hi : i = nI k) (hb2 : k < 2 ^ 31) (hn : k < eLn E t) (kk : Wp (K ()) (eR E t k none, D, I) Q) : Wp (mb (sR (some a) i none) K) (E, D, I) Q := by
  subst ha
  subst hi
  have hc : (nI k).toNatClampNeg = k := nI_clamp hb2
  refine wp_sRn hk (nI_pos hb2) (by rw [hc]; exact hn) ?_
  rw [hc]
  exact kk
theorem wc_aN {t : Tg} {a u : Nat} {K : Int32 → Mo α} (ha : eAd E t = a) (hk : eKd E t = u + 1) (hu : u < 10) (kk : Wp (K (nI (eLn E t))) (E, D, I) Q) : Wp (mb (aN u (some a)) K) (E, D, I) Q := by
  subst ha
  exact wp_aN (g := (E, D, I)) hk hu kk
theorem wc_aNq {Z : Nat → Nat} {t : Tg} {a : Nat} {K : Int32 → Mo α} (hz : eAd E (0, 0, 0) = Z 0) (ha : eAd E t = a) (hk : eKd E t = 5) (kk : Wp (K (nI (eLn E t))) (E, D, I) Q) : Wp (mb (aNq Z (some a)) K) (E, D, I) Q := by
  subst ha
  exact wp_aNq (g := (E, D, I)) hz hk kk
/-- references copied -/
theorem wc_cpR {s t : Tg} {a b : Nat} {K : Unit → Mo α} {sp dp n : Nat} {ci : Nat} (ha : eAd E s = a) (hb : eAd E t = b) (hks : eKd E s = 5) (hkt : eKd E t = 5) (h1 : sp + n ≤ eLn E s) (h2 : dp + n ≤ eLn E t) (hbb : sp + n < 2 ^ 31 ∧ dp + n < 2 ^ 31) (hcl : ∀ i u, i < n → eRf E s (sp + i) = some u → 100 ≤ eKd E u) (kk : Wp (K ()) (eRs E t (fun k => if dp ≤ k ∧ k < dp + n then eRf E s (sp + (k - dp)) else eRf E t k), D, I) Q) : Wp (mb (cpR (some a) (nI sp) (some b) (nI dp) (nI n)) K) (E, D, I) Q := by
  subst ha
  subst hb
  refine wp_mb fun h r => ?_
  have hrow : ∀ k, eRf (eRs E t (fun k => if dp ≤ k ∧ k < dp + n then eRf E s (sp + (k - dp)) else eRf E t k)) t k = (if dp ≤ k ∧ k < dp + n then eRf E s (sp + (k - dp)) else eRf E t k) := fun k => if_pos rfl
  have h3 := p_stoW (g := (E, D, I)) (g' := (eRs E t (fun k => if dp ≤ k ∧ k < dp + n then eRf E s (sp + (k - dp)) else eRf E t k), D, I)) (u := 4) (t := t) r hkt (by omega) rfl rfl rfl rfl (fun w j hw => rfl) (fun w j hw => if_neg hw) (fun w j hw => rfl) (fun k w hw => by
    rw [hrow k] at hw
    split at hw
    · exact r.2.2.2.2.1 s _ w (by rw [hks]; omega) hw
    · exact r.2.2.2.2.1 t k w (by rw [hkt]; omega) hw)
  refine ⟨(), _, 0, 0, (eRs E t (fun k => if dp ≤ k ∧ k < dp + n then eRf E s (sp + (k - dp)) else eRf E t k), D, I), ?_, h3, rfl, rfl, kk⟩
  have c1 : (nI sp).toNatClampNeg = sp := nI_clamp (by omega)
  have c2 : (nI dp).toNatClampNeg = dp := nI_clamp (by omega)
  have c3 : (nI n).toNatClampNeg = n := nI_clamp (by omega)
  unfold cpR
  rw [p_ar (g := (E, D, I)) (u := 4) r hks (by omega), p_ar (g := (E, D, I)) (u := 4) r hkt (by omega), if_neg (by omega), if_pos rfl, if_neg (by omega), if_pos rfl]
  dsimp only
  have hok : cpOk h (fun i => (eRf E s i).map (eAd E)) sp n = true := by
    unfold cpOk
    rw [List.all_eq_true]
    intro i hi
    have hi := List.mem_range.mp hi
    cases hv : eRf E s (sp + i) with
    | none => simp [hv]
    | some u =>
      have hu := hcl i u hi hv
      have h9 := r.2.1 u (show eKd E u ≠ 0 by omega)
      unfold p_ce at h9
      rw [if_pos hu] at h9
      have h9 : h.1 (eAd E u) = some (Sum.inl _) := h9
      simp [hv, h9]
  rw [c1, c2, c3, hok]
  rw [if_neg (by
    rintro (q | q | q | q | q | q | q)
    · exact nI_pos (by omega) q
    · exact nI_pos (by omega) q
    · exact nI_pos (by omega) q
    · exact absurd q (by show ¬ eLn E s < sp + n; omega)
    · exact absurd q (by show ¬ eLn E t < dp + n; omega)
    · exact q rfl
    · cases q)]
  have e : va_cpy (fun i => (eRf E s i).map (eAd E)) (fun i => (eRf E t i).map (eAd E)) sp dp n = (fun i => (eRf (eRs E t (fun k => if dp ≤ k ∧ k < dp + n then eRf E s (sp + (k - dp)) else eRf E t k)) t i).map (eAd E)) := by
    funext k
    rw [hrow k]
    unfold va_cpy
    by_cases q : dp ≤ k ∧ k < dp + n
    · rw [if_pos q, if_pos q]
    · rw [if_neg q, if_neg q]
  rw [e, if_neg (show ¬ (4 : Nat) = 2 by omega), if_pos (show (4 : Nat) = 4 from rfl)]
  rfl
theorem wc_cpI {s t : Tg} {a b : Nat} {K : Unit → Mo α} {n : Nat} (ha : eAd E s = a) (hb : eAd E t = b) (h1s : Nat.beq s.1 1 = false) (h1t : Nat.beq t.1 1 = false) (hks : eKd E s = 2) (hkt : eKd E t = 2) (h1 : n ≤ eLn E s) (h2 : n ≤ eLn E t) (hbb : n < 2 ^ 31) (kk : Wp (K ()) (E, D, uI I t (fun k => if k < n then I s k else I t k)) Q) : Wp (mb (cpI (some a) 0 (some b) 0 (nI n)) K) (E, D, I) Q := by
  subst ha
  subst hb
  refine wp_mb fun h r => ?_
  have ht1 := Nat.ne_of_beq_eq_false h1t
  have hs1 := Nat.ne_of_beq_eq_false h1s
  have hiv : ∀ w j, w ≠ t → p_iv (E, D, uI I t (fun k => if k < n then I s k else I t k)) w j = p_iv (E, D, I) w j := fun w j hw => by
    unfold p_iv uI
    simp only [if_neg hw]
  have h3 := p_stoW (g := (E, D, I)) (g' := (E, D, uI I t (fun k => if k < n then I s k else I t k))) (u := 1) (t := t) r hkt (by omega) rfl rfl rfl rfl hiv (fun w j hw => rfl) (fun w j hw => rfl) (fun k w hw => r.2.2.2.2.1 t k w (by rw [hkt]; omega) hw)
  refine ⟨(), _, 0, 0, (E, D, uI I t (fun k => if k < n then I s k else I t k)), ?_, h3, rfl, rfl, kk⟩
  have c3 : (nI n).toNatClampNeg = n := nI_clamp hbb
  have c0 : (0 : Int32).toNatClampNeg = 0 := by decide
  unfold cpI
  rw [p_ar (g := (E, D, I)) (u := 1) r hks (by omega), p_ar (g := (E, D, I)) (u := 1) r hkt (by omega), if_neg (by omega), if_neg (by omega), if_neg (by omega), if_neg (by omega)]
  dsimp only
  rw [c0, c3, Nat.zero_add]
  rw [if_neg (by
    rintro (q | q | q | q | q | q)
    · exact absurd q (by decide)
    · exact absurd q (by decide)
    · exact nI_pos hbb q
    · exact absurd q (by show ¬ eLn E s < n; omega)
    · exact absurd q (by show ¬ eLn E t < n; omega)
    · exact q rfl)]
  have e : va_cpy (p_iv (E, D, I) s) (p_iv (E, D, I) t) 0 0 n = p_iv (E, D, uI I t (fun k => if k < n then I s k else I t k)) t := by
    funext k
    rw [p_iv_c ht1]
    unfold va_cpy uI
    rw [if_pos rfl, p_iv_c hs1, p_iv_c ht1, Nat.zero_add, Nat.zero_add, Nat.sub_zero]
    dsimp only
    by_cases q : k < n
    · rw [if_pos ⟨Nat.zero_le _, q⟩, if_pos q]
    · rw [if_neg (fun z => q z.2), if_neg q]
  rw [e, if_neg (show ¬ (1 : Nat) = 2 by omega), if_neg (show ¬ (1 : Nat) = 4 by omega)]
end WC
/-- a list: its own cell (a, b, 0), its row (a, b, c), what is in it -/
def Lst (E : Es) (I : Tg → Nat → Int32) (a b c : Nat) (xs : List Tg) : Prop := eKd E (a, b, 0) = 102 ∧ I (a, b, 0) 2 = nI xs.length ∧ xs.length ≤ c ∧ c ≤ 1000 ∧ (c = 0 → eRf E (a, b, 0) 1 = some (0, 0, 0)) ∧ (c ≠ 0 → 10 ≤ c ∧ eRf E (a, b, 0) 1 = some (a, b, c) ∧ eKd E (a, b, c) = 5 ∧ eLn E (a, b, c) = c) ∧ (∀ i t, xs[i]? = some t → eRf E (a, b, c) i = some t) ∧ (∀ c', c < c' → eKd E (a, b, c') = 0)
/-- all but the cells of a region are as they were -/
def Ag (a b : Nat) (E : Es) (I : Tg → Nat → Int32) (E' : Es) (I' : Tg → Nat → Int32) : Prop := ∀ t : Tg, ¬ (t.1 = a ∧ t.2.1 = b) → eAd E' t = eAd E t ∧ eKd E' t = eKd E t ∧ eLn E' t = eLn E t ∧ (∀ k, eRf E' t k = eRf E t k) ∧ (∀ k, eLg E' t k = eLg E t k) ∧ (∀ k, I' t k = I t k)
theorem Ag.rf {a b : Nat} {E : Es} {I : Tg → Nat → Int32} : Ag a b E I E I := fun _ _ => ⟨rfl, rfl, rfl, fun _ => rfl, fun _ => rfl, fun _ => rfl⟩
theorem Ag.tr {a b : Nat} {E E' E'' : Es} {I I' I'' : Tg → Nat → Int32} (h : Ag a b E I E' I') (h2 : Ag a b E' I' E'' I'') : Ag a b E I E'' I'' := fun t ht => by
  obtain ⟨a1, a2, a3, a4, a5, a6⟩ := h t ht
  obtain ⟨b1, b2, b3, b4, b5, b6⟩ := h2 t ht
  exact ⟨b1.trans a1, b2.trans a2, b3.trans a3, fun k => (b4 k).trans (a4 k), fun k => (b5 k).trans (a5 k), fun k => (b6 k).trans (a6 k)⟩
theorem Ag.us {a b c k : Nat} {v : Int32} {E : Es} {I : Tg → Nat → Int32} : Ag a b E I E (us I (a, b, c) k v) := fun t ht => ⟨rfl, rfl, rfl, fun _ => rfl, fun _ => rfl, fun j => us_ne (fun q => ht ⟨by rw [q.1], by rw [q.1]⟩)⟩
theorem Ag.eR {a b c k : Nat} {v : Option Tg} {E : Es} {I : Tg → Nat → Int32} : Ag a b E I (eR E (a, b, c) k v) I := fun t ht => ⟨rfl, rfl, rfl, fun j => eR_ne (fun q => ht ⟨by rw [q.1], by rw [q.1]⟩), fun _ => rfl, fun _ => rfl⟩
theorem Ag.eRs {a b c : Nat} {f : Nat → Option Tg} {E : Es} {I : Tg → Nat → Int32} : Ag a b E I (eRs E (a, b, c) f) I := fun t ht => ⟨rfl, rfl, rfl, fun j => if_neg (fun q => ht ⟨by rw [q], by rw [q]⟩), fun _ => rfl, fun _ => rfl⟩
theorem Ag.eG {a b c k : Nat} {v : Int64} {E : Es} {I : Tg → Nat → Int32} : Ag a b E I (eG E (a, b, c) k v) I := fun t ht => ⟨rfl, rfl, rfl, fun _ => rfl, fun j => eG_ne (fun q => ht ⟨by rw [q.1], by rw [q.1]⟩), fun _ => rfl⟩
theorem Ag.nw {a b c kd ln sl : Nat} {E : Es} {I : Tg → Nat → Int32} : Ag a b E I (eNew E (a, b, c) kd ln sl) (uI I (a, b, c) (fun _ => 0)) := fun t ht => by
  have hn : t ≠ (a, b, c) := fun q => ht ⟨by rw [q], by rw [q]⟩
  exact ⟨if_neg hn, if_neg hn, if_neg hn, fun _ => if_neg hn, fun _ => if_neg hn, fun _ => if_neg hn⟩
