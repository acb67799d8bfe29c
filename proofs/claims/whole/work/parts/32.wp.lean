/-! ===== rules: what a program does to the picture ===== -/
/-- more made -/
def eXc (E : Es) (c n : Nat) : Es := (E.1, E.2.1, E.2.2.1, E.2.2.2.1, E.2.2.2.2.1, E.2.2.2.2.2.1, E.2.2.2.2.2.2.1 + c, E.2.2.2.2.2.2.2.1 + n, E.2.2.2.2.2.2.2.2)
section WP
variable {α β : Type} {g : Gh} {Q : α → Gh → Prop}
theorem wp_mb {x : Mo β} {f : β → Mo α} (k : Wp x g (fun a g' => Wp (f a) g' Q)) : Wp (mb x f) g Q := by
  intro h hr
  obtain ⟨a, h1, c1, n1, g1, e1, r1, q1, q2, k1⟩ := k h hr
  obtain ⟨b, h2, c2, n2, g2, e2, r2, q3, q4, k2⟩ := k1 h1 r1
  refine ⟨b, h2, c1 + c2, n1 + n2, g2, ?_, r2, by omega, by omega, k2⟩
  unfold mb
  simp only [e1, e2]
theorem wp_mp {a : α} (k : Q a g) : Wp (mp a) g Q := fun h hr => ⟨a, h, 0, 0, g, rfl, hr, rfl, rfl, k⟩
theorem wp_imp {x : Mo α} {P : α → Gh → Prop} (k : Wp x g P) (h : ∀ a g', P a g' → Q a g') : Wp x g Q := by
  intro hh hr
  obtain ⟨a, h1, c1, n1, g1, e1, r1, q1, q2, k1⟩ := k hh hr
  exact ⟨a, h1, c1, n1, g1, e1, r1, q1, q2, h a g1 k1⟩
theorem wp_mbE {x : Mo β} {f : β → Mo α} {P : β → Gh → Prop} (k : Wp x g P) (k2 : ∀ a g', P a g' → Wp (f a) g' Q) : Wp (mb x f) g Q := wp_mb (wp_imp k k2)
theorem wp_ite {p : Prop} [Decidable p] {x y : Mo α} (k1 : p → Wp x g Q) (k2 : ¬ p → Wp y g Q) : Wp (if p then x else y) g Q := by
  by_cases h : p
  · rw [if_pos h]; exact k1 h
  · rw [if_neg h]; exact k2 h
theorem wp_pos {p : Prop} [Decidable p] {x y : Mo α} (h : p) (k1 : Wp x g Q) : Wp (if p then x else y) g Q := by rw [if_pos h]; exact k1
theorem wp_neg {p : Prop} [Decidable p] {x y : Mo α} (h : ¬ p) (k1 : Wp y g Q) : Wp (if p then x else y) g Q := by rw [if_neg h]; exact k1
/-- two names of one address are one -/
theorem wp_inj {x : Mo α} (k : (∀ t u, eKd g.1 t ≠ 0 → eKd g.1 u ≠ 0 → eAd g.1 t = eAd g.1 u → t = u) → (∀ t, eKd g.1 t ≠ 0 → eAd g.1 (0, 0, 0) ≠ eAd g.1 t) → (∀ t k u, eKd g.1 t ≠ 0 → eRf g.1 t k = some u → eKd g.1 u ≠ 0 ∨ u = (0, 0, 0)) → Wp x g Q) : Wp x g Q := fun h hr => k hr.2.2.1 (fun t ht => Nat.ne_of_lt (hr.2.2.2.2.2.2.1 t ht)) hr.2.2.2.2.1 h hr
/-- another picture of the same heap -/
theorem wp_ghost {x : Mo α} {g' : Gh} (hr : ∀ h, p_Rep g h → p_Rep g' h) (hc : eMc g'.1 = eMc g.1) (hs : eMs g'.1 = eMs g.1) (k : Wp x g' Q) : Wp x g Q := by
  intro h r
  obtain ⟨a, h1, c1, n1, g1, e1, r1, q1, q2, k1⟩ := k h (hr h r)
  exact ⟨a, h1, c1, n1, g1, e1, r1, by rw [q1, hc], by rw [q2, hs], k1⟩
theorem p_ob {h : Hs} {t : Tg} {ci : Nat} (hr : p_Rep g h) (hk : eKd g.1 t = 100 + ci) : ob ci (some (eAd g.1 t)) h = some (eAd g.1 t, p_fs (p_fv g t) 0 (p_ty ci)) := by
  have h1 := hr.2.1 t (by rw [hk]; omega)
  have h2 : p_ce g t = .inl (ci, p_fs (p_fv g t) 0 (p_ty ci)) := by
    unfold p_ce
    rw [if_pos (by rw [hk]; omega), hk, Nat.add_sub_cancel_left]
  rw [h2] at h1
  unfold ob
  simp only [h1, if_true]
theorem wp_mo {t : Tg} {ci : Nat} {x : Mo α} (hk : eKd g.1 t = 100 + ci) (k : Wp x g Q) : Wp (mo ci (some (eAd g.1 t)) x) g Q := by
  intro h hr
  have e : mo ci (some (eAd g.1 t)) x h = x h := by
    unfold mo
    simp only [p_ob hr hk]
  rw [e]
  exact k h hr
theorem wp_ck {t : Tg} {ci : Nat} {K : Unit → Mo α} (hk : eKd g.1 t = 100 + ci) (k : Wp (K ()) g Q) : Wp (mb (ck ci (some (eAd g.1 t))) K) g Q := by
  refine wp_mb fun h hr => ⟨(), h, 0, 0, g, ?_, hr, rfl, rfl, k⟩
  unfold ck
  simp only [p_ob hr hk]
theorem wp_ckn {ci : Nat} {K : Unit → Mo α} (k : Wp (K ()) g Q) : Wp (mb (ck ci none) K) g Q := wp_mb fun h hr => ⟨(), h, 0, 0, g, rfl, hr, rfl, rfl, k⟩
theorem p_get {t : Tg} {ci k ty : Nat} (hty : (p_ty ci)[k]? = some ty) : (p_fs (p_fv g t) 0 (p_ty ci))[k]? = some (p_fv g t k ty) := by
  rw [p_fs_get, hty, Nat.zero_add]; rfl
theorem wp_gI {t : Tg} {ci k : Nat} {K : Int32 → Mo α} (hk : eKd g.1 t = 100 + ci) (hty : (p_ty ci)[k]? = some 0) (kk : Wp (K (p_iv g t k)) g Q) : Wp (mb (gI ci k (some (eAd g.1 t))) K) g Q := by
  refine wp_mb fun h hr => ⟨p_iv g t k, h, 0, 0, g, ?_, hr, rfl, rfl, kk⟩
  unfold gI
  have e : p_fv g t k 0 = .int (p_iv g t k) := rfl
  simp only [p_ob hr hk, p_get hty, e]
theorem wp_gL {t : Tg} {ci k : Nat} {K : Int64 → Mo α} (hk : eKd g.1 t = 100 + ci) (hty : (p_ty ci)[k]? = some 2) (kk : Wp (K (eLg g.1 t k)) g Q) : Wp (mb (gL ci k (some (eAd g.1 t))) K) g Q := by
  refine wp_mb fun h hr => ⟨eLg g.1 t k, h, 0, 0, g, ?_, hr, rfl, rfl, kk⟩
  unfold gL
  have e : p_fv g t k 2 = .long (eLg g.1 t k) := rfl
  simp only [p_ob hr hk, p_get hty, e]
theorem wp_gR {t : Tg} {ci k : Nat} {K : Option Nat → Mo α} (hk : eKd g.1 t = 100 + ci) (hty : (p_ty ci)[k]? = some 1) (kk : Wp (K ((eRf g.1 t k).map (eAd g.1))) g Q) : Wp (mb (gR ci k (some (eAd g.1 t))) K) g Q := by
  refine wp_mb fun h hr => ⟨(eRf g.1 t k).map (eAd g.1), h, 0, 0, g, ?_, hr, rfl, rfl, kk⟩
  unfold gR
  have e : p_fv g t k 1 = va_rf ((eRf g.1 t k).map (eAd g.1)) := rfl
  simp only [p_ob hr hk, p_get hty, e]
  cases (eRf g.1 t k).map (eAd g.1) <;> rfl
/-- a field is written -/
theorem p_putW {t : Tg} {ci k ty : Nat} {v : Value} {g' : Gh} {K : Unit → Mo α} (hk : eKd g.1 t = 100 + ci) (hty : (p_ty ci)[k]? = some ty) (hc : ci ≠ 0) (hA : eAd g'.1 = eAd g.1) (hK : eKd g'.1 = eKd g.1) (hH : eHz g'.1 = eHz g.1) (hL : eLn g'.1 = eLn g.1) (hi : ∀ u j, ¬ (u = t ∧ j = k) → p_iv g' u j = p_iv g u j) (hr : ∀ u j, ¬ (u = t ∧ j = k) → eRf g'.1 u j = eRf g.1 u j) (hg : ∀ u j, ¬ (u = t ∧ j = k) → eLg g'.1 u j = eLg g.1 u j) (hcl : ∀ u, eRf g'.1 t k = some u → eRf g.1 t k = some u ∨ eKd g.1 u ≠ 0 ∨ u = (0, 0, 0)) (hv : p_fv g' t k ty = v) (hm : eMc g'.1 = eMc g.1) (hs : eMs g'.1 = eMs g.1) (kk : Wp (K ()) g' Q) : Wp (mb (pV ci k (some (eAd g.1 t)) v) K) g Q := by
  refine wp_mb fun h r => ?_
  have ht : eKd g.1 t ≠ 0 := by rw [hk]; omega
  have hce : p_ce g' t = .inl (ci, (p_fs (p_fv g t) 0 (p_ty ci)).set k v) := by
    unfold p_ce
    rw [hK, if_pos (by rw [hk]; omega), hk, Nat.add_sub_cancel_left]
    rw [p_fs_set (p_fv g t) (p_fv g' t) (p_ty ci) k ty v hty hv (fun j ty hj => by
      unfold p_fv
      rw [hi t j (fun e => hj e.2), hr t j (fun e => hj e.2), hg t j (fun e => hj e.2), hA])]
  refine ⟨(), _, 0, 0, g', ?_, r.su (g' := g') ht hA hK hH hL (fun u j hu => hi u j (fun e => hu e.1)) (fun u j hu => hr u j (fun e => hu e.1)) (fun u j hu => hg u j (fun e => hu e.1)) (fun j u hu => ?_), hm, hs, kk⟩
  · unfold pV
    simp only [p_ob r hk]
    rw [if_pos ⟨by rw [p_fs_len]; exact (List.getElem?_eq_some_iff.mp hty).1, hc⟩, hce]
  · by_cases hj : j = k
    · subst hj
      rcases hcl u hu with h1 | h1
      · exact r.2.2.2.2.1 t j u ht h1
      · exact h1
    · rw [hr t j (fun e => hj e.2)] at hu
      exact r.2.2.2.2.1 t j u ht hu
theorem us_ne {I : Tg → Nat → Int32} {t u : Tg} {k j : Nat} {v : Int32} (h : ¬ (u = t ∧ j = k)) : us I t k v u j = I u j := if_neg h
theorem us_eq {I : Tg → Nat → Int32} {t : Tg} {k : Nat} {v : Int32} : us I t k v t k = v := if_pos ⟨rfl, rfl⟩
theorem ds_ne {D : Nat → Nat → Int32} {t u : Nat} {k j : Nat} {v : Int32} (h : ¬ (u = t ∧ j = k)) : ds D t k v u j = D u j := if_neg h
theorem ds_eq {D : Nat → Nat → Int32} {t : Nat} {k : Nat} {v : Int32} : ds D t k v t k = v := if_pos ⟨rfl, rfl⟩
theorem p_iv_us {E : Es} {D : Nat → Nat → Int32} {I : Tg → Nat → Int32} {t u : Tg} {k j : Nat} {v : Int32} (h : ¬ (u = t ∧ j = k)) : p_iv (E, D, us I t k v) u j = p_iv (E, D, I) u j := by
  unfold p_iv
  by_cases c : p_im (eCu E) u
  · rw [if_pos c, if_pos c]
  · rw [if_neg c, if_neg c]
    exact us_ne h
theorem p_iv_c {E : Es} {D : Nat → Nat → Int32} {I : Tg → Nat → Int32} {t : Tg} {k : Nat} (h : t.1 ≠ 1) : p_iv (E, D, I) t k = I t k := if_neg (fun e => h e.1)
theorem p_iv_i {E : Es} {D : Nat → Nat → Int32} {I : Tg → Nat → Int32} {t : Tg} {k : Nat} (h : p_im (eCu E) t) : p_iv (E, D, I) t k = D t.2.1 k := if_pos h
theorem p_im_m {cu j : Nat} (h : j ≠ 21) : p_im cu (1, j, 0) := ⟨rfl, .inl ⟨h, rfl⟩⟩
theorem p_im_k {cu : Nat} : p_im cu (1, 21, cu) := ⟨rfl, .inr ⟨rfl, rfl⟩⟩
theorem p_im_inj {cu : Nat} {t u : Tg} (h : p_im cu t) (h2 : p_im cu u) (e : t.2.1 = u.2.1) : t = u := by
  obtain ⟨a, b, c⟩ := t
  obtain ⟨a', b', c'⟩ := u
  obtain ⟨h1, h3⟩ := h
  obtain ⟨h4, h5⟩ := h2
  dsimp only at h1 h3 h4 h5 e
  subst h1; subst h4; subst e
  rcases h3 with ⟨x, y⟩ | ⟨x, y⟩ <;> rcases h5 with ⟨x', y'⟩ | ⟨x', y'⟩
  · rw [y, y']
  · exact absurd x' x
  · exact absurd x x'
  · rw [y, y']
theorem p_iv_ds {E : Es} {D : Nat → Nat → Int32} {I : Tg → Nat → Int32} {t u : Tg} {k j : Nat} {v : Int32} (ht : p_im (eCu E) t) (h : ¬ (u = t ∧ j = k)) : p_iv (E, ds D t.2.1 k v, I) u j = p_iv (E, D, I) u j := by
  unfold p_iv
  by_cases c : p_im (eCu E) u
  · rw [if_pos c, if_pos c]
    exact ds_ne (fun e => h ⟨p_im_inj c ht e.1, e.2⟩)
  · rw [if_neg c, if_neg c]
theorem wp_pI {E : Es} {D : Nat → Nat → Int32} {I : Tg → Nat → Int32} {t : Tg} {ci k : Nat} {v : Int32} {K : Unit → Mo α} (h1 : t.1 ≠ 1) (hk : eKd E t = 100 + ci) (hty : (p_ty ci)[k]? = some 0) (hc : ci ≠ 0) (kk : Wp (K ()) (E, D, us I t k v) Q) : Wp (mb (pV ci k (some (eAd E t)) (.int v)) K) (E, D, I) Q := by
  refine p_putW (g := (E, D, I)) (g' := (E, D, us I t k v)) hk hty hc rfl rfl rfl rfl (fun u j h => p_iv_us h) (fun _ _ _ => rfl) (fun _ _ _ => rfl) ?_ ?_ rfl rfl kk
  · exact fun u hu => .inl hu
  · show Value.int (p_iv (E, D, us I t k v) t k) = _
    rw [p_iv_c h1, us_eq]
theorem wp_pZ {E : Es} {D : Nat → Nat → Int32} {I : Tg → Nat → Int32} {t : Tg} {ci k : Nat} {v : Int32} {K : Unit → Mo α} (h1 : t.1 ≠ 1) (hk : eKd E t = 100 + ci) (hty : (p_ty ci)[k]? = some 0) (hc : ci ≠ 0) (hx : v = 0 ∨ v = 1) (kk : Wp (K ()) (E, D, us I t k v) Q) : Wp (mb (pZ ci k (some (eAd E t)) v) K) (E, D, I) Q := by
  unfold pZ
  rw [if_pos hx]
  exact wp_pI h1 hk hty hc kk
theorem eR_ne {E : Es} {t u : Tg} {k j : Nat} {v : Option Tg} (h : ¬ (u = t ∧ j = k)) : eRf (eR E t k v) u j = eRf E u j := if_neg h
theorem eR_eq {E : Es} {t : Tg} {k : Nat} {v : Option Tg} : eRf (eR E t k v) t k = v := if_pos ⟨rfl, rfl⟩
theorem eG_ne {E : Es} {t u : Tg} {k j : Nat} {v : Int64} (h : ¬ (u = t ∧ j = k)) : eLg (eG E t k v) u j = eLg E u j := if_neg h
theorem eG_eq {E : Es} {t : Tg} {k : Nat} {v : Int64} : eLg (eG E t k v) t k = v := if_pos ⟨rfl, rfl⟩
theorem wp_pR {E : Es} {D : Nat → Nat → Int32} {I : Tg → Nat → Int32} {t u : Tg} {ci k : Nat} {K : Unit → Mo α} (hk : eKd E t = 100 + ci) (hty : (p_ty ci)[k]? = some 1) (hc : ci ≠ 0) (hu : eKd E u ≠ 0 ∨ u = (0, 0, 0)) (kk : Wp (K ()) (eR E t k (some u), D, I) Q) : Wp (mb (pV ci k (some (eAd E t)) (va_rf (some (eAd E u)))) K) (E, D, I) Q := by
  refine p_putW (g := (E, D, I)) (g' := (eR E t k (some u), D, I)) hk hty hc rfl rfl rfl rfl (fun _ _ _ => rfl) (fun _ _ h => eR_ne h) (fun _ _ _ => rfl) ?_ ?_ rfl rfl kk
  · intro v hv
    rw [eR_eq] at hv
    cases hv
    exact .inr hu
  · show va_rf ((eRf (eR E t k (some u)) t k).map (eAd E)) = _
    rw [eR_eq]; rfl
theorem wp_pRn {E : Es} {D : Nat → Nat → Int32} {I : Tg → Nat → Int32} {t : Tg} {ci k : Nat} {K : Unit → Mo α} (hk : eKd E t = 100 + ci) (hty : (p_ty ci)[k]? = some 1) (hc : ci ≠ 0) (kk : Wp (K ()) (eR E t k none, D, I) Q) : Wp (mb (pV ci k (some (eAd E t)) (va_rf none)) K) (E, D, I) Q := by
  refine p_putW (g := (E, D, I)) (g' := (eR E t k none, D, I)) hk hty hc rfl rfl rfl rfl (fun _ _ _ => rfl) (fun _ _ h => eR_ne h) (fun _ _ _ => rfl) ?_ ?_ rfl rfl kk
  · intro v hv
    rw [eR_eq] at hv
    cases hv
  · show va_rf ((eRf (eR E t k none) t k).map (eAd E)) = _
    rw [eR_eq]; rfl
theorem wp_pG {E : Es} {D : Nat → Nat → Int32} {I : Tg → Nat → Int32} {t : Tg} {ci k : Nat} {v : Int64} {K : Unit → Mo α} (hk : eKd E t = 100 + ci) (hty : (p_ty ci)[k]? = some 2) (hc : ci ≠ 0) (kk : Wp (K ()) (eG E t k v, D, I) Q) : Wp (mb (pV ci k (some (eAd E t)) (.long v)) K) (E, D, I) Q := by
  refine p_putW (g := (E, D, I)) (g' := (eG E t k v, D, I)) hk hty hc rfl rfl rfl rfl (fun _ _ _ => rfl) (fun _ _ _ => rfl) (fun _ _ h => eG_ne h) (fun u hu => .inl hu) ?_ rfl rfl kk
  show Value.long (eLg (eG E t k v) t k) = _
  rw [eG_eq]
/-- arrays -/
theorem p_ar {h : Hs} {t : Tg} {u : Nat} (hr : p_Rep g h) (hk : eKd g.1 t = u + 1) (hu : u < 10) : ar u (some (eAd g.1 t)) h = some (eAd g.1 t, u, (eLn g.1 t, if u = 2 then .inr (.inl (eLg g.1 t)) else if u = 4 then .inr (.inr (.inr (.inr (fun i => (eRf g.1 t i).map (eAd g.1))))) else .inl (p_iv g t))) := by
  have h1 := hr.2.1 t (by rw [hk]; omega)
  have h2 : p_ce g t = .inr (u, (eLn g.1 t, if u = 2 then .inr (.inl (eLg g.1 t)) else if u = 4 then .inr (.inr (.inr (.inr (fun i => (eRf g.1 t i).map (eAd g.1))))) else .inl (p_iv g t))) := by
    unfold p_ce
    rw [if_neg (by rw [hk]; omega), hk, Nat.add_sub_cancel]
    by_cases e2 : u = 2
    · subst e2; rfl
    · rw [if_neg (show ¬ u + 1 = 3 by omega), if_neg e2]
      by_cases e4 : u = 4
      · subst e4; rfl
      · rw [if_neg (show ¬ u + 1 = 5 by omega), if_neg e4]
  rw [h2] at h1
  unfold ar
  simp only [h1, if_pos (Nat.mod_eq_of_lt hu)]
theorem wp_aI {t : Tg} {u : Nat} {i : Int32} {K : Int32 → Mo α} (hk : eKd g.1 t = u + 1) (hu : u = 0 ∨ u = 1 ∨ u = 3) (h0 : ¬ i < 0) (hn : i.toNatClampNeg < eLn g.1 t) (kk : Wp (K (p_iv g t i.toNatClampNeg)) g Q) : Wp (mb (aI u (some (eAd g.1 t)) i) K) g Q := by
  refine wp_mb fun h hr => ⟨p_iv g t i.toNatClampNeg, h, 0, 0, g, ?_, hr, rfl, rfl, kk⟩
  unfold aI
  rw [p_ar hr hk (by omega), if_neg (by omega), if_neg (by omega)]
  dsimp only
  rw [if_neg (fun e => e.elim h0 (fun e => Nat.not_le.mpr hn e))]
theorem wp_aL {t : Tg} {i : Int32} {K : Int64 → Mo α} (hk : eKd g.1 t = 3) (h0 : ¬ i < 0) (hn : i.toNatClampNeg < eLn g.1 t) (kk : Wp (K (eLg g.1 t i.toNatClampNeg)) g Q) : Wp (mb (aL (some (eAd g.1 t)) i) K) g Q := by
  refine wp_mb fun h hr => ⟨eLg g.1 t i.toNatClampNeg, h, 0, 0, g, ?_, hr, rfl, rfl, kk⟩
  unfold aL
  rw [p_ar (u := 2) hr hk (by omega), if_pos rfl]
  dsimp only
  rw [if_neg (fun e => e.elim h0 (fun e => Nat.not_le.mpr hn e))]
theorem wp_aR {t : Tg} {i : Int32} {K : Option Nat → Mo α} (hk : eKd g.1 t = 5) (h0 : ¬ i < 0) (hn : i.toNatClampNeg < eLn g.1 t) (kk : Wp (K ((eRf g.1 t i.toNatClampNeg).map (eAd g.1))) g Q) : Wp (mb (aR (some (eAd g.1 t)) i) K) g Q := by
  refine wp_mb fun h hr => ⟨(eRf g.1 t i.toNatClampNeg).map (eAd g.1), h, 0, 0, g, ?_, hr, rfl, rfl, kk⟩
  unfold aR
  rw [p_ar (u := 4) hr hk (by omega), if_neg (by omega), if_pos rfl]
  dsimp only
  rw [if_neg (fun e => e.elim h0 (fun e => Nat.not_le.mpr hn e))]
theorem wp_aN {t : Tg} {u : Nat} {K : Int32 → Mo α} (hk : eKd g.1 t = u + 1) (hu : u < 10) (kk : Wp (K (Int32.ofNat (eLn g.1 t))) g Q) : Wp (mb (aN u (some (eAd g.1 t))) K) g Q := by
  refine wp_mb fun h hr => ⟨Int32.ofNat (eLn g.1 t), h, 0, 0, g, ?_, hr, rfl, rfl, kk⟩
  unfold aN
  rw [p_ar hr hk hu]
theorem wp_aNq {Z : Nat → Nat} {t : Tg} {K : Int32 → Mo α} (hz : eAd g.1 (0, 0, 0) = Z 0) (hk : eKd g.1 t = 5) (kk : Wp (K (Int32.ofNat (eLn g.1 t))) g Q) : Wp (mb (aNq Z (some (eAd g.1 t))) K) g Q := by
  refine wp_mb fun h hr => ⟨Int32.ofNat (eLn g.1 t), h, 0, 0, g, ?_, hr, rfl, rfl, kk⟩
  have hne : ¬ (some (eAd g.1 t) = some (Z 0)) := fun e => by
    have h9 := hr.2.2.2.2.2.2.1 t (by rw [hk]; omega)
    rw [hz, Option.some.inj e] at h9
    exact Nat.lt_irrefl _ h9
  unfold aNq aN
  rw [if_neg hne, p_ar (u := 4) hr hk (by omega)]
theorem wp_aNz {Z : Nat → Nat} {K : Int32 → Mo α} (kk : Wp (K 0) g Q) : Wp (mb (aNq Z (some (Z 0))) K) g Q := by
  refine wp_mb fun h hr => ⟨0, h, 0, 0, g, ?_, hr, rfl, rfl, kk⟩
  unfold aNq
  rw [if_pos rfl]
theorem p_stoW {t : Tg} {u : Nat} {g' : Gh} {h : Hs} (r : p_Rep g h) (hk : eKd g.1 t = u + 1) (hu : u < 10) (hA : eAd g'.1 = eAd g.1) (hK : eKd g'.1 = eKd g.1) (hH : eHz g'.1 = eHz g.1) (hL : eLn g'.1 = eLn g.1) (hi : ∀ w j, w ≠ t → p_iv g' w j = p_iv g w j) (hr : ∀ w j, w ≠ t → eRf g'.1 w j = eRf g.1 w j) (hg : ∀ w j, w ≠ t → eLg g'.1 w j = eLg g.1 w j) (hcl : ∀ k w, eRf g'.1 t k = some w → eKd g.1 w ≠ 0 ∨ w = (0, 0, 0)) : p_Rep g' (va_up h.1 (eAd g.1 t) (some (.inr (u, (eLn g.1 t, if u = 2 then .inr (.inl (eLg g'.1 t)) else if u = 4 then .inr (.inr (.inr (.inr (fun i => (eRf g'.1 t i).map (eAd g'.1))))) else .inl (p_iv g' t))))), h.2) := by
  have h1 := r.su (g' := g') (t := t) (by rw [hk]; omega) hA hK hH hL hi hr hg hcl
  have h2 : p_ce g' t = .inr (u, (eLn g.1 t, if u = 2 then .inr (.inl (eLg g'.1 t)) else if u = 4 then .inr (.inr (.inr (.inr (fun i => (eRf g'.1 t i).map (eAd g'.1))))) else .inl (p_iv g' t))) := by
    unfold p_ce
    rw [hK, hL, if_neg (by rw [hk]; omega), hk, Nat.add_sub_cancel]
    by_cases e2 : u = 2
    · subst e2; rfl
    · rw [if_neg (show ¬ u + 1 = 3 by omega), if_neg e2]
      by_cases e4 : u = 4
      · subst e4; rfl
      · rw [if_neg (show ¬ u + 1 = 5 by omega), if_neg e4]
  rw [h2] at h1
  exact h1
theorem p_sIW {t : Tg} {u : Nat} {i x : Int32} {g' : Gh} {K : Unit → Mo α} (hk : eKd g.1 t = u + 1) (hu : u = 0 ∨ u = 1 ∨ u = 3) (h0 : ¬ i < 0) (hn : i.toNatClampNeg < eLn g.1 t) (hE : g'.1 = g.1) (hi : ∀ w j, ¬ (w = t ∧ j = i.toNatClampNeg) → p_iv g' w j = p_iv g w j) (hv : p_iv g' t i.toNatClampNeg = kp u x) (kk : Wp (K ()) g' Q) : Wp (mb (sI u (some (eAd g.1 t)) i x) K) g Q := by
  refine wp_mb fun h r => ?_
  have h1 := p_stoW (g' := g') r hk (by omega) (by rw [hE]) (by rw [hE]) (by rw [hE]) (by rw [hE]) (fun w j hw => hi w j (fun e => hw e.1)) (fun w j hw => by rw [hE]) (fun w j hw => by rw [hE]) (fun k w hw => by rw [hE] at hw; exact r.2.2.2.2.1 t k w (by rw [hk]; omega) hw)
  refine ⟨(), _, 0, 0, g', ?_, h1, by rw [hE]; rfl, by rw [hE]; rfl, kk⟩
  unfold sI
  rw [p_ar r hk (by omega), if_neg (by omega), if_neg (by omega)]
  dsimp only
  rw [if_neg (fun e => e.elim h0 (fun e => e.elim (fun e => Nat.not_le.mpr hn e) (fun e => e rfl)))]
  rw [if_neg (show ¬ u = 2 by omega), if_neg (show ¬ u = 4 by omega)]
  have e : upd (p_iv g t) i.toNatClampNeg (kp u x) = p_iv g' t := by
    funext j
    unfold upd
    by_cases hj : j = i.toNatClampNeg
    · rw [if_pos hj, hj, hv]
    · rw [if_neg hj, hi t j (fun e => hj e.2)]
  rw [e]
theorem wp_sI {E : Es} {D : Nat → Nat → Int32} {I : Tg → Nat → Int32} {t : Tg} {u : Nat} {i x : Int32} {K : Unit → Mo α} (h1 : t.1 ≠ 1) (hk : eKd E t = u + 1) (hu : u = 0 ∨ u = 1 ∨ u = 3) (h0 : ¬ i < 0) (hn : i.toNatClampNeg < eLn E t) (kk : Wp (K ()) (E, D, us I t i.toNatClampNeg (kp u x)) Q) : Wp (mb (sI u (some (eAd E t)) i x) K) (E, D, I) Q :=
  p_sIW (g := (E, D, I)) (g' := (E, D, us I t i.toNatClampNeg (kp u x))) hk hu h0 hn rfl (fun w j h => p_iv_us h) (by rw [p_iv_c h1, us_eq]) kk
theorem wp_sL {E : Es} {D : Nat → Nat → Int32} {I : Tg → Nat → Int32} {t : Tg} {i : Int32} {x : Int64} {K : Unit → Mo α} (hk : eKd E t = 3) (h0 : ¬ i < 0) (hn : i.toNatClampNeg < eLn E t) (kk : Wp (K ()) (eG E t i.toNatClampNeg x, D, I) Q) : Wp (mb (sL (some (eAd E t)) i x) K) (E, D, I) Q := by
  refine wp_mb fun h r => ?_
  have h1 := p_stoW (g := (E, D, I)) (g' := (eG E t i.toNatClampNeg x, D, I)) (u := 2) r hk (by omega) rfl rfl rfl rfl (fun w j hw => rfl) (fun w j hw => rfl) (fun w j hw => eG_ne (fun e => hw e.1)) (fun k w hw => r.2.2.2.2.1 t k w (by rw [hk]; omega) hw)
  refine ⟨(), _, 0, 0, (eG E t i.toNatClampNeg x, D, I), ?_, h1, rfl, rfl, kk⟩
  unfold sL
  rw [p_ar (g := (E, D, I)) (u := 2) r hk (by omega), if_pos rfl]
  dsimp only
  rw [if_neg (fun e => e.elim h0 (fun e => e.elim (fun e => Nat.not_le.mpr hn e) (fun e => e rfl))), if_pos rfl]
  have e : vp_updL (eLg E t) i.toNatClampNeg x = eLg (eG E t i.toNatClampNeg x) t := by
    funext j
    unfold vp_updL
    by_cases hj : j = i.toNatClampNeg
    · rw [if_pos hj, hj, eG_eq]
    · rw [if_neg hj, eG_ne (fun e => hj e.2)]
  rw [e]
theorem wp_sR {E : Es} {D : Nat → Nat → Int32} {I : Tg → Nat → Int32} {t v : Tg} {ci : Nat} {i : Int32} {K : Unit → Mo α} (hk : eKd E t = 5) (h0 : ¬ i < 0) (hn : i.toNatClampNeg < eLn E t) (hv : eKd E v = 100 + ci) (kk : Wp (K ()) (eR E t i.toNatClampNeg (some v), D, I) Q) : Wp (mb (sR (some (eAd E t)) i (some (eAd E v))) K) (E, D, I) Q := by
  refine wp_mb fun h r => ?_
  have h1 := p_stoW (g := (E, D, I)) (g' := (eR E t i.toNatClampNeg (some v), D, I)) (u := 4) r hk (by omega) rfl rfl rfl rfl (fun w j hw => rfl) (fun w j hw => eR_ne (fun e => hw e.1)) (fun w j hw => rfl) (fun k w hw => by
    by_cases hj : k = i.toNatClampNeg
    · subst hj
      rw [eR_eq] at hw
      cases hw
      exact .inl (by show eKd E v ≠ 0; rw [hv]; omega)
    · rw [eR_ne (fun e => hj e.2)] at hw
      exact r.2.2.2.2.1 t k w (by rw [hk]; omega) hw)
  refine ⟨(), _, 0, 0, (eR E t i.toNatClampNeg (some v), D, I), ?_, h1, rfl, rfl, kk⟩
  have ho := p_ob (g := (E, D, I)) r hv
  have ho2 : ∃ o, h.1 (eAd E v) = some (.inl o) := by
    have h2 := r.2.1 v (by rw [hv]; omega)
    unfold p_ce at h2
    rw [if_pos (by rw [hv]; omega)] at h2
    exact ⟨_, h2⟩
  obtain ⟨o, ho2⟩ := ho2
  unfold sR
  rw [p_ar (g := (E, D, I)) (u := 4) r hk (by omega), if_neg (by omega), if_pos rfl]
  dsimp only
  rw [if_neg (fun e => e.elim h0 (fun e => e.elim (fun e => Nat.not_le.mpr hn e) (fun e => e rfl))), if_neg (show ¬ (4 : Nat) = 2 by omega), if_pos (show (4 : Nat) = 4 from rfl)]
  simp only [ho2]
  have e : va_up (fun i => (eRf E t i).map (eAd E)) i.toNatClampNeg (some (eAd E v)) = (fun j => (eRf (eR E t i.toNatClampNeg (some v)) t j).map (eAd (eR E t i.toNatClampNeg (some v)))) := by
    funext j
    unfold va_up
    by_cases hj : j = i.toNatClampNeg
    · rw [if_pos hj, hj, eR_eq]; rfl
    · rw [if_neg hj, eR_ne (fun e => hj e.2)]; rfl
  rw [e]
theorem wp_sRn {E : Es} {D : Nat → Nat → Int32} {I : Tg → Nat → Int32} {t : Tg} {i : Int32} {K : Unit → Mo α} (hk : eKd E t = 5) (h0 : ¬ i < 0) (hn : i.toNatClampNeg < eLn E t) (kk : Wp (K ()) (eR E t i.toNatClampNeg none, D, I) Q) : Wp (mb (sR (some (eAd E t)) i none) K) (E, D, I) Q := by
  refine wp_mb fun h r => ?_
  have h1 := p_stoW (g := (E, D, I)) (g' := (eR E t i.toNatClampNeg none, D, I)) (u := 4) r hk (by omega) rfl rfl rfl rfl (fun w j hw => rfl) (fun w j hw => eR_ne (fun e => hw e.1)) (fun w j hw => rfl) (fun k w hw => by
    by_cases hj : k = i.toNatClampNeg
    · subst hj
      rw [eR_eq] at hw
      cases hw
    · rw [eR_ne (fun e => hj e.2)] at hw
      exact r.2.2.2.2.1 t k w (by rw [hk]; omega) hw)
  refine ⟨(), _, 0, 0, (eR E t i.toNatClampNeg none, D, I), ?_, h1, rfl, rfl, kk⟩
  unfold sR
  rw [p_ar (g := (E, D, I)) (u := 4) r hk (by omega), if_neg (by omega), if_pos rfl]
  dsimp only
  rw [if_neg (fun e => e.elim h0 (fun e => e.elim (fun e => Nat.not_le.mpr hn e) (fun e => e rfl))), if_neg (show ¬ (4 : Nat) = 2 by omega), if_pos (show (4 : Nat) = 4 from rfl)]
  have e : va_up (fun i => (eRf E t i).map (eAd E)) i.toNatClampNeg none = (fun j => (eRf (eR E t i.toNatClampNeg none) t j).map (eAd (eR E t i.toNatClampNeg none))) := by
    funext j
    unfold va_up
    by_cases hj : j = i.toNatClampNeg
    · rw [if_pos hj, hj, eR_eq]; rfl
    · rw [if_neg hj, eR_ne (fun e => hj e.2)]; rfl
  rw [e]
/-- new cells -/
theorem wp_nO {E : Es} {D : Nat → Nat → Int32} {I : Tg → Nat → Int32} (t : Tg) {ci : Nat} {fs : List Value} {K : Option Nat → Mo α} (h1 : t.1 ≠ 1) (ht : eKd E t = 0) (ht0 : t ≠ (0, 0, 0)) (hfs : fs = (p_ty ci).map (fun ty => if ty = 0 then .int 0 else if ty = 1 then .null else .long 0)) (kk : Wp (K (some (eAd (eNew E t (100 + ci) 0 fs.length) t))) (eNew E t (100 + ci) 0 fs.length, D, uI I t (fun _ => 0)) Q) : Wp (mb (nO ci fs) K) (E, D, I) Q := by
  refine wp_mb fun h r => ?_
  have hv : ∀ u k, u ≠ t → p_iv (eNew E t (100 + ci) 0 fs.length, D, uI I t (fun _ => 0)) u k = p_iv (E, D, I) u k := fun u k hu => by
    unfold p_iv uI
    simp only [if_neg hu]
    rfl
  have h2 := r.sn (g' := (eNew E t (100 + ci) 0 fs.length, D, uI I t (fun _ => 0))) (t := t) ht ht0 rfl (by omega) hv
  have ha : eAd (eNew E t (100 + ci) 0 fs.length) t = h.2 := by rw [r.1]; exact if_pos rfl
  refine ⟨some (eAd (eNew E t (100 + ci) 0 fs.length) t), _, 1, fs.length, _, ?_, h2, rfl, rfl, kk⟩
  have hce : p_ce (eNew E t (100 + ci) 0 fs.length, D, uI I t (fun _ => 0)) t = .inl (ci, fs) := by
    have hkd : eKd (eNew E t (100 + ci) 0 fs.length) t = 100 + ci := if_pos rfl
    unfold p_ce
    show (if 100 ≤ eKd (eNew E t (100 + ci) 0 fs.length) t then _ else _) = _
    rw [hkd, if_pos (by omega), Nat.add_sub_cancel_left]
    have : p_fs (p_fv (eNew E t (100 + ci) 0 fs.length, D, uI I t (fun _ => 0)) t) 0 (p_ty ci) = fs := by
      refine List.ext_getElem? fun j => ?_
      rw [p_fs_get, Nat.zero_add]
      rw [show fs[j]? = ((p_ty ci).map (fun ty => if ty = 0 then Value.int 0 else if ty = 1 then .null else .long 0))[j]? by rw [← hfs]]
      rw [List.getElem?_map]
      congr 1
      funext ty
      unfold p_fv
      have e1 : p_iv (eNew E t (100 + ci) 0 fs.length, D, uI I t (fun _ => 0)) t j = 0 := by
        rw [p_iv_c h1]
        exact if_pos rfl
      have e2 : eRf (eNew E t (100 + ci) 0 fs.length) t j = none := if_pos rfl
      have e3 : eLg (eNew E t (100 + ci) 0 fs.length) t j = 0 := if_pos rfl
      rw [e1]
      show (if ty = 0 then _ else if ty = 1 then va_rf ((eRf (eNew E t (100 + ci) 0 fs.length) t j).map _) else Value.long (eLg (eNew E t (100 + ci) 0 fs.length) t j)) = _
      rw [e2, e3]
      rfl
    rw [this]
  unfold nO
  rw [ha, hce]
theorem wp_nA {E : Es} {D : Nat → Nat → Int32} {I : Tg → Nat → Int32} (t : Tg) {u : Nat} {i : Int32} {K : Option Nat → Mo α} (h1 : t.1 ≠ 1) (ht : eKd E t = 0) (ht0 : t ≠ (0, 0, 0)) (hu : u < 10) (h0 : ¬ i < 0) (hn : i.toNatClampNeg ≤ 1000000) (kk : Wp (K (some (eAd (eNew E t (u + 1) i.toNatClampNeg i.toNatClampNeg) t))) (eNew E t (u + 1) i.toNatClampNeg i.toNatClampNeg, D, uI I t (fun _ => 0)) Q) : Wp (mb (nA u i) K) (E, D, I) Q := by
  refine wp_mb fun h r => ?_
  have hv : ∀ w k, w ≠ t → p_iv (eNew E t (u + 1) i.toNatClampNeg i.toNatClampNeg, D, uI I t (fun _ => 0)) w k = p_iv (E, D, I) w k := fun w k hw => by
    unfold p_iv uI
    simp only [if_neg hw]
    rfl
  have h2 := r.sn (g' := (eNew E t (u + 1) i.toNatClampNeg i.toNatClampNeg, D, uI I t (fun _ => 0))) (t := t) ht ht0 rfl (by omega) hv
  have ha : eAd (eNew E t (u + 1) i.toNatClampNeg i.toNatClampNeg) t = h.2 := by rw [r.1]; exact if_pos rfl
  refine ⟨some (eAd (eNew E t (u + 1) i.toNatClampNeg i.toNatClampNeg) t), _, 1, i.toNatClampNeg, _, ?_, h2, rfl, rfl, kk⟩
  have hce : p_ce (eNew E t (u + 1) i.toNatClampNeg i.toNatClampNeg, D, uI I t (fun _ => 0)) t = .inr (u, (i.toNatClampNeg, z0 u)) := by
    have hkd : eKd (eNew E t (u + 1) i.toNatClampNeg i.toNatClampNeg) t = u + 1 := if_pos rfl
    have hln : eLn (eNew E t (u + 1) i.toNatClampNeg i.toNatClampNeg) t = i.toNatClampNeg := if_pos rfl
    have e1 : p_iv (eNew E t (u + 1) i.toNatClampNeg i.toNatClampNeg, D, uI I t (fun _ => 0)) t = fun _ => 0 := by
      funext j
      rw [p_iv_c h1]
      exact if_pos rfl
    have e2 : (fun j => (eRf (eNew E t (u + 1) i.toNatClampNeg i.toNatClampNeg) t j).map (eAd (eNew E t (u + 1) i.toNatClampNeg i.toNatClampNeg))) = fun _ => none := by
      funext j
      rw [show eRf (eNew E t (u + 1) i.toNatClampNeg i.toNatClampNeg) t j = none from if_pos rfl]
      rfl
    have e3 : eLg (eNew E t (u + 1) i.toNatClampNeg i.toNatClampNeg) t = fun _ => 0 := funext fun j => if_pos rfl
    unfold p_ce
    show (if 100 ≤ eKd (eNew E t (u + 1) i.toNatClampNeg i.toNatClampNeg) t then _ else Sum.inr (eKd (eNew E t (u + 1) i.toNatClampNeg i.toNatClampNeg) t - 1, eLn (eNew E t (u + 1) i.toNatClampNeg i.toNatClampNeg) t, if eKd (eNew E t (u + 1) i.toNatClampNeg i.toNatClampNeg) t = 3 then _ else if eKd (eNew E t (u + 1) i.toNatClampNeg i.toNatClampNeg) t = 5 then _ else _)) = _
    rw [e1, e2, e3, hkd, hln, if_neg (by omega), Nat.add_sub_cancel]
    unfold z0
    by_cases c2 : u = 2
    · subst c2; rfl
    · rw [if_neg (show ¬ u + 1 = 3 by omega), if_neg c2]
      by_cases c4 : u = 4
      · subst c4; rfl
      · rw [if_neg (show ¬ u + 1 = 5 by omega), if_neg c4]
  unfold nA
  rw [if_neg (fun e => e.elim h0 (fun e => Nat.not_lt.mpr hn e)), ha, hce]
theorem wp_rz {v : Int32} {P : Int32 → Gh → Prop} (hv : v = 0 ∨ v = 1) (k : P v g) : Wp (rz .boolean v) g P := by
  rcases hv with rfl | rfl <;> (unfold rz; rw [if_pos (by decide)]; exact wp_mp k)
theorem wp_rzX {v : Int32} {P : (Int32 ⊕ String) → Gh → Prop} (hv : v = 0 ∨ v = 1) (k : P (.inl v) g) : Wp (rzX .boolean v) g P := by
  rcases hv with rfl | rfl <;> (unfold rzX; rw [if_pos (by decide)]; exact wp_mp k)
/-- throws -/
theorem wp_mt {X : String} {E : Es} {B : (Nat → Nat → Int32) × (Tg → Nat → Int32)} {P : (β ⊕ String) → Gh → Prop} (k : P (.inr X) (eXc E 1 6, B)) : Wp (mt X) (E, B) P := fun h hr => ⟨.inr X, h, 1, 6, (eXc E 1 6, B), rfl, hr, rfl, rfl, k⟩
theorem wp_mx {γ : Type} {x : Mo (β ⊕ String)} {K : β → Mo (γ ⊕ String)} {P : (γ ⊕ String) → Gh → Prop} (k : Wp x g (fun r g' => match r with
  | .inl b => Wp (K b) g' P
  | .inr E => P (.inr E) g')) : Wp (mx x K) g P := by
  unfold mx
  refine wp_mbE k (fun r g' h => ?_)
  cases r with
  | inl b => exact h
  | inr E => exact fun hh hr => ⟨.inr E, hh, 0, 0, g', rfl, hr, rfl, rfl, h⟩
end WP
