/-! ===== the start: the model's own ===== -/
def mNm (j : Nat) : Tg := (1, j, if j = 21 then 256 else 0)
def mL9 (j : Nat) : Nat := if j = 21 then 256 else mLn j
def MB (E : Es) (am : Nat) (l : List Nat) : Prop := eAd E (1, 0, 0) = am ∧ eKd E (1, 0, 0) = 115 ∧ eCu E = 256 ∧ (∀ j ∈ l, eRf E (1, 0, 0) j = some (mNm j) ∧ eKd E (mNm j) = mKd j ∧ eLn E (mNm j) = mL9 j) ∧ ∀ j c, j ≠ 0 → (j ∉ l ∨ (1, j, c) ≠ mNm j) → eKd E (1, j, c) = 0
section SG
variable {α : Type} {E : Es} {I : Tg → Nat → Int32} {D : Nat → Nat → Int32} {Q : α → Gh → Prop} {am : Nat}
theorem wp_nAm (t : Tg) {u n : Nat} {i : Int32} {K : Option Nat → Mo α} (h1 : p_im (eCu E) t) (hD : ∀ k, D t.2.1 k = 0) (ht : eKd E t = 0) (ht0 : t ≠ (0, 0, 0)) (hu : u < 10) (hi : i = nI n) (hn : n ≤ 1000000) (kk : Wp (K (some (eAd (eNew E t (u + 1) n n) t))) (eNew E t (u + 1) n n, D, I) Q) : Wp (mb (nA u i) K) (E, D, I) Q := by
  subst hi
  have en : (nI n).toNatClampNeg = n := nI_clamp (by omega)
  refine wp_mb fun h r => ?_
  have hv : ∀ w k, w ≠ t → p_iv (eNew E t (u + 1) n n, D, I) w k = p_iv (E, D, I) w k := fun w k hw => rfl
  have h2 := r.sn (g' := (eNew E t (u + 1) n n, D, I)) (t := t) ht ht0 rfl (by omega) hv
  have ha : eAd (eNew E t (u + 1) n n) t = h.2 := by rw [r.1]; exact if_pos rfl
  refine ⟨some (eAd (eNew E t (u + 1) n n) t), _, 1, n, _, ?_, h2, rfl, rfl, kk⟩
  have hce : p_ce (eNew E t (u + 1) n n, D, I) t = .inr (u, (n, z0 u)) := by
    have hkd : eKd (eNew E t (u + 1) n n) t = u + 1 := if_pos rfl
    have hln : eLn (eNew E t (u + 1) n n) t = n := if_pos rfl
    have e1 : p_iv (eNew E t (u + 1) n n, D, I) t = fun _ => 0 := by
      funext j
      exact (if_pos h1).trans (hD j)
    have e2 : (fun j => (eRf (eNew E t (u + 1) n n) t j).map (eAd (eNew E t (u + 1) n n))) = fun _ => none := by
      funext j
      rw [show eRf (eNew E t (u + 1) n n) t j = none from if_pos rfl]
      rfl
    have e3 : eLg (eNew E t (u + 1) n n) t = fun _ => 0 := funext fun j => if_pos rfl
    unfold p_ce
    show (if 100 ≤ eKd (eNew E t (u + 1) n n) t then _ else Sum.inr (eKd (eNew E t (u + 1) n n) t - 1, eLn (eNew E t (u + 1) n n) t, if eKd (eNew E t (u + 1) n n) t = 3 then _ else if eKd (eNew E t (u + 1) n n) t = 5 then _ else _)) = _
    rw [e1, e2, e3, hkd, hln, if_neg (by omega), Nat.add_sub_cancel]
    unfold z0
    by_cases c2 : u = 2
    · subst c2; rfl
    · rw [if_neg (show ¬ u + 1 = 3 by omega), if_neg c2]
      by_cases c4 : u = 4
      · subst c4; rfl
      · rw [if_neg (show ¬ u + 1 = 5 by omega), if_neg c4]
  unfold nA
  rw [if_neg (fun e => e.elim (nI_pos (by omega)) (fun e => Nat.not_lt.mpr (by rw [en]; exact hn) e)), ha, hce, en]
theorem wp_nOm {fs : List Value} {K : Option Nat → Mo α} (hD : ∀ k, D 0 k = 0) (ht : eKd E (1, 0, 0) = 0) (hfs : fs = (p_ty 15).map (fun ty => if ty = 0 then .int 0 else if ty = 1 then .null else .long 0)) (kk : Wp (K (some (eAd (eNew E (1, 0, 0) 115 0 fs.length) (1, 0, 0)))) (eNew E (1, 0, 0) 115 0 fs.length, D, I) Q) : Wp (mb (nO 15 fs) K) (E, D, I) Q := by
  refine wp_mb fun h r => ?_
  have hv : ∀ w k, w ≠ (1, 0, 0) → p_iv (eNew E (1, 0, 0) 115 0 fs.length, D, I) w k = p_iv (E, D, I) w k := fun w k hw => rfl
  have h2 := r.sn (g' := (eNew E (1, 0, 0) 115 0 fs.length, D, I)) (t := (1, 0, 0)) ht (by simp) rfl (by omega) hv
  have ha : eAd (eNew E (1, 0, 0) 115 0 fs.length) (1, 0, 0) = h.2 := by rw [r.1]; exact rfl
  refine ⟨some (eAd (eNew E (1, 0, 0) 115 0 fs.length) (1, 0, 0)), _, 1, fs.length, _, ?_, h2, rfl, rfl, kk⟩
  have hce : p_ce (eNew E (1, 0, 0) 115 0 fs.length, D, I) (1, 0, 0) = .inl (15, fs) := by
    have hkd : eKd (eNew E (1, 0, 0) 115 0 fs.length) (1, 0, 0) = 100 + 15 := rfl
    unfold p_ce
    show (if 100 ≤ eKd (eNew E (1, 0, 0) 115 0 fs.length) (1, 0, 0) then _ else _) = _
    rw [if_pos (by rw [hkd]; omega), show eKd (eNew E (1, 0, 0) 115 0 fs.length) (1, 0, 0) - 100 = 15 by rw [hkd]]
    have : p_fs (p_fv (eNew E (1, 0, 0) 115 0 fs.length, D, I) (1, 0, 0)) 0 (p_ty 15) = fs := by
      rw [hfs]
      refine List.ext_getElem? (fun j => ?_)
      rw [p_fs_get, List.getElem?_map, Nat.zero_add]
      congr 1
      funext ty
      have e1 : p_iv (eNew E (1, 0, 0) 115 0 fs.length, D, I) (1, 0, 0) j = 0 := (if_pos ⟨rfl, .inl ⟨by simp, rfl⟩⟩).trans (hD j)
      have e2 : eRf (eNew E (1, 0, 0) 115 0 fs.length) (1, 0, 0) j = none := rfl
      have e3 : eLg (eNew E (1, 0, 0) 115 0 fs.length) (1, 0, 0) j = 0 := rfl
      rw [hfs] at e1 e2 e3
      unfold p_fv
      show (if ty = 0 then Value.int (p_iv _ _ j) else if ty = 1 then va_rf ((eRf _ (1, 0, 0) j).map _) else Value.long (eLg _ (1, 0, 0) j)) = _
      rw [e1, e2, e3]
      rfl
    rw [this]
  unfold nO
  rw [ha, hce]
theorem wm_P0 {k : Nat} {v : Int32} {K : Unit → Mo α} (ha : eAd E (1, 0, 0) = am) (hk : eKd E (1, 0, 0) = 115) (hty : (p_ty 15)[k]? = some 0) (kk : Wp (K ()) (E, ds D 0 k v, I) Q) : Wp (mb (pV 15 k (some am) (.int v)) K) (E, D, I) Q := by
  subst ha
  refine p_putW (g := (E, D, I)) (g' := (E, ds D 0 k v, I)) (t := (1, 0, 0)) hk hty (by omega) rfl rfl rfl rfl (fun u j h => p_iv_ds (t := (1, 0, 0)) (p_im_m (by omega)) h) (fun _ _ _ => rfl) (fun _ _ _ => rfl) (fun u hu => .inl hu) ?_ rfl rfl kk
  show Value.int (p_iv (E, ds D 0 k v, I) (1, 0, 0) k) = _
  rw [p_iv_i (p_im_m (by omega))]
  show Value.int (ds D 0 k v 0 k) = _
  rw [ds_eq]
theorem m_row {j u n : Nat} {i : Int32} {K : Mo α} {l : List Nat} (hj : j ∉ l) (hj0 : j ≠ 0) (hB : MB E am l) (hK : mKd j = u + 1) (hL : mL9 j = n) (hi : i = nI n) (hty : (p_ty 15)[j]? = some 1) (hD : ∀ k, D j k = 0) (kk : ∀ E1, MB E1 am (j :: l) → (∀ a, Nat.beq a 1 = false → SamT a E I E1 I) → eMc E1 = eMc E + 1 → eMs E1 = eMs E + n → Wp K (E1, D, I) Q) (hu : u < 10 := by decide) (hn : n ≤ 1000000 := by decide) : Wp (mb (nA u i) (fun v => mb (pV 15 j (some am) (va_rf v)) (fun _ => K))) (E, D, I) Q := by
  obtain ⟨b1, b2, b3, b4, b5⟩ := hB
  have hne : ((1, 0, 0) : Tg) ≠ mNm j := fun e => hj0 (congrArg (fun t : Tg => t.2.1) e).symm
  have him : p_im (eCu E) (mNm j) := by
    refine ⟨rfl, ?_⟩
    rw [b3]
    by_cases e : j = 21
    · exact .inr ⟨e, if_pos e⟩
    · exact .inl ⟨e, if_neg e⟩
  refine wp_nAm (mNm j) him hD (b5 j _ hj0 (.inl hj)) (fun e => absurd (show (1 : Nat) = 0 from congrArg (fun t : Tg => t.1) e) (by decide)) hu hi hn ?_
  have g1 : eAd (eNew E (mNm j) (u + 1) n n) (1, 0, 0) = am := (if_neg hne).trans b1
  have g2 : eKd (eNew E (mNm j) (u + 1) n n) (1, 0, 0) = 115 := (if_neg hne).trans b2
  have g3 : eKd (eNew E (mNm j) (u + 1) n n) (mNm j) = u + 1 := if_pos rfl
  refine wc_PR (t := (1, 0, 0)) (u := mNm j) g1 rfl g2 hty rfl (.inl (by rw [g3]; omega)) ?_
  refine kk _ ⟨g1, g2, b3, fun j' hj' => ?_, fun j' c h0 h1 => ?_⟩ (fun a ha b c => ?_) rfl rfl
  · rcases List.mem_cons.mp hj' with e | e
    · subst e
      exact ⟨eR_eq, g3.trans hK.symm, (if_pos rfl).trans hL.symm⟩
    · have hjj : j' ≠ j := fun q => hj (q ▸ e)
      have hm : mNm j' ≠ mNm j := fun q => hjj (congrArg (fun t : Tg => t.2.1) q)
      obtain ⟨q1, q2, q3⟩ := b4 j' e
      exact ⟨(eR_ne (fun q => hjj q.2)).trans ((if_neg hne).trans q1), (if_neg hm).trans q2, (if_neg hm).trans q3⟩
  · have hm : ((1, j', c) : Tg) ≠ mNm j := fun q => by
      have e : j' = j := congrArg (fun t : Tg => t.2.1) q
      subst e
      rcases h1 with h1 | h1
      · exact h1 (List.mem_cons_self ..)
      · exact h1 q
    refine (if_neg hm).trans (b5 j' c h0 ?_)
    rcases h1 with h1 | h1
    · exact .inl (fun q => h1 (List.mem_cons_of_mem _ q))
    · exact .inr h1
  · have hm : ((a, b, c) : Tg) ≠ mNm j := fun q => by
      have e : a = 1 := congrArg (fun t : Tg => t.1) q
      subst e; cases ha
    have h0 : ((a, b, c) : Tg) ≠ (1, 0, 0) := fun q => by
      have e : a = 1 := congrArg (fun t : Tg => t.1) q
      subst e; cases ha
    exact ⟨if_neg hm, if_neg hm, if_neg hm, fun k => (eR_ne (fun q => h0 q.1)).trans (if_neg hm), fun k => if_neg hm, fun _ => rfl⟩
end SG
theorem MB.mod {E : Es} {am : Nat} (h : MB E am [44, 40, 37, 35, 34, 33, 31, 30, 29, 28, 27, 26, 25, 24, 23, 21, 14, 13, 11, 10, 8, 6, 5, 4, 2, 1]) : ModS E am := by
  obtain ⟨b1, b2, b3, b4, b5⟩ := h
  have key : ∀ j, j < 47 → mKd j ≠ 0 → j ∈ [44, 40, 37, 35, 34, 33, 31, 30, 29, 28, 27, 26, 25, 24, 23, 21, 14, 13, 11, 10, 8, 6, 5, 4, 2, 1] := by decide
  refine ⟨b1, b2, fun j hj h21 => ?_, ?_, ?_, ?_, by rw [b3]; omega, fun c hc => ?_⟩
  · have hlt : j < 47 := Nat.lt_of_not_le (fun q => hj (by unfold mKd; rw [List.getD_eq_getElem?_getD, List.getElem?_eq_none (show 47 ≤ j from q)]; rfl))
    obtain ⟨q1, q2, q3⟩ := b4 j (key j hlt hj)
    have e : mNm j = (1, j, 0) := by unfold mNm; rw [if_neg h21]
    have e2 : mL9 j = mLn j := if_neg h21
    rw [e] at q1 q2 q3
    exact ⟨q1, q2, q3.trans e2⟩
  · rw [b3]
    exact (b4 21 (by decide)).1
  · rw [b3]
    exact (b4 21 (by decide)).2.1
  · rw [b3]
    exact (b4 21 (by decide)).2.2
  · rw [b3] at hc
    exact b5 21 c (by decide) (.inr (fun q => by
      have e : c = 256 := congrArg (fun t : Tg => t.2.2) q
      omega))
set_option maxRecDepth 100000 in
set_option maxHeartbeats 4000000 in
theorem m_init {E0 : Es} {I : Tg → Nat → Int32} {D : Nat → Nat → Int32} {am : Nat} {Q : Unit → Gh → Prop} (h0 : MB E0 am []) (hD : ∀ j k, D j k = 0) (kk : ∀ E1, ModS E1 am → (∀ a, Nat.beq a 1 = false → SamT a E0 I E1 I) → eCu E1 = 256 → eMc E1 = eMc E0 + 26 → eMs E1 = eMs E0 + 32492 → Q () (E1, ds (ds (ds D 0 19 (-1)) 1 0 (-1)) 0 3 1, I)) : Wp (f_X12_init (some am)) (E0, D, I) Q := by
  unfold f_X12_init
  refine wc_call (t := (1, 0, 0)) h0.1 h0.2.1 (wp_mp ?_)
  refine m_row (j := 1) (u := 1) (n := 60) (by decide) (by decide) h0 rfl rfl rfl rfl (fun k => hD 1 k) (fun E1 h1 s1 c1 n1 => ?_)
  refine m_row (j := 2) (u := 3) (n := 60) (by decide) (by decide) h1 rfl rfl rfl rfl (fun k => hD 2 k) (fun E2 h2 s2 c2 n2 => ?_)
  refine m_row (j := 4) (u := 1) (n := 60) (by decide) (by decide) h2 rfl rfl rfl rfl (fun k => hD 4 k) (fun E3 h3 s3 c3 n3 => ?_)
  refine m_row (j := 5) (u := 1) (n := 480) (by decide) (by decide) h3 rfl rfl rfl rfl (fun k => hD 5 k) (fun E4 h4 s4 c4 n4 => ?_)
  refine m_row (j := 6) (u := 1) (n := 60) (by decide) (by decide) h4 rfl rfl rfl rfl (fun k => hD 6 k) (fun E5 h5 s5 c5 n5 => ?_)
  refine m_row (j := 8) (u := 1) (n := 20) (by decide) (by decide) h5 rfl rfl rfl rfl (fun k => hD 8 k) (fun E6 h6 s6 c6 n6 => ?_)
  refine m_row (j := 10) (u := 1) (n := 40) (by decide) (by decide) h6 rfl rfl rfl rfl (fun k => hD 10 k) (fun E7 h7 s7 c7 n7 => ?_)
  refine m_row (j := 11) (u := 1) (n := 480) (by decide) (by decide) h7 rfl rfl rfl rfl (fun k => hD 11 k) (fun E8 h8 s8 c8 n8 => ?_)
  refine m_row (j := 13) (u := 1) (n := 12) (by decide) (by decide) h8 rfl rfl rfl rfl (fun k => hD 13 k) (fun E9 h9 s9 c9 n9 => ?_)
  refine m_row (j := 14) (u := 0) (n := 200) (by decide) (by decide) h9 rfl rfl rfl rfl (fun k => hD 14 k) (fun E10 h10 s10 c10 n10 => ?_)
  refine wm_P0 h10.1 h10.2.1 rfl ?_
  have hD1 : ∀ j k, j ≠ 0 → ds D 0 19 (-1) j k = 0 := fun j k hj => by rw [ds_ne (fun q => hj q.1)]; exact hD j k
  refine m_row (j := 21) (u := 1) (n := 256) (by decide) (by decide) h10 rfl rfl rfl rfl (fun k => hD1 21 k (by decide)) (fun E11 h11 s11 c11 n11 => ?_)
  refine m_row (j := 23) (u := 3) (n := 64) (by decide) (by decide) h11 rfl rfl rfl rfl (fun k => hD1 23 k (by decide)) (fun E12 h12 s12 c12 n12 => ?_)
  refine m_row (j := 24) (u := 1) (n := 100) (by decide) (by decide) h12 rfl rfl rfl rfl (fun k => hD1 24 k (by decide)) (fun E13 h13 s13 c13 n13 => ?_)
  refine m_row (j := 25) (u := 1) (n := 100) (by decide) (by decide) h13 rfl rfl rfl rfl (fun k => hD1 25 k (by decide)) (fun E14 h14 s14 c14 n14 => ?_)
  refine m_row (j := 26) (u := 1) (n := 100) (by decide) (by decide) h14 rfl rfl rfl rfl (fun k => hD1 26 k (by decide)) (fun E15 h15 s15 c15 n15 => ?_)
  refine m_row (j := 27) (u := 3) (n := 100) (by decide) (by decide) h15 rfl rfl rfl rfl (fun k => hD1 27 k (by decide)) (fun E16 h16 s16 c16 n16 => ?_)
  refine m_row (j := 28) (u := 3) (n := 100) (by decide) (by decide) h16 rfl rfl rfl rfl (fun k => hD1 28 k (by decide)) (fun E17 h17 s17 c17 n17 => ?_)
  refine m_row (j := 29) (u := 1) (n := 100) (by decide) (by decide) h17 rfl rfl rfl rfl (fun k => hD1 29 k (by decide)) (fun E18 h18 s18 c18 n18 => ?_)
  refine m_row (j := 30) (u := 1) (n := 100) (by decide) (by decide) h18 rfl rfl rfl rfl (fun k => hD1 30 k (by decide)) (fun E19 h19 s19 c19 n19 => ?_)
  refine m_row (j := 31) (u := 1) (n := 100) (by decide) (by decide) h19 rfl rfl rfl rfl (fun k => hD1 31 k (by decide)) (fun E20 h20 s20 c20 n20 => ?_)
  refine m_row (j := 33) (u := 1) (n := 20) (by decide) (by decide) h20 rfl rfl rfl rfl (fun k => hD1 33 k (by decide)) (fun E21 h21 s21 c21 n21 => ?_)
  refine m_row (j := 34) (u := 1) (n := 60) (by decide) (by decide) h21 rfl rfl rfl rfl (fun k => hD1 34 k (by decide)) (fun E22 h22 s22 c22 n22 => ?_)
  refine m_row (j := 35) (u := 1) (n := 100) (by decide) (by decide) h22 rfl rfl rfl rfl (fun k => hD1 35 k (by decide)) (fun E23 h23 s23 c23 n23 => ?_)
  refine m_row (j := 37) (u := 1) (n := 100) (by decide) (by decide) h23 rfl rfl rfl rfl (fun k => hD1 37 k (by decide)) (fun E24 h24 s24 c24 n24 => ?_)
  refine m_row (j := 40) (u := 1) (n := 100) (by decide) (by decide) h24 rfl rfl rfl rfl (fun k => hD1 40 k (by decide)) (fun E25 h25 s25 c25 n25 => ?_)
  refine m_row (j := 44) (u := 1) (n := 29520) (by decide) (by decide) h25 rfl rfl rfl rfl (fun k => hD1 44 k (by decide)) (fun E26 h26 s26 c26 n26 => ?_)
  have hM := h26.mod
  refine wm_R hM (by decide) (by decide) rfl ?_
  refine wm_s hM 0 rfl (by decide) rfl (by decide) (.inr (.inl rfl)) (by omega) ?_
  refine wm_P hM rfl (wp_mp ?_)
  exact kk _ hM (fun a ha => (((((((((((((((((((((((((s1 a ha).tr (s2 a ha)).tr (s3 a ha)).tr (s4 a ha)).tr (s5 a ha)).tr (s6 a ha)).tr (s7 a ha)).tr (s8 a ha)).tr (s9 a ha)).tr (s10 a ha)).tr (s11 a ha)).tr (s12 a ha)).tr (s13 a ha)).tr (s14 a ha)).tr (s15 a ha)).tr (s16 a ha)).tr (s17 a ha)).tr (s18 a ha)).tr (s19 a ha)).tr (s20 a ha)).tr (s21 a ha)).tr (s22 a ha)).tr (s23 a ha)).tr (s24 a ha)).tr (s25 a ha)).tr (s26 a ha)) h26.2.2.1 (by omega) (by omega)
