/-! ===== the class: quarrels, counts ===== -/
section CM
variable {E : Es} {D : Nat → Nat → Int32} {I : Tg → Nat → Int32} {Z : Nat → Nat} {nn nm ng ns nl nc ax ao cap : Nat} {Q : Int32 → Gh → Prop}
theorem c_lasts (hc : Cst E I D Z ax ao cap nn nm ng ns nl nc) (kk : ∀ x, (∀ s, s < 32 → bt x s = decide (s < 12 ∧ D 13 s = 0)) → Q x (E, D, I)) : Wp (f_X11_settingsOfLast (some ax)) (E, D, I) Q := by
  obtain ⟨⟨-, hax, -⟩, t0, -, -, -, -, -, t5, -, -, -, -, -, -, -, ⟨kl, kn⟩, -⟩ := id hc.1.1
  have hl13 := hc.2.1.2.2.2.1.2.2.2
  have key : ∀ (d s fu : Nat) (x : Int32), d + s = 12 → d < fu → (∀ j, j < 32 → bt x j = decide (j < s ∧ D 13 j = 0)) → Wp (f_X11_settingsOfLast_4 (some ax) fu x (nI s)) (E, D, I) Q := by
    intro d
    induction d with
    | zero =>
      intro s fu x hd hf hx
      cases fu with
      | zero => exact absurd hf (Nat.not_lt_zero _)
      | succ fu =>
        rw [f_X11_settingsOfLast_4]
        refine wc_R hax t0 t5 rfl ?_
        refine wc_aN rfl kl (by omega) ?_
        rw [kn]
        have e : s = 12 := by omega
        subst e
        exact wp_pos ((nI_leI (by omega) (by omega)).mpr (Nat.le_refl _)) (wp_mp (kk x hx))
    | succ d ih =>
      intro s fu x hd hf hx
      cases fu with
      | zero => exact absurd hf (Nat.not_lt_zero _)
      | succ fu =>
        rw [f_X11_settingsOfLast_4]
        unfold f_X11_settingsOfLast_28
        refine wc_R hax t0 t5 rfl ?_
        refine wc_aN rfl kl (by omega) ?_
        rw [kn]
        refine wp_neg (fun e => by have := (nI_leI (by omega) (by omega)).mp e; omega) ?_
        refine wc_R hax t0 t5 rfl ?_
        refine wc_a (t := (2, 1, 0)) s rfl rfl kl (.inr (.inl rfl)) rfl (by omega) (by rw [kn]; omega) ?_
        rw [hl13 s (by omega), nI_1]
        refine wp_ite (fun e => ?_) (fun e => ?_)
        · refine ih (s + 1) fu _ (by omega) (by omega) (fun j hj => ?_)
          rw [b_or, bt_sh (by omega) hj, hx j hj]
          by_cases ej : j = s
          · subst ej
            rw [decide_eq_true (p := j = j) rfl, decide_eq_true (p := j < j + 1 ∧ D 13 j = 0) ⟨by omega, e⟩, Bool.or_true]
          · rw [decide_eq_false ej, Bool.or_false]
            have : (j < s ∧ D 13 j = 0) ↔ (j < s + 1 ∧ D 13 j = 0) := ⟨fun q => ⟨by omega, q.2⟩, fun q => ⟨by omega, q.2⟩⟩
            simp only [this]
        · refine ih (s + 1) fu _ (by omega) (by omega) (fun j hj => ?_)
          rw [hx j hj]
          have : (j < s ∧ D 13 j = 0) ↔ (j < s + 1 ∧ D 13 j = 0) := ⟨fun q => ⟨by omega, q.2⟩, fun q => ⟨Nat.lt_of_le_of_ne (by omega) (fun h => e (h ▸ q.2)), q.2⟩⟩
          simp only [this]
  unfold f_X11_settingsOfLast
  exact key 12 0 fuL 0 (by omega) (fu_ok (by omega)) (fun j hj => by rw [b_0, decide_eq_false (fun q => by have := q.1; omega)])
theorem c_differs {x : Int32} {p z a b : Nat} (hp : SetC E I D p) (hz : SetC E I D z) (ha : eAd E (15, p, 0) = a) (hb : eAd E (15, z, 0) = b) (hx : ∀ s, s < 32 → bt x s = decide (s < 12 ∧ D 13 s = 0)) (kk : Q (b2i ((List.range' 0 12).any (fun s => decide (D 13 s = 0) && (bt (D 10 p) s && (bt (D 10 z) s && decide (D 11 (12 * p + s) ≠ D 11 (12 * z + s))))))) (E, D, I)) : Wp (f_X0_differs (some a) (some b) x) (E, D, I) Q := by
  obtain ⟨p1, p2, p3, p4, p5, p6⟩ := hp
  have key : ∀ (d s fu : Nat), d + s = 12 → d < fu → Q (b2i ((List.range' s d).any (fun s => decide (D 13 s = 0) && (bt (D 10 p) s && (bt (D 10 z) s && decide (D 11 (12 * p + s) ≠ D 11 (12 * z + s))))))) (E, D, I) → Wp (f_X0_differs_15 (some a) (some b) ((D 10 p &&& D 10 z) &&& x) fu (nI s)) (E, D, I) Q := by
    intro d
    induction d with
    | zero =>
      intro s fu hd hf kk
      cases fu with
      | zero => exact absurd hf (Nat.not_lt_zero _)
      | succ fu =>
        rw [f_X0_differs_15]
        refine wc_R ha p1 p2 rfl ?_
        refine wc_aN rfl p3 (by omega) ?_
        rw [p4]
        exact wp_pos ((nI_leI (by omega) (by omega)).mpr (by omega)) (wp_rz (.inl rfl) kk)
    | succ d ih =>
      intro s fu hd hf kk
      cases fu with
      | zero => exact absurd hf (Nat.not_lt_zero _)
      | succ fu =>
        rw [f_X0_differs_15]
        unfold f_X0_differs_52
        refine wc_R ha p1 p2 rfl ?_
        refine wc_aN rfl p3 (by omega) ?_
        rw [p4]
        refine wp_neg (fun e => by have := (nI_leI (by omega) (by omega)).mp e; omega) ?_
        rw [bt_shr _ (by omega), b_and, b_and, hx s (by omega), nI_1]
        rw [List.range'_succ, List.any_cons] at kk
        have e12 : decide (s < 12 ∧ D 13 s = 0) = decide (D 13 s = 0) := by
          have : (s < 12 ∧ D 13 s = 0) ↔ D 13 s = 0 := ⟨fun q => q.2, fun q => ⟨by omega, q⟩⟩
          simp only [this]
        rw [e12]
        cases h1 : decide (D 13 s = 0) <;> cases h2 : bt (D 10 p) s <;> cases h3 : bt (D 10 z) s
        case true.true.true =>
          refine wp_neg (by decide) ?_
          refine wc_R ha p1 p2 rfl ?_
          refine wc_a (t := (15, p, 1)) s rfl rfl p3 (.inr (.inl rfl)) rfl (by omega) (by rw [p4]; omega) ?_
          rw [p6 s (by omega)]
          refine wc_call hb hz.1 (c_valueOf hz hb (by omega) ?_)
          rw [h1, h2, h3] at kk
          by_cases e : D 11 (12 * p + s) = D 11 (12 * z + s)
          · rw [decide_eq_false (fun q => q e)] at kk
            exact wp_pos e (ih (s + 1) fu (by omega) (by omega) kk)
          · rw [decide_eq_true e] at kk
            exact wp_neg e (wp_rz (.inr rfl) kk)
        all_goals
          refine wp_pos rfl (ih (s + 1) fu (by omega) (by omega) ?_)
          rw [h1, h2, h3] at kk
          exact kk
  unfold f_X0_differs
  refine wc_I ha rfl p1 rfl ?_
  refine wc_I hb rfl hz.1 rfl ?_
  rw [p5, hz.2.2.2.2.1]
  exact key 12 0 fuL (by omega) (fu_ok (by omega)) kk
theorem c_qw {x : Int32} {l k a b : Nat} (hc : Cst E I D Z ax ao cap nn nm ng ns nl nc) (hl : l < nl) (hk : k < nl) (ha : eAd E (16, l, 0) = a) (hb : eAd E (16, k, 0) = b) (hx : ∀ s, s < 32 → bt x s = decide (s < 12 ∧ D 13 s = 0)) (kk : Q (b2i (unlB D l k)) (E, D, I)) : Wp (f_X4_quarrelsWith (some a) (some b) x) (E, D, I) Q := by
  have hDI := hc.2.2.2
  have hn60 := hDI.1.1.2
  have hs40 := hDI.2.2.2.1.1
  obtain ⟨l1, l2, l3, l4, l5, l6, l7, -⟩ := hc.2.1.2.2.2.2.1.2.1 l hl
  obtain ⟨k1, k2, k3, k4, k5, k6, k7, -⟩ := hc.2.1.2.2.2.2.1.2.1 k hk
  obtain ⟨⟨n, hn, en⟩, ⟨z, hz, ez⟩, -⟩ := hDI.2.2.2.2.1.2.2.2.1 l hl
  obtain ⟨⟨n2, hn2, en2⟩, ⟨z2, hz2, ez2⟩, -⟩ := hDI.2.2.2.2.1.2.2.2.1 k hk
  have c1 : (D 24 l).toNatClampNeg = n := by rw [en, nI_clamp (by omega)]
  have c2 : (D 24 k).toNatClampNeg = n2 := by rw [en2, nI_clamp (by omega)]
  have c3 : (D 25 l).toNatClampNeg = z := by rw [ez, nI_clamp (by omega)]
  have c4 : (D 25 k).toNatClampNeg = z2 := by rw [ez2, nI_clamp (by omega)]
  rw [c1] at l3
  rw [c2] at k3
  rw [c3] at l4
  rw [c4] at k4
  have no : unlB D l k = false → Q 0 (E, D, I) := fun h => by rw [h] at kk; exact kk
  unfold unlB tlD vlD at kk no
  unfold f_X4_quarrelsWith f_X4_quarrelsWith_66 f_X4_quarrelsWith_67
  refine wc_I ha rfl l1 rfl ?_
  rw [l7]
  refine wp_ite (fun e1 => ?_) (fun e1 => wp_rz (.inl rfl) (no (by rw [decide_eq_false e1]; rfl)))
  refine wc_I hb rfl k1 rfl ?_
  rw [k7]
  refine wp_ite (fun e2 => ?_) (fun e2 => wp_rz (.inl rfl) (no (by rw [decide_eq_true e1, decide_eq_false e2]; rfl)))
  refine wc_R ha l1 l3 rfl ?_
  refine wc_R hb k1 k3 rfl ?_
  by_cases e3 : D 24 l = D 24 k
  · refine wp_pos (by rw [← c1, ← c2, e3]) ?_
    refine wc_I ha rfl l1 rfl ?_
    refine wc_I hb rfl k1 rfl ?_
    rw [l6, k6]
    refine wp_ite (fun e4 => ?_) (fun e4 => wp_rz (.inl rfl) (no (by rw [decide_eq_true e1, decide_eq_true e2, decide_eq_true e3, decide_eq_false e4]; rfl)))
    refine wc_I ha rfl l1 rfl ?_
    refine wc_I hb rfl k1 rfl ?_
    rw [l5, k5]
    refine wp_ite (fun e5 => ?_) (fun e5 => wp_rz (.inl rfl) (no (by rw [decide_eq_true e1, decide_eq_true e2, decide_eq_true e3, decide_eq_true e4, decide_eq_false e5]; rfl)))
    refine wc_R ha l1 l4 rfl ?_
    refine wc_R hb k1 k4 rfl ?_
    have s1 := hc.2.1.2.2.2.1.2.1 z hz
    have s2 := hc.2.1.2.2.2.1.2.1 z2 hz2
    refine wc_call rfl s1.1 (c_differs s1 s2 rfl rfl hx ?_)
    rw [decide_eq_true e1, decide_eq_true e2, decide_eq_true e3, decide_eq_true e4, decide_eq_true e5, c3, c4, Bool.true_and, Bool.true_and, Bool.true_and, Bool.true_and, Bool.true_and] at kk
    generalize ((List.range' 0 12).any (fun s => decide (D 13 s = 0) && (bt (D 10 z) s && (bt (D 10 z2) s && decide (D 11 (12 * z + s) ≠ D 11 (12 * z2 + s)))))) = v at kk
    cases v with
    | true => exact wp_neg (by decide) (wp_rz (.inr rfl) kk)
    | false => exact wp_pos rfl (wp_rz (.inl rfl) kk)
  · refine wp_inj (fun inj _ _ => ?_)
    refine wp_neg (fun q => e3 ?_) (wp_rz (.inl rfl) (no (by rw [decide_eq_true e1, decide_eq_true e2, decide_eq_false e3]; rfl)))
    have := inj (12, n, 0) (12, n2, 0) (by show eKd E _ ≠ 0; rw [(hc.2.1.a.1 n hn).1]; omega) (by show eKd E _ ≠ 0; rw [(hc.2.1.a.1 n2 hn2).1]; omega) (Option.some.inj q)
    rw [en, en2, show n = n2 from congrArg (fun t : Tg => t.2.1) this]
end CM
