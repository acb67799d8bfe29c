theorem OcIs.oth {p q : Nat} {o : List Int32 × Option Nat} {E E' : Es} {I I' : Tg → Nat → Int32} (h : OcIs E I q o) (hF : FrO p E I E' I') (hp : q ≠ p) : OcIs E' I' q o := by
  obtain ⟨h1, h2, h3, h4⟩ := h
  have e : ∀ c k, I' (11, q, c) k = I (11, q, c) k := fun c k => hF.2 (11, q, c) k (fun q => hp q.2)
  obtain ⟨⟨v, rfl⟩, -⟩ := hF
  refine ⟨by rw [e]; exact h1, fun i v hi => by rw [e]; exact h2 i v hi, ?_, h4⟩
  rw [eR_ne (fun q => hp (congrArg (fun t : Tg => t.2.1) q.1))]
  exact h3
theorem OcIs.r {p q : Nat} {o : List Int32 × Option Nat} {E E' : Es} {I I' : Tg → Nat → Int32} (h : OcIs E I q o) (hF : FrR p E I E' I') : OcIs E' I' q o := by
  obtain ⟨h1, h2, h3, h4⟩ := h
  have e := fun c => hF.1 (11, q, c) (fun q => by
    have := q.1
    simp at this)
  exact ⟨by rw [(e 0).2.2.2.2.2]; exact h1, fun i v hi => by rw [(e 1).2.2.2.2.2]; exact h2 i v hi, by rw [(e 0).2.2.2.1]; exact h3, h4⟩
section CK
variable {E E' : Es} {D : Nat → Nat → Int32} {I I' : Tg → Nat → Int32} {Z : Nat → Nat} {nn nm ng ns nl nc ax ao cap m s : Nat} {P : (Int32 ⊕ String) → Gh → Prop}
theorem sub_lane {R : List Nat} {lane b : Nat} (hl : lane < 4) (hb : b < 64) : subG D m R (64 * lane + b) ↔ subG D m R (64 * lane) ∧ subG D m R b := by
  unfold subG
  have e := lane_bit lane hl b hb
  have e2 := lane_bit lane hl 0 (by omega)
  rw [Nat.add_zero] at e2
  have e3 := lane_bit 0 (by omega) b hb
  rw [Nat.mul_zero, Nat.zero_add] at e3
  constructor
  · intro h
    refine ⟨fun f hf hq => h f hf ?_, fun f hf hq => h f hf ?_⟩
    · rw [e2 f hf] at hq
      rw [e f hf]
      by_cases h6 : f < 6
      · rw [if_pos h6, Nat.zero_testBit] at hq; cases hq
      · rw [if_neg h6] at hq ⊢; exact hq
    · rw [e3 f hf] at hq
      rw [e f hf]
      by_cases h6 : f < 6
      · rw [if_pos h6] at hq ⊢; exact hq
      · rw [if_neg h6, Nat.zero_testBit] at hq; cases hq
  · intro ⟨h1, h2⟩ f hf hq
    rw [e f hf] at hq
    by_cases h6 : f < 6
    · rw [if_pos h6] at hq
      exact h2 f hf (by rw [e3 f hf, if_pos h6]; exact hq)
    · rw [if_neg h6] at hq
      exact h1 f hf (by rw [e2 f hf, if_neg h6]; exact hq)
/-- as the class asks it -/
theorem sub_and {R : List Nat} {x : Int32} {u : Nat} (hu : u < 256) (hx : ∀ f, f < 32 → bt x f = (decide (f < 8 ∧ D 5 (8 * m + f) = -1) && mtB D R f)) : nI u &&& (x ^^^ (-1)) = 0 ↔ subG D m R u := by
  rw [bt_az]
  unfold subG
  constructor
  · intro h f hf hb
    have h1 := h f (by omega)
    rw [nI_bt _ (by omega), bt_no _ (by omega), hx f (by omega)] at h1
    by_cases h2 : D 5 (8 * m + f) = -1
    · refine ⟨h2, ?_⟩
      cases h3 : mtB D R f with
      | true => rfl
      | false => rw [h3, Bool.and_false] at h1; exact absurd ⟨hb, rfl⟩ h1
    · rw [decide_eq_false (fun q => h2 q.2)] at h1
      exact absurd ⟨hb, rfl⟩ h1
  · intro h f hf ⟨h1, h2⟩
    rw [nI_bt _ hf] at h1
    have h8 : f < 8 := Nat.lt_of_not_le (fun q => by
      have : u < 2 ^ f := Nat.lt_of_lt_of_le (show u < 2 ^ 8 from hu) (Nat.pow_le_pow_right (by omega) q)
      rw [Nat.testBit_lt_two_pow this] at h1
      cases h1)
    obtain ⟨a1, a2⟩ := h f h8 h1
    rw [bt_no _ hf, hx f hf, a2, decide_eq_true ⟨h8, a1⟩] at h2
    cases h2
theorem c_lane {Q : Int32 → Gh → Prop} {x : Int32} {lane : Nat} {w : List Nat} (hlane : lane < 4) (hm : m < nm) (hs : s < 12) (hwy : wy (D 1) 61 (D 4 m) = w) (hlen : (∀ l ∈ rowT D nl ((1 : Int32) <<< (nI s &&& 31)) w, l < nl) ∧ (rowT D nl ((1 : Int32) <<< (nI s &&& 31)) w).length ≤ 100) (hx : ∀ f, f < 32 → bt x f = (decide (f < 8 ∧ D 5 (8 * m + f) = -1) && mtB D (rowT D nl ((1 : Int32) <<< (nI s &&& 31)) w) f)) (hDI : DI cap D nn nm ng ns nl nc) {E0 : Es} {I0 : Tg → Nat → Int32} (kt : (∀ b, b < 64 → subG D m (rowT D nl ((1 : Int32) <<< (nI s &&& 31)) w) b → samG D nl s m (64 * lane + b)) → ∀ E' I', Qk E0 I0 E' I' → Cst E' I' D Z ax ao cap nn nm ng ns nl nc → RowW E' I' D nl 0 ((1 : Int32) <<< (nI s &&& 31)) lane m w → OcIs E' I' 0 (ocD D nl s m (yesO (D 5) m 8) (-1)) → Q 1 (E', D, I')) (kf : (∃ b, b < 64 ∧ subG D m (rowT D nl ((1 : Int32) <<< (nI s &&& 31)) w) b ∧ ¬ samG D nl s m (64 * lane + b)) → ∀ E' I', Qk E0 I0 E' I' → Q 0 (E', D, I')) : ∀ (d b fu : Nat) (E : Es) (I : Tg → Nat → Int32), d + b = 64 → d < fu → (∀ c, c < b → subG D m (rowT D nl ((1 : Int32) <<< (nI s &&& 31)) w) c → samG D nl s m (64 * lane + c)) → Qk E0 I0 E I → Cst E I D Z ax ao cap nn nm ng ns nl nc → RowW E I D nl 0 ((1 : Int32) <<< (nI s &&& 31)) lane m w → OcIs E I 0 (ocD D nl s m (yesO (D 5) m 8) (-1)) → Wp (f_X11_isSameInLane_17 (some ax) (nI s) x fu (nI b)) (E, D, I) Q := by
  intro d
  induction d with
  | zero =>
    intro b fu E I hb hf hd hQ hc hW hO
    cases fu with
    | zero => exact absurd hf (Nat.not_lt_zero _)
    | succ fu =>
      rw [f_X11_isSameInLane_17]
      refine wp_pos ((nI_leI (a := 64) (by omega) (by omega)).mpr (by omega)) (wp_rz (.inr rfl) (kt ?_ E I hQ hc hW hO))
      rw [show b = 64 by omega] at hd
      exact hd
  | succ d ih =>
    intro b fu E I hb hf hd hQ hc hW hO
    cases fu with
    | zero => exact absurd hf (Nat.not_lt_zero _)
    | succ fu =>
      rw [f_X11_isSameInLane_17]
      unfold f_X11_isSameInLane_67
      refine wp_neg (fun e => by have := (nI_leI (a := 64) (by omega) (by omega)).mp e; omega) ?_
      refine wp_ite (fun e => ?_) (fun e => ?_)
      · have hsub := (sub_and (u := b) (by omega) hx).mp e
        refine c_rdS (r := 0) (q := 1) (b := b) (wo := none) (but := -1) (by omega) (by omega) hc.1 hc.2.2.1 hc.2.1.a hDI.rowD (hc.2.1.2.2.2.1.2.2.2 s hs) (hDI.2.2.2.1.2.2.2.2.2 s) hs (by omega) rfl (fun l h => by cases h) (fun l h => m1_l h) (tk_one hs) (rowD_100 hDI) hlen.1 hlen.2 hW (fun E2 I2 q1 q2 q3 => ?_)
        have hc2 := hc.qk q2
        have hO2 := hO.oth q1 (by decide)
        refine wc_R hc2.1.1.1.2.1 hc2.1.1.2.1 (hc2.1.1.outR (r := 1) (by omega)).1 rfl ?_
        refine wc_R hc2.1.1.1.2.1 hc2.1.1.2.1 (hc2.1.1.outR (r := 0) (by omega)).1 rfl ?_
        refine wc_call rfl (hc2.1.2.2.2.2 1 (by omega)).1 (c_isSame (hc2.1.2.2.2.2 1 (by omega)) (hc2.1.2.2.2.2 0 (by omega)) q3 hO2 rfl rfl ?_)
        by_cases hsm : samG D nl s m (64 * lane + b)
        · have e1 : (oc (D 13 s) (psD D s (rowK D nl m (yG D m (64 * lane + b)) (-1) w))).1 = (ocD D nl s m (yesO (D 5) m 8) (-1)).1 := by
            rw [← hwy]; exact hsm
          rw [decide_eq_true e1]
          refine wp_neg (by decide) ?_
          rw [nI_1]
          refine ih (b + 1) fu E2 I2 (by omega) (by omega) (fun c hcb hs2 => ?_) (hQ.tr q2) hc2 (hW.o q1) hO2
          by_cases ec : c = b
          · rw [ec]; exact hsm
          · exact hd c (by omega) hs2
        · have e1 : ¬ ((oc (D 13 s) (psD D s (rowK D nl m (yG D m (64 * lane + b)) (-1) w))).1 = (ocD D nl s m (yesO (D 5) m 8) (-1)).1) := by
            rw [← hwy]; exact hsm
          rw [decide_eq_false e1]
          exact wp_pos rfl (wp_rz (.inl rfl) (kf ⟨b, by omega, hsub, hsm⟩ E2 I2 (hQ.tr q2)))
      · rw [nI_1]
        refine ih (b + 1) fu E I (by omega) (by omega) (fun c hcb hs2 => ?_) hQ hc hW hO
        by_cases ec : c = b
        · subst ec
          exact absurd ((sub_and (u := c) (by omega) hx).mpr hs2) e
        · exact hd c (by omega) hs2
theorem c_sure {x y : Int32} (hc : Cst E I D Z ax ao cap nn nm ng ns nl nc) (k1 : (x < 0 ∨ ¬ x < nI nm) → P (.inr eI) (eXc E 1 6, D, I)) (k2 : ¬ x < 0 → x < nI nm → (y < 0 ∨ ¬ y < 12) → P (.inr eA) (eXc E 1 6, D, I)) (k3 : ∀ m s, m < nm → x = nI m → s < 12 → y = nI s → ∀ E' I', Qk E I E' I' → (SureP D nl s m → P (.inl 1) (E', D, I')) ∧ (¬ SureP D nl s m → P (.inl 0) (E', D, I'))) : Wp (f_X11_sure Z (some ax) x y) (E, D, I) P := by
  unfold f_X11_sure
  refine c_ask hc k1 k2 (fun m s hm hx hs hy E1 I1 q1 hc1 q2 q3 => ?_)
  have hDI := hc.2.2.2
  have hn60 := hDI.1.1.2
  obtain ⟨i, w, hi, e4, hw⟩ := hDI.way hm
  have hwy : wy (D 1) 61 (D 4 m) = i :: w := chn_wy hn60 _ 61 hw (by have := chn_len hn60 hw; omega)
  have hlen := rowT_len (st := (1 : Int32) <<< (nI s &&& 31)) hDI hw
  rw [hwy] at q2
  have hRT : rowT D nl ((1 : Int32) <<< (nI s &&& 31)) (i :: w) = (rowD D nl (i :: w)).filter (tlD D s) := by
    rw [rowT_eq]
    refine List.filter_congr (fun l _ => ?_)
    cases h : tlD D s l with
    | true => exact tk_one hs l h
    | false =>
      unfold tlD at h
      unfold tkB
      exact decide_eq_false (fun q => q ((bt_b1 (by omega)).mpr h))
  have hiff := sure_iff (s := s) hDI hwy hRT
  refine wc_R hc1.1.1.1.2.1 hc1.1.1.2.1 (hc1.1.1.rowR (r := 0) (by omega)).1 rfl ?_
  refine wc_call rfl (hc1.1.2.2.2.1 0 (by omega)).1 (c_doubt (r := 0) (by omega) hc1 rfl q2.1 hlen.1 hlen.2 (fun dx hdx => ?_))
  subst hy
  have key : ∀ (d lane fu : Nat) (E' : Es) (I' : Tg → Nat → Int32), d + lane = 4 → d < fu → (∀ u, u < 64 * lane → subG D m (rowT D nl ((1 : Int32) <<< (nI s &&& 31)) (i :: w)) u → samG D nl s m u) → Qk E I E' I' → Cst E' I' D Z ax ao cap nn nm ng ns nl nc → RowL E' I' D nl 0 ((1 : Int32) <<< (nI s &&& 31)) m (i :: w) → OcIs E' I' 0 (ocD D nl s m (yesO (D 5) m 8) (-1)) → Wp (f_X11_sure_17 Z (some ax) (nI s) dx fu (nI lane)) (E', D, I') P := by
    intro d
    induction d with
    | zero =>
      intro lane fu E' I' hl hf hd hQ hc' hL hO
      cases fu with
      | zero => exact absurd hf (Nat.not_lt_zero _)
      | succ fu =>
        rw [f_X11_sure_17]
        refine wp_pos ((nI_leI (a := 4) (by omega) (by omega)).mpr (by omega)) (wp_rzX (.inr rfl) ((k3 m s hm hx hs rfl E' I' hQ).1 (hiff.mp ?_)))
        rw [show lane = 4 by omega] at hd
        exact hd
    | succ d ih =>
      intro lane fu E' I' hl hf hd hQ hc' hL hO
      cases fu with
      | zero => exact absurd hf (Nat.not_lt_zero _)
      | succ fu =>
        rw [f_X11_sure_17]
        unfold f_X11_sure_55
        refine wp_neg (fun e => by have := (nI_leI (a := 4) (by omega) (by omega)).mp e; omega) ?_
        have e64 : nI lane * (64 : Int32) = nI (64 * lane) := by
          have : ∀ l, l < 4 → nI l * (64 : Int32) = nI (64 * l) := by decide
          exact this lane (by omega)
        rw [e64]
        refine wp_ite (fun e => ?_) (fun e => ?_)
        · have hsub := (sub_and (u := 64 * lane) (by omega) hdx).mp e
          refine wc_R hc'.1.1.1.2.1 hc'.1.1.2.1 (hc'.1.1.rowR (r := 0) (by omega)).1 rfl ?_
          refine wc_call rfl (hc'.1.2.2.2.1 0 (by omega)).1 (c_wgh (lane := lane) (by omega) hc'.2.2.1 (hc'.1.2.2.2.1 0 (by omega)) hc'.2.1.a hDI rfl hlen.1 hlen.2 (by omega) hL (fun E2 r1 r2 r3 => ?_))
          have hc2 := hc'.qk r2
          have hO2 := hO.r r1
          obtain ⟨⟨-, hax, -⟩, t0, -, -, -, -, -, t5, -, -, -, -, -, -, -, ⟨kl, kn⟩, -⟩ := id hc2.1.1
          refine wc_call hax t0 ?_
          unfold f_X11_isSameInLane
          refine wp_neg (nI_pos (by omega)) ?_
          refine wc_R hax t0 t5 rfl ?_
          refine wc_aN rfl kl (by omega) ?_
          rw [kn]
          refine wp_pos ((nI_ltI (by omega) (by omega)).mpr hs) ?_
          refine c_lane (E0 := E) (I0 := I) (m := m) (s := s) (w := i :: w) (by omega) hm hs hwy hlen hdx hDI (fun hall E3 I3 v1 v2 v3 v4 => ?_) (fun hno E3 I3 v1 => ?_) 64 0 fuL E2 I' (by omega) (fu_ok (by omega)) (fun c hcc => absurd hcc (Nat.not_lt_zero _)) (hQ.tr r2) hc2 r3 hO2
          · refine wp_neg (by decide) ?_
            rw [nI_1]
            refine ih (lane + 1) fu E3 I3 (by omega) (by omega) (fun u hu hsu => ?_) v1 v2 v3.1 v4
            by_cases h2 : u < 64 * lane
            · exact hd u h2 hsu
            · have hb : u - 64 * lane < 64 := by omega
              have eu : 64 * lane + (u - 64 * lane) = u := by omega
              rw [← eu] at hsu ⊢
              exact hall _ hb ((sub_lane (by omega) hb).mp hsu).2
          · obtain ⟨b, hb, hsb, hns⟩ := hno
            refine wp_pos rfl (wp_rzX (.inl rfl) ((k3 m s hm hx hs rfl E3 I3 v1).2 (fun hS => hns ?_)))
            exact hiff.mpr hS (64 * lane + b) (by omega) ((sub_lane (by omega) hb).mpr ⟨hsub, hsb⟩)
        · rw [nI_1]
          refine ih (lane + 1) fu E' I' (by omega) (by omega) (fun u hu hsu => ?_) hQ hc' hL hO
          by_cases h2 : u < 64 * lane
          · exact hd u h2 hsu
          · have hb : u - 64 * lane < 64 := by omega
            have eu : 64 * lane + (u - 64 * lane) = u := by omega
            rw [← eu] at hsu
            exact absurd ((sub_and (u := 64 * lane) (by omega) hdx).mpr ((sub_lane (by omega) hb).mp hsu).1) e
  exact key 4 0 fuL E1 I1 (by omega) (fu_ok (by omega)) (fun u hu => absurd hu (by omega)) q1 hc1 q2.1 q3
end CK
