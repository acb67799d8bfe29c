/-! ===== the class: a row and its weights ===== -/
def capO (E : Es) (a b : Nat) : Nat := match eRf E (a, b, 0) 1 with
  | some t => t.2.2
  | none => 0
theorem Lst.cpO {E : Es} {I : Tg → Nat → Int32} {a b c : Nat} {xs : List Tg} (h : Lst E I a b c xs) : capO E a b = c := by
  obtain ⟨-, -, -, -, h1, h2, -⟩ := h
  unfold capO
  by_cases e : c = 0
  · rw [h1 e, e]
  · rw [(h2 e).2.1]
/-- what the lists to work on have room for -/
def pot (E : Es) : Nat := capO E 8 0 + capO E 9 0 + capO E 8 1 + capO E 9 1
/-- a question has been asked -/
def Qk (E : Es) (I : Tg → Nat → Int32) (E' : Es) (I' : Tg → Nat → Int32) : Prop := FrQ E I E' I' ∧ CScr E' I' ∧ Mk E E' (pot E) (pot E')
theorem Qk.rf {E : Es} {I : Tg → Nat → Int32} (h : CScr E I) : Qk E I E I := ⟨FrQ.rf, h, Mk.rf⟩
theorem Qk.tr {E E' E'' : Es} {I I' I'' : Tg → Nat → Int32} (h : Qk E I E' I') (h2 : Qk E' I' E'' I'') : Qk E I E'' I'' := ⟨h.1.tr h2.1, h2.2.1, h.2.2.tr h2.2.2⟩
theorem capO_eq {E E' : Es} {a b : Nat} (h : eRf E' (a, b, 0) 1 = eRf E (a, b, 0) 1) : capO E' a b = capO E a b := by
  unfold capO
  rw [h]
theorem Qk.o {q : Nat} {E E' : Es} {I I' : Tg → Nat → Int32} (hc : CScr E I) (h : FrO q E I E' I') : Qk E I E' I' := by
  refine ⟨h.q, fun r hr => ?_, ?_⟩
  · obtain ⟨⟨c, xs, h1, h2⟩, d, ys, h3, h4⟩ := hc r hr
    exact ⟨⟨c, xs, h1, h.lst (by decide) h2⟩, d, ys, h3, h.lst (by decide) h4⟩
  · obtain ⟨⟨v, rfl⟩, -⟩ := h
    have e : ∀ a b, a ≠ 11 → capO (eR E (11, q, 0) 2 v) a b = capO E a b := fun a b ha => capO_eq (eR_ne (fun e => ha (congrArg Prod.fst e.1)))
    have : pot (eR E (11, q, 0) 2 v) = pot E := by
      unfold pot
      rw [e 8 0 (by decide), e 9 0 (by decide), e 8 1 (by decide), e 9 1 (by decide)]
    rw [this]
    exact Mk.rf
theorem FrR.lst {r a b c : Nat} {xs : List Tg} {E E' : Es} {I I' : Tg → Nat → Int32} (h : FrR r E I E' I') (hb : b ≠ r) (hL : Lst E I a b c xs) : Lst E' I' a b c xs :=
  hL.cg (fun x => (h.1 (a, b, x) (fun q => hb q.2)).2.1) (fun x => (h.1 (a, b, x) (fun q => hb q.2)).2.2.1) (fun x k => (h.1 (a, b, x) (fun q => hb q.2)).2.2.2.1 k) ((h.1 (a, b, 0) (fun q => hb q.2)).2.2.2.2.2 2)
theorem Qk.r {r c8 c9 c8' c9' : Nat} {xs ys : List Tg} {xs' ys' : List Tg} {E E' : Es} {I I' : Tg → Nat → Int32} (hr : r < 2) (hc : CScr E I) (h : FrR r E I E' I') (l8 : Lst E I 8 r c8 xs) (l9 : Lst E I 9 r c9 ys) (h8 : Lst E' I' 8 r c8' xs') (h9 : Lst E' I' 9 r c9' ys') (k8 : c8' ≤ 300) (k9 : c9' ≤ 300) (hM : Mk E E' (c8 + c9) (c8' + c9')) : Qk E I E' I' := by
  refine ⟨h.q, fun p hp => ?_, ?_⟩
  · by_cases e : p = r
    · subst e
      exact ⟨⟨c8', _, k8, h8⟩, c9', _, k9, h9⟩
    · obtain ⟨⟨c, zs, h1, h2⟩, d, us, h3, h4⟩ := hc p hp
      exact ⟨⟨c, zs, h1, h.lst e h2⟩, d, us, h3, h.lst e h4⟩
  · have o : ∀ a p, p ≠ r → capO E' a p = capO E a p := fun a p hp => capO_eq ((h.1 (a, p, 0) (fun q => hp q.2)).2.2.2.1 1)
    obtain ⟨m1, m2, m3, m4⟩ := hM
    have e1 := l8.cpO
    have e2 := l9.cpO
    have e3 := h8.cpO
    have e4 := h9.cpO
    unfold pot Mk
    rcases (show r = 0 ∨ r = 1 by omega) with rfl | rfl
    · rw [o 8 1 (by decide), o 9 1 (by decide), e1, e2, e3, e4]
      exact ⟨by omega, by omega, m3, by omega⟩
    · rw [o 8 0 (by decide), o 9 0 (by decide), e1, e2, e3, e4]
      exact ⟨by omega, by omega, m3, by omega⟩
/-- what is taken as yes in a guess -/
def yG (D : Nat → Nat → Int32) (m u : Nat) : Int32 := yesO (D 5) m 8 ||| nI (u &&& unN (D 5) m 8)
theorem nI_bt (u : Nat) {f : Nat} (hf : f < 32) : bt (nI u) f = u.testBit f := by
  unfold bt
  show (BitVec.ofNat 32 u).getLsbD f = _
  rw [BitVec.getLsbD_ofNat, decide_eq_true hf, Bool.true_and]
theorem yes_bt (fa : Nat → Int32) (m : Nat) : ∀ n, n ≤ 8 → ∀ f, f < 32 → bt (yesO fa m n) f = decide (f < n ∧ fa (8 * m + f) = 1) := by
  intro n
  induction n with
  | zero => intro _ f _; rw [yesO, b_0, decide_eq_false (fun q => by have := q.1; omega)]
  | succ n ih =>
    intro hn f hf
    rw [yesO, b_or, ih (by omega) f hf]
    by_cases e : f = n
    · subst e
      by_cases h1 : fa (8 * m + f) = 1
      · rw [if_pos h1, bt_sh (by omega) hf, decide_eq_true (p := f = f) rfl, decide_eq_true (p := f < f + 1 ∧ fa (8 * m + f) = 1) ⟨by omega, h1⟩, Bool.or_true]
      · rw [if_neg h1, b_0, decide_eq_false (fun q => h1 q.2), decide_eq_false (fun q => h1 q.2)]; rfl
    · have h2 : bt (if fa (8 * m + n) = 1 then (1 : Int32) <<< (nI n &&& 31) else 0) f = false := by
        split
        · rw [bt_sh (by omega) hf, decide_eq_false e]
        · exact b_0 f
      rw [h2, Bool.or_false]
      have : (f < n ∧ fa (8 * m + f) = 1) ↔ (f < n + 1 ∧ fa (8 * m + f) = 1) := ⟨fun q => ⟨by omega, q.2⟩, fun q => ⟨by omega, q.2⟩⟩
      simp only [this]
theorem unN_bt (fa : Nat → Int32) (m : Nat) : ∀ n f, (unN fa m n).testBit f = decide (f < n ∧ fa (8 * m + f) = -1) := by
  intro n
  induction n with
  | zero => intro f; rw [unN, Nat.zero_testBit, decide_eq_false (fun q => by have := q.1; omega)]
  | succ n ih =>
    intro f
    rw [unN, Nat.testBit_or, ih f]
    by_cases e : f = n
    · subst e
      by_cases h1 : fa (8 * m + f) = -1
      · rw [if_pos h1, Nat.one_shiftLeft, Nat.testBit_two_pow_self, decide_eq_true (p := f < f + 1 ∧ fa (8 * m + f) = -1) ⟨by omega, h1⟩, Bool.or_true]
      · rw [if_neg h1, Nat.zero_testBit, decide_eq_false (fun q => h1 q.2), decide_eq_false (fun q => h1 q.2)]; rfl
    · have h2 : (if fa (8 * m + n) = -1 then 1 <<< n else 0).testBit f = false := by
        split
        · rw [Nat.one_shiftLeft, Nat.testBit_two_pow_of_ne (fun q => e q.symm)]
        · exact Nat.zero_testBit f
      rw [h2, Bool.or_false]
      have : (f < n ∧ fa (8 * m + f) = -1) ↔ (f < n + 1 ∧ fa (8 * m + f) = -1) := ⟨fun q => ⟨by omega, q.2⟩, fun q => ⟨by omega, q.2⟩⟩
      simp only [this]
theorem lane_bit : ∀ lane, lane < 4 → ∀ b, b < 64 → ∀ f, f < 8 → (64 * lane + b).testBit f = if f < 6 then b.testBit f else lane.testBit (f - 6) := by decide +kernel
theorem yG_0 (D : Nat → Nat → Int32) (m : Nat) : yG D m 0 = yesO (D 5) m 8 := by
  unfold yG
  rw [Nat.zero_and]
  refine b_ext (fun i hi => ?_)
  rw [b_or, show nI 0 = 0 from rfl, b_0, Bool.or_false]
theorem yG_f {D : Nat → Nat → Int32} {m lane b f : Nat} {kn ys : Int32} (hl : lane < 4) (hb : b < 64) (hf : f < 8) (hk : bt kn f = decide (f < 8 ∧ D 5 (8 * m + f) ≠ -1)) (hy : bt ys f = decide (f < 8 ∧ D 5 (8 * m + f) = 1)) : bt (yG D m (64 * lane + b)) f = fctB kn ys lane b f := by
  unfold yG fctB
  rw [b_or, yes_bt _ _ 8 (by omega) f (by omega), nI_bt _ (by omega), Nat.testBit_and, unN_bt, lane_bit lane hl b hb f hf, hk, hy]
  by_cases h1 : D 5 (8 * m + f) = -1
  · have : ¬ (D 5 (8 * m + f) = 1) := by rw [h1]; decide
    simp [h1, hf]
  · simp [h1, hf]
/-- where the machine stands -/
def StdM (E : Es) (I : Tg → Nat → Int32) (D : Nat → Nat → Int32) (r m : Nat) (w : List Nat) : Prop := (∀ f, f < 32 → bt (I (10, r, 0) 2) f = decide (f < 8 ∧ D 5 (8 * m + f) ≠ -1)) ∧ (∀ f, f < 32 → bt (I (10, r, 0) 3) f = decide (f < 8 ∧ D 5 (8 * m + f) = 1)) ∧ (∀ v, v < 20 → bt (I (10, r, 0) 4) v = memB (D 8) (D 6) v m) ∧ (∀ v, v < 60 → lb (eLg E (10, r, 0) 5) v = decide (v ∈ w))
def RowL (E : Es) (I : Tg → Nat → Int32) (D : Nat → Nat → Int32) (nl r : Nat) (st : Int32) (m : Nat) (w : List Nat) : Prop := (∃ c8, c8 ≤ 300 ∧ Lst E I 8 r c8 (w.map tgN)) ∧ (∃ c9, c9 ≤ 300 ∧ Lst E I 9 r c9 ((rowT D nl st w).map tgL)) ∧ StdM E I D r m w
def RowW (E : Es) (I : Tg → Nat → Int32) (D : Nat → Nat → Int32) (nl r : Nat) (st : Int32) (lane m : Nat) (w : List Nat) : Prop := RowL E I D nl r st m w ∧ ∀ i l, (rowT D nl st w)[i]? = some l → ∀ b, b < 64 → lb (eLg E (7, r, 1) i) b = hld (fun v => memB (D 8) (D 6) v m) (yG D m (64 * lane + b)) w (cdl (D 21) (D 29) (D 30) l)
section CG
variable {E E' : Es} {D : Nat → Nat → Int32} {I I' : Tg → Nat → Int32} {Z : Nat → Nat} {r q nn nm ng ns nl nc lane m ax ao : Nat} {st : Int32} {w : List Nat}
theorem RowL.o (h : RowL E I D nl r st m w) (hF : FrO q E I E' I') : RowL E' I' D nl r st m w := by
  obtain ⟨⟨c8, k8, h8⟩, ⟨c9, k9, h9⟩, s1, s2, s3, s4⟩ := h
  refine ⟨⟨c8, k8, hF.lst (by decide) h8⟩, ⟨c9, k9, hF.lst (by decide) h9⟩, ?_⟩
  have e : ∀ k, I' (10, r, 0) k = I (10, r, 0) k := fun k => hF.2 (10, r, 0) k (fun q => absurd q.1 (by simp))
  obtain ⟨⟨v, rfl⟩, -⟩ := hF
  unfold StdM
  rw [e, e, e]
  exact ⟨s1, s2, s3, s4⟩
theorem RowW.o (h : RowW E I D nl r st lane m w) (hF : FrO q E I E' I') : RowW E' I' D nl r st lane m w := by
  refine ⟨h.1.o hF, ?_⟩
  obtain ⟨⟨v, rfl⟩, -⟩ := hF
  exact h.2
theorem RowW.oth {p : Nat} (h : RowW E I D nl r st lane m w) (hp : r ≠ p) (hF : FrR p E I E' I') : RowW E' I' D nl r st lane m w := by
  obtain ⟨⟨⟨c8, k8, h8⟩, ⟨c9, k9, h9⟩, s1, s2, s3, s4⟩, hw⟩ := h
  have e7 := hF.1 (7, r, 1) (fun q => hp q.2)
  have e10 := hF.1 (10, r, 0) (fun q => hp q.2)
  refine ⟨⟨⟨c8, k8, hF.lst hp h8⟩, ⟨c9, k9, hF.lst hp h9⟩, ?_⟩, fun i l hi b hb => ?_⟩
  · unfold StdM
    rw [e10.2.2.2.2.2, e10.2.2.2.2.2, e10.2.2.2.2.2, e10.2.2.2.2.1]
    exact ⟨s1, s2, s3, s4⟩
  · rw [e7.2.2.2.2.1]
    exact hw i l hi b hb
theorem rowT_len {cap : Nat} (hDI : DI cap D nn nm ng ns nl nc) {v : Int32} (hw : Chn (D 1) nn w v) : (∀ l ∈ rowT D nl st w, l < nl) ∧ (rowT D nl st w).length ≤ 100 := by
  obtain ⟨h1, h2, h3, h4, h5, h6⟩ := hDI
  rw [rowT_eq]
  refine ⟨fun l hl => row_lt (srt_lt h5.1 h5.2.2.2.2.2.1) l (List.mem_filter.mp hl).1, ?_⟩
  have q1 := row_len h1 h5 hw
  have q2 := List.length_filter_le (tkB D st) (rowD D nl w)
  have := h5.1
  omega
/-- the weights of a lane -/
theorem c_wgh {Q : Unit → Gh → Prop} {cap ad : Nat} {ab : Nat → Int32} (hr : r < 2) (hC : CScr E I) (hS : RowS E r) (hA : DatA E I D nn ns nl ab) (hDI : DI cap D nn nm ng ns nl nc) (ha : eAd E (7, r, 0) = ad) (hR : ∀ l ∈ rowT D nl st w, l < nl) (hR100 : (rowT D nl st w).length ≤ 100) (hlane : lane < 4) (hL : RowL E I D nl r st m w) (kk : ∀ E', FrR r E I E' I → Qk E I E' I → RowW E' I D nl r st lane m w → Q () (E', D, I)) : Wp (f_X8_weigh Z (some ad) (nI lane)) (E, D, I) Q := by
  obtain ⟨⟨c8, k8, h8⟩, ⟨c9, k9, h9⟩, s1, s2, s3, s4⟩ := hL
  refine c_weigh (mem := fun v => memB (D 8) (D 6) v m) (w := w) (Y := fun b => yG D m (64 * lane + b)) hS hA hDI ha h8 h9 hR hR100 hlane s3 s4 (fun f hf b hb => yG_f hlane hb hf (s1 f (by omega)) (s2 f (by omega))) (fun E1 p1 p2 p3 p4 p5 p6 p7 => ?_)
  refine kk E1 p1 (Qk.r hr hC p1 h8 h9 p4 p5 k8 k9 ⟨by omega, by omega, p1.2.2.2.2, Nat.le_refl _⟩) ⟨⟨⟨c8, k8, p4⟩, ⟨c9, k9, p5⟩, s1, s2, s3, fun v hv => ?_⟩, p7⟩
  rw [p6]
  exact s4 v hv
/-- a machine's row -/
theorem c_coll {Q : Unit → Gh → Prop} {ad am i : Nat} {x2 : Int32} {ab : Nat → Int32} (hz : eAd E (0, 0, 0) = Z 0) (hr : r < 2) (hC : CScr E I) (hS : RowS E r) (hA : DatA E I D nn ns nl ab) (hRD : RowD D nn ns nl) (ha : eAd E (7, r, 0) = ad) (hma : eAd E (14, m, 0) = am) (hmc : MacC E I D m) (hmi : D 4 m = nI i) (hi : i < nn) (hw : Chn ab nn w (nI i)) (hlen : (rowT D nl st w).length ≤ 100) (hx : ∀ v, v < 20 → bt x2 v = memB (D 8) (D 6) v m) (kk : ∀ E' I', FrR r E I E' I' → Qk E I E' I' → RowL E' I' D nl r st m w → Q () (E', D, I')) : Wp (f_X8_collect Z (some ad) (some am) x2 st) (E, D, I) Q := by
  obtain ⟨⟨c8, xs, k8, h8⟩, c9, ys, k9, h9⟩ := hC r hr
  have hnn := hRD.2.2.2.2.1
  refine c_collect (rest := []) hz hS hA hRD ha hma hmc.1 (by rw [hmc.2.1, hmi, nI_clamp (by omega)]) hw hi h8 h9 k8 k9 hlen (fun E1 I1 c8' c9' p1 p2 p3 p4 p5 p6 p7 p8 p9 p10 => ?_)
  refine kk E1 I1 p1 (Qk.r hr hC p1 h8 h9 p2 p3 p4 p5 p6) ⟨⟨c8', p4, p2⟩, ⟨c9', p5, p3⟩, ?_, ?_, ?_, p10⟩
  · rw [p7]; exact hmc.2.2.1
  · rw [p8]; exact hmc.2.2.2
  · rw [p9]; exact hx
end CG
