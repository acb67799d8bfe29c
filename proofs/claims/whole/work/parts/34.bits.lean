/-! ===== bits (the first rows: the kit's starting text BITS.to-paste) ===== -/
def bt (x : Int32) (i : Nat) : Bool := x.toBitVec.getLsbD i
theorem b_ext {x y : Int32} (h : ∀ i, i < 32 → bt x i = bt y i) : x = y := Int32.toBitVec_inj.mp (BitVec.eq_of_getLsbD_eq (fun i hi => h i hi))
theorem b_or (x y : Int32) (i : Nat) : bt (x ||| y) i = (bt x i || bt y i) := by unfold bt; rw [Int32.toBitVec_or, BitVec.getLsbD_or]
theorem b_and (x y : Int32) (i : Nat) : bt (x &&& y) i = (bt x i && bt y i) := by unfold bt; rw [Int32.toBitVec_and, BitVec.getLsbD_and]
theorem b_xor (x y : Int32) (i : Nat) : bt (x ^^^ y) i = (bt x i ^^ bt y i) := by unfold bt; rw [Int32.toBitVec_xor, BitVec.getLsbD_xor]
theorem b_big {x : Int32} {i : Nat} (h : 32 ≤ i) : bt x i = false := BitVec.getLsbD_of_ge _ _ h
theorem b_255 (i : Nat) : bt 255 i = decide (i < 8) := by
  rcases Nat.lt_or_ge i 32 with h | h
  · exact (by decide +kernel : ∀ i, i < 32 → bt 255 i = decide (i < 8)) i h
  · rw [b_big h, decide_eq_false (by omega)]
theorem b_65535 (i : Nat) : bt 65535 i = decide (i < 16) := by
  rcases Nat.lt_or_ge i 32 with h | h
  · exact (by decide +kernel : ∀ i, i < 32 → bt 65535 i = decide (i < 16)) i h
  · rw [b_big h, decide_eq_false (by omega)]
theorem b_m1 : ∀ i, i < 32 → bt (-1) i = true := by decide +kernel
theorem b_0 (i : Nat) : bt 0 i = false := BitVec.getLsbD_zero
theorem s_l : ∀ n, n < 32 → ((nI n &&& 31).toBitVec.smod 32).toNat = n := by decide +kernel
theorem s_u : ∀ n, n < 32 → (((nI n).toUInt32 &&& Int32.toUInt32 31).toBitVec % 32).toNat = n := by decide +kernel
theorem b_shl (n : Nat) (hn : n < 32) (x : Int32) {i : Nat} (hi : i < 32) : bt (x <<< (nI n &&& 31)) i = (decide (n ≤ i) && bt x (i - n)) := by
  unfold bt
  rw [Int32.toBitVec_shiftLeft]
  show (x.toBitVec <<< ((nI n &&& 31).toBitVec.smod 32).toNat).getLsbD i = _
  rw [s_l n hn, BitVec.getLsbD_shiftLeft]
  rcases Nat.lt_or_ge i n with h | h
  · simp [h, Nat.not_le.mpr h]
  · simp [hi, h, Nat.not_lt.mpr h]
theorem b_ushr (n : Nat) (hn : n < 32) (x : Int32) (i : Nat) : bt ((x.toUInt32 >>> ((nI n).toUInt32 &&& Int32.toUInt32 31)).toInt32) i = bt x (n + i) := by
  show (x.toUInt32 >>> ((nI n).toUInt32 &&& Int32.toUInt32 31)).toBitVec.getLsbD i = x.toUInt32.toBitVec.getLsbD (n + i)
  rw [UInt32.toBitVec_shiftRight]
  show (x.toUInt32.toBitVec >>> (((nI n).toUInt32 &&& Int32.toUInt32 31).toBitVec % 32).toNat).getLsbD i = _
  rw [s_u n hn, BitVec.getLsbD_ushiftRight]
theorem b_sshr (n : Nat) (hn : n < 32) (x : Int32) {i : Nat} (hi : i < 32) : bt (x >>> (nI n &&& 31)) i = if n + i < 32 then bt x (n + i) else bt x 31 := by
  unfold bt
  rw [Int32.toBitVec_shiftRight]
  show (x.toBitVec.sshiftRight ((nI n &&& 31).toBitVec.smod 32).toNat).getLsbD i = _
  rw [s_l n hn, BitVec.getLsbD_sshiftRight, BitVec.msb_eq_getLsbD_last]
  simp [hi]
theorem ts_nf {x : Bool} (h : ¬ x = false) : x = true := by cases x <;> first | rfl | exact absurd rfl h
theorem ts_nt {x : Bool} (h : ¬ x = true) : x = false := by cases x <;> first | rfl | exact absurd rfl h
theorem ts_bit {w : Int64} {s : UInt64} {j : Nat} (hj : j < 64) (hs : s.toNat = j) : ((w.toUInt64 >>> s).toInt64 &&& 1) = 0 ↔ w.toBitVec.getLsbD j = false := by
  have e : (w.toUInt64 >>> s).toInt64.toBitVec = w.toBitVec >>> j := by
    apply BitVec.eq_of_toNat_eq
    show (w.toUInt64 >>> s).toNat = _
    rw [UInt64.toNat_shiftRight, hs, Nat.mod_eq_of_lt hj, BitVec.toNat_ushiftRight]
    rfl
  rw [← Int64.toBitVec_inj, Int64.toBitVec_and, e]
  show w.toBitVec >>> j &&& 1#64 = 0#64 ↔ _
  constructor
  · intro h
    have t := congrArg (fun x => x.getLsbD 0) h
    simpa using t
  · intro h
    apply BitVec.eq_of_getLsbD_eq
    intro i hi
    cases i with
    | zero => simp [h]
    | succ i => simp
theorem bt_1 (i : Nat) : bt 1 i = decide (i = 0) := by
  by_cases h : i < 32
  · exact (by decide +kernel : ∀ i, i < 32 → bt 1 i = decide (i = 0)) i h
  · rw [b_big (by omega), decide_eq_false (by omega)]
theorem bt_sh {n i : Nat} (hn : n < 32) (hi : i < 32) : bt ((1 : Int32) <<< (nI n &&& 31)) i = decide (i = n) := by
  rw [b_shl n hn 1 hi, bt_1]
  by_cases h : i = n
  · subst h; simp
  · by_cases h2 : n ≤ i
    · rw [decide_eq_true h2, decide_eq_false h, decide_eq_false (by omega)]; rfl
    · rw [decide_eq_false h2, decide_eq_false h]; rfl
theorem bt_and1 (x : Int32) : x &&& 1 = if bt x 0 then 1 else 0 := by
  refine b_ext fun i hi => ?_
  rw [b_and, bt_1]
  by_cases h : i = 0
  · subst h
    cases hx : bt x 0 <;> simp [b_0, bt_1]
  · rw [decide_eq_false h, Bool.and_false]
    cases hx : bt x 0
    · simp [b_0]
    · simp [bt_1, h]
theorem bt_sar (x : Int32) {n : Nat} (hn : n < 32) : (x >>> (nI n &&& 31)) &&& 1 = if bt x n then 1 else 0 := by
  rw [bt_and1, b_sshr n hn x (by omega), if_pos (show n + 0 < 32 by omega), Nat.add_zero]
theorem bt_shr (x : Int32) {n : Nat} (hn : n < 32) : jSh x (nI n) &&& 1 = if bt x n then 1 else 0 := by
  rw [bt_and1]
  unfold jSh
  rw [b_ushr n hn x 0, Nat.add_zero]
theorem bt_no (x : Int32) {i : Nat} (hi : i < 32) : bt (x ^^^ (-1)) i = !bt x i := by
  rw [b_xor, b_m1 i hi]; cases bt x i <;> rfl
theorem bt_z {x : Int32} (h : x ≠ 0) : ∃ i, i < 32 ∧ bt x i = true := by
  refine Classical.byContradiction fun hn => h (b_ext fun i hi => ?_)
  rw [b_0]
  cases hx : bt x i with
  | false => rfl
  | true => exact absurd ⟨i, hi, hx⟩ hn
theorem bt_az {x y : Int32} : x &&& y = 0 ↔ ∀ i, i < 32 → ¬ (bt x i = true ∧ bt y i = true) := by
  constructor
  · intro h i hi ⟨h1, h2⟩
    have := b_and x y i
    rw [h, b_0, h1, h2] at this
    cases this
  · intro h
    refine b_ext fun i hi => ?_
    rw [b_and, b_0]
    have := h i hi
    cases hx : bt x i <;> cases hy : bt y i <;> simp_all
theorem bt_b1 {x : Int32} {n : Nat} (hn : n < 32) : x &&& ((1 : Int32) <<< (nI n &&& 31)) = 0 ↔ bt x n = false := by
  rw [bt_az]
  constructor
  · intro h
    have := h n hn
    rw [bt_sh hn hn] at this
    cases hx : bt x n with
    | false => rfl
    | true => exact absurd ⟨hx, by simp⟩ this
  · intro h i hi ⟨h1, h2⟩
    rw [bt_sh hn hi] at h2
    have := of_decide_eq_true h2
    subst this
    rw [h] at h1
    cases h1
/-- Int64 by its bits -/
def lb (x : Int64) (i : Nat) : Bool := x.toBitVec.getLsbD i
theorem lb_ext {x y : Int64} (h : ∀ i, i < 64 → lb x i = lb y i) : x = y := Int64.toBitVec_inj.mp (BitVec.eq_of_getLsbD_eq fun i hi => h i hi)
theorem lb_or (x y : Int64) (i : Nat) : lb (x ||| y) i = (lb x i || lb y i) := by unfold lb; rw [Int64.toBitVec_or, BitVec.getLsbD_or]
theorem lb_and (x y : Int64) (i : Nat) : lb (x &&& y) i = (lb x i && lb y i) := by unfold lb; rw [Int64.toBitVec_and, BitVec.getLsbD_and]
theorem lb_xor (x y : Int64) (i : Nat) : lb (x ^^^ y) i = (lb x i ^^ lb y i) := by unfold lb; rw [Int64.toBitVec_xor, BitVec.getLsbD_xor]
theorem lb_m1 : ∀ i, i < 64 → lb (-1) i = true := by decide +kernel
theorem lb_0 (i : Nat) : lb 0 i = false := BitVec.getLsbD_zero
theorem lb_no (x : Int64) {i : Nat} (hi : i < 64) : lb (x ^^^ (-1)) i = !lb x i := by
  rw [lb_xor, lb_m1 i hi]; cases lb x i <;> rfl
theorem lb_sh : ∀ n, n < 64 → ∀ i, i < 64 → lb (jLL 1 (nI n)) i = decide (i = n) := by decide +kernel
theorem lb_cu : ∀ k, k < 64 → ((nI k).toInt64.toUInt64 &&& Int64.toUInt64 63).toNat = k := by decide +kernel
theorem lb_1 (i : Nat) : lb 1 i = decide (i = 0) := by
  by_cases h : i < 64
  · exact (by decide +kernel : ∀ i, i < 64 → lb 1 i = decide (i = 0)) i h
  · unfold lb; rw [BitVec.getLsbD_of_ge _ _ (by omega), decide_eq_false (by omega)]
theorem lb_and1 (x : Int64) : x &&& 1 = if lb x 0 then 1 else 0 := by
  refine lb_ext fun i hi => ?_
  rw [lb_and, lb_1]
  by_cases h : i = 0
  · subst h
    cases hx : lb x 0 <;> simp [lb_0, lb_1]
  · rw [decide_eq_false h, Bool.and_false]
    cases hx : lb x 0
    · simp [lb_0]
    · simp [lb_1, h]
theorem lb_shr (x : Int64) {n : Nat} (hn : n < 64) : jSL x (nI n) &&& 1 = if lb x n then 1 else 0 := by
  have h := ts_bit (w := x) (s := ((nI n).toInt64.toUInt64 &&& Int64.toUInt64 63)) hn (lb_cu n hn)
  rw [lb_and1]
  have h2 : (jSL x (nI n) &&& 1) = 0 ↔ lb x n = false := h
  rw [lb_and1] at h2
  cases hx : lb x n with
  | false =>
    rw [hx] at h2
    cases hy : lb (jSL x (nI n)) 0 with
    | false => rfl
    | true =>
      rw [hy] at h2
      exact absurd (h2.mpr rfl) (by decide)
  | true =>
    rw [hx] at h2
    cases hy : lb (jSL x (nI n)) 0 with
    | true => rfl
    | false =>
      rw [hy] at h2
      exact absurd (h2.mp rfl) (by decide)
theorem lb_az {x : Int64} {n : Nat} (hn : n < 64) : x &&& jLL 1 (nI n) = 0 ↔ lb x n = false := by
  constructor
  · intro h
    have := lb_and x (jLL 1 (nI n)) n
    rw [h, lb_0, lb_sh n hn n hn] at this
    simpa using this.symm
  · intro h
    refine lb_ext fun i hi => ?_
    rw [lb_and, lb_0, lb_sh n hn i hi]
    by_cases e : i = n
    · subst e; rw [h]; rfl
    · rw [decide_eq_false e, Bool.and_false]
theorem cmp0 (x : Int64) : lg_cmp x 0 = 0 ↔ x = 0 := by
  unfold lg_cmp
  by_cases h : x > 0
  · rw [if_pos h]
    constructor
    · intro e; exact absurd e (by decide)
    · intro e; subst e; exact absurd h (by decide)
  · rw [if_neg h]
    by_cases h2 : x = 0
    · rw [if_pos h2]; exact ⟨fun _ => h2, fun _ => rfl⟩
    · rw [if_neg h2]; exact ⟨fun e => absurd e (by decide), fun e => absurd e h2⟩
