/-! ===== the class: bytes of the tape ===== -/
theorem byt_sh (v : Int32) {k : Nat} (hk : k ≤ 24) : Int8.toInt32 (Int32.toInt8 (jSh v (nI k))) = byt v k := by
  unfold byt
  congr 1
  refine Int8.toBitVec_inj.mp ?_
  rw [Int32.toBitVec_toInt8, Int32.toBitVec_toInt8]
  refine BitVec.eq_of_getLsbD_eq (fun i hi => ?_)
  have e : bt (jSh v (nI k)) i = bt (v >>> (nI k &&& 31)) i := by
    rw [b_sshr k (by omega) v (by omega), if_pos (by omega)]
    exact b_ushr k (by omega) v i
  unfold bt at e
  rw [BitVec.getLsbD_signExtend, BitVec.getLsbD_signExtend, decide_eq_true hi, if_pos (by omega), if_pos (by omega), e]
section CZ
variable {E : Es} {I : Tg → Nat → Int32} {G D : Nat → Nat → Int32}
theorem CTap.put {p : Nat} {b : Int32} (h : CTap E I D) : CTap E (us (us I (5, 1, 0) p b) (5, 0, 0) 1 (nI (p + 1))) (tp1 D p b) := by
  obtain ⟨h1, h2, h3⟩ := h
  unfold tp1
  refine ⟨by rw [us_eq, ds_eq], fun k hk => ?_, by rw [us_ne (by simp), us_ne (by simp), ds_ne (fun q => absurd q.2 (by decide)), ds_ne (fun q => absurd q.1 (by decide))]; exact h3⟩
  rw [us_ne (by simp), ds_ne (fun q => absurd q.1 (by decide))]
  by_cases e : k = p
  · subst e; rw [us_eq, ds_eq]
  · rw [us_ne (fun q => e q.2), ds_ne (fun q => e q.2)]; exact h2 k hk
theorem c_addN_1 {Q : Unit → Gh → Prop} {x y : Int32} {a p k fu : Nat} (hT : TapS E) (ha : eAd E (5, 0, 0) = a) (hC : CTap E I D) (hp : D 0 15 = nI p) (hp2 : p < 200) (hk : k ≤ 24) (hy : y = nI k) (kk : ∀ I', (∀ t j, t.1 ≠ 5 → I' t j = I t j) → CTap E I' (tp1 D p (byt x k)) → Wp (f_X10_addNumber_3 (some a) x fu (y + (-8))) (E, G, I') Q) : Wp (f_X10_addNumber_3 (some a) x (fu + 1) y) (E, G, I) Q := by
  obtain ⟨s1, s2, s3, s4, -⟩ := hT
  subst hy
  have e1 : I (5, 0, 0) 1 = nI p := by rw [hC.1, hp]
  rw [f_X10_addNumber_3]
  unfold f_X10_addNumber_49
  refine wp_neg (nI_pos (by omega)) ?_
  refine wc_I ha rfl s1 rfl ?_
  rw [e1]
  refine wp_neg (nI_pos (by omega)) ?_
  refine wc_I ha rfl s1 rfl ?_
  rw [e1]
  refine wc_R ha s1 s2 rfl ?_
  refine wc_aN rfl s3 (by omega) ?_
  rw [s4]
  refine wp_neg (fun e => by have := (nI_leI (by omega) (by omega)).mp e; omega) ?_
  refine wc_R ha s1 s2 rfl ?_
  refine wc_I ha rfl s1 rfl ?_
  rw [e1, byt_sh x hk]
  refine wc_s (t := (5, 1, 0)) p rfl rfl s3 (.inl rfl) rfl (by omega) (by rw [s4]; omega) ?_
  rw [kp_byt]
  refine wc_I ha rfl s1 rfl ?_
  rw [us_ne (by simp), e1, nI_1]
  refine wc_P ha rfl s1 rfl rfl ?_
  refine kk _ (fun t j ht => ?_) hC.put
  rw [us_ne (fun q => ht (by rw [q.1])), us_ne (fun q => ht (by rw [q.1]))]
theorem tp1_15 {p : Nat} {b : Int32} : tp1 D p b 0 15 = nI (p + 1) := by unfold tp1; rw [ds_eq]
theorem c_addN {Q : Unit → Gh → Prop} {x : Int32} {a p : Nat} (hT : TapS E) (ha : eAd E (5, 0, 0) = a) (hC : CTap E I D) (hp : D 0 15 = nI p) (hp2 : p + 4 ≤ 200) (kk : ∀ I', (∀ t j, t.1 ≠ 5 → I' t j = I t j) → CTap E I' (tpL (fdB x) D p) → Q () (E, G, I')) : Wp (f_X10_addNumber (some a) x) (E, G, I) Q := by
  unfold f_X10_addNumber
  rw [show fuL = 99995 + 1 + 1 + 1 + 1 + 1 from rfl]
  refine c_addN_1 (k := 24) hT ha hC hp (by omega) (by omega) rfl (fun I1 f1 h1 => ?_)
  refine c_addN_1 (k := 16) hT ha h1 tp1_15 (by omega) (by omega) rfl (fun I2 f2 h2 => ?_)
  refine c_addN_1 (k := 8) hT ha h2 tp1_15 (by omega) (by omega) rfl (fun I3 f3 h3 => ?_)
  refine c_addN_1 (k := 0) hT ha h3 tp1_15 (by omega) (by omega) rfl (fun I4 f4 h4 => ?_)
  rw [f_X10_addNumber_3]
  refine wp_pos (by decide) (wp_mp (kk I4 (fun t j ht => ?_) h4))
  rw [f4 t j ht, f3 t j ht, f2 t j ht, f1 t j ht]
end CZ
