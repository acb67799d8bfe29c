/-! ===== the class: reading a filter's text ===== -/
def Rx (E : Es) (I : Tg → Nat → Int32) (B : Nat → Int32) (n ng nn a : Nat) : Prop := TapS E ∧ eAd E (6, 0, 0) = a ∧ n ≤ 200 ∧ (∃ tp, n ≤ tp ∧ tp ≤ 200 ∧ I (5, 0, 0) 1 = nI tp) ∧ (∀ k, k < n → I (5, 1, 0) k &&& 255 = B k) ∧ Bz B n ∧ I (6, 0, 0) 1 = nI n ∧ I (6, 0, 0) 2 = nI ng ∧ I (6, 0, 0) 3 = nI nn ∧ ng ≤ 20 ∧ nn ≤ 60
section RA
variable {E : Es} {I I' I'' : Tg → Nat → Int32} {D : Nat → Nat → Int32} {B : Nat → Int32} {n ng nn a : Nat} {Z : Nat → Nat}
theorem us_us {t : Tg} {k : Nat} {v w : Int32} : us (us I t k v) t k w = us I t k w := by
  funext u j
  unfold us
  split
  · rfl
  · rfl
theorem us_id {t : Tg} {k : Nat} {v : Int32} (h : I t k = v) : us I t k v = I := by
  funext u j
  unfold us
  split
  · rename_i e
    rw [e.1, e.2]
    exact h.symm
  · rfl
theorem Rx.u0 {k : Nat} {v : Int32} (h : Rx E I B n ng nn a) (hk : 4 ≤ k) : Rx E (us I (6, 0, 0) k v) B n ng nn a := by
  obtain ⟨h1, h2, h3, ⟨tp, h4, h5, h6⟩, h7, h8, h9, h10, h11, h12⟩ := h
  refine ⟨h1, h2, h3, ⟨tp, h4, h5, by rw [us_ne (by simp)]; exact h6⟩, fun k hk => by rw [us_ne (by simp)]; exact h7 k hk, h8, by rw [us_ne (fun q => by have := q.2; omega)]; exact h9, by rw [us_ne (fun q => by have := q.2; omega)]; exact h10, by rw [us_ne (fun q => by have := q.2; omega)]; exact h11, h12⟩
theorem Rx.u1 {k : Nat} {v : Int32} (h : Rx E I B n ng nn a) : Rx E (us I (6, 1, 0) k v) B n ng nn a := by
  obtain ⟨h1, h2, h3, ⟨tp, h4, h5, h6⟩, h7, h8, h9, h10, h11, h12⟩ := h
  exact ⟨h1, h2, h3, ⟨tp, h4, h5, by rw [us_ne (by simp)]; exact h6⟩, fun k hk => by rw [us_ne (by simp)]; exact h7 k hk, h8, by rw [us_ne (by simp)]; exact h9, by rw [us_ne (by simp)]; exact h10, by rw [us_ne (by simp)]; exact h11, h12⟩
theorem c_byte {Q : Int32 → Gh → Prop} (hR : Rx E I B n ng nn a) {k : Nat} (hk : k < n) (kk : Q (B k) (E, D, I)) : Wp (f_X10_byteAt (some (eAd E (5, 0, 0))) (nI k)) (E, D, I) Q := by
  obtain ⟨⟨s1, s2, s3, s4, -⟩, h2, h3, ⟨tp, h4, h5, h6⟩, h7, -⟩ := hR
  unfold f_X10_byteAt
  refine wp_neg (nI_pos (by omega)) ?_
  refine wc_I (t := (5, 0, 0)) rfl rfl s1 rfl ?_
  rw [h6]
  refine wp_neg (fun e => by have := (nI_leI (by omega) (by omega)).mp e; omega) ?_
  refine wc_R rfl s1 s2 rfl ?_
  refine wc_aN rfl s3 (by omega) ?_
  rw [s4]
  refine wp_neg (fun e => by have := (nI_leI (by omega) (by omega)).mp e; omega) ?_
  refine wc_R rfl s1 s2 rfl ?_
  refine wc_a (t := (5, 1, 0)) k rfl rfl s3 (.inl rfl) rfl (by omega) (by rw [s4]; omega) ?_
  unfold f_X10_byteAt_35
  rw [h7 k hk]
  exact wp_mp kk
theorem c_tape {α : Type} {Q : α → Gh → Prop} {K : Int32 → Mo α} (hR : Rx E I B n ng nn a) {k : Nat} (hk : k < n) (kk : Wp (K (B k)) (E, D, I) Q) : Wp (mb (gR 5 0 (some a)) (fun v => mb (mo 13 v (f_X10_byteAt v (nI k))) K)) (E, D, I) Q := by
  obtain ⟨s1, s2, s3, s4, s5, s6, -⟩ := id hR.1
  refine wc_R hR.2.1 s5 s6 rfl ?_
  exact wc_call rfl s1 (c_byte hR hk kk)
theorem c_rI {α : Type} {Q : α → Gh → Prop} {K : Int32 → Mo α} (hR : Rx E I B n ng nn a) {k : Nat} (hty : (p_ty 5)[k]? = some 0) (kk : Wp (K (I (6, 0, 0) k)) (E, D, I) Q) : Wp (mb (gI 5 k (some a)) K) (E, D, I) Q := wc_I hR.2.1 rfl hR.1.2.2.2.2.1 hty kk
theorem c_rP {α : Type} {Q : α → Gh → Prop} {K : Unit → Mo α} (hR : Rx E I B n ng nn a) {k : Nat} {v : Int32} (hty : (p_ty 5)[k]? = some 0) (kk : Wp (K ()) (E, D, us I (6, 0, 0) k v) Q) : Wp (mb (pV 5 k (some a) (.int v)) K) (E, D, I) Q := wc_P hR.2.1 rfl hR.1.2.2.2.2.1 hty rfl kk
theorem c_rC {α β : Type} {Q : α → Gh → Prop} {x : Mo β} {K : β → Mo α} (hR : Rx E I B n ng nn a) (kk : Wp x (E, D, I) (fun r g' => Wp (K r) g' Q)) : Wp (mb (mo 5 (some a) x) K) (E, D, I) Q := wc_call hR.2.1 hR.1.2.2.2.2.1 kk
theorem c_betw {Q : Int32 → Gh → Prop} {g : Gh} {x lo hi : Int32} (kk : Q (b2i (decide (lo ≤ x) && decide (x ≤ hi))) g) : Wp (f_X2_isBetween x lo hi) g Q := by
  unfold f_X2_isBetween f_X2_isBetween_14 f_X2_isBetween_15
  refine wp_ite (fun c => ?_) (fun c => ?_)
  · rw [decide_eq_false (Int32.not_le.mpr c)] at kk
    exact wp_rz (.inl rfl) kk
  · rw [decide_eq_true (Int32.not_lt.mp c)] at kk
    refine wp_ite (fun c2 => ?_) (fun c2 => ?_)
    · rw [decide_eq_false (Int32.not_le.mpr c2)] at kk
      exact wp_rz (.inl rfl) kk
    · rw [decide_eq_true (Int32.not_lt.mp c2)] at kk
      exact wp_rz (.inr rfl) kk
theorem c_blanks {Q : Unit → Gh → Prop} (hR : Rx E I B n ng nn a) {p : Nat} (hp : p ≤ n) (hI : I (6, 0, 0) 4 = nI p) (kk : Q () (E, D, us I (6, 0, 0) 4 (nI (sk B n p)))) : Wp (f_X2_skipBlanks (some a)) (E, D, I) Q := by
  have hn := hR.2.2.1
  have key : ∀ (d p fu : Nat) (I : Tg → Nat → Int32), Rx E I B n ng nn a → I (6, 0, 0) 4 = nI p → p ≤ n → n - p ≤ d → d < fu → Q () (E, D, us I (6, 0, 0) 4 (nI (sk B n p))) → Wp (f_X2_skipBlanks_0 (some a) fu) (E, D, I) Q := by
    intro d
    induction d with
    | zero =>
      intro p fu I hR hI hp hd hf kk
      obtain ⟨fu, rfl⟩ : ∃ k, fu = k + 1 := ⟨fu - 1, by omega⟩
      rw [f_X2_skipBlanks_0]
      unfold f_X2_skipBlanks_40
      refine c_rI hR rfl (c_rI hR rfl ?_)
      rw [hI, hR.2.2.2.2.2.2.1]
      refine wp_pos ((nI_leI (by omega) (by omega)).mpr (by omega)) ?_
      rw [sk_out (by omega), us_id hI] at kk
      exact wp_mp kk
    | succ d ih =>
      intro p fu I hR hI hp hd hf kk
      obtain ⟨fu, rfl⟩ : ∃ k, fu = k + 1 := ⟨fu - 1, by omega⟩
      rw [f_X2_skipBlanks_0]
      refine c_rI hR rfl (c_rI hR rfl ?_)
      rw [hI, hR.2.2.2.2.2.2.1]
      by_cases hlt : p < n
      · refine wp_neg (fun e => by have := (nI_leI (by omega) (by omega)).mp e; omega) ?_
        refine wc_R hR.2.1 hR.1.2.2.2.2.1 hR.1.2.2.2.2.2.1 rfl ?_
        refine c_rI hR rfl ?_
        rw [hI]
        refine wc_call rfl hR.1.1 (c_byte hR hlt ?_)
        refine wp_ite (fun c => ?_) (fun c => ?_)
        · rw [sk_in hlt c] at kk
          refine c_rI hR rfl ?_
          rw [hI, nI_1]
          refine c_rP hR rfl ?_
          refine ih (p + 1) fu _ (hR.u0 (by omega)) us_eq (by omega) (by omega) (by omega) ?_
          rw [us_us]
          exact kk
        · rw [sk_out (fun e => c e.2), us_id hI] at kk
          exact wp_mp kk
      · refine wp_pos ((nI_leI (by omega) (by omega)).mpr (by omega)) ?_
        rw [sk_out (by omega), us_id hI] at kk
        exact wp_mp kk
  unfold f_X2_skipBlanks
  exact key n p fuL I hR hI hp (by omega) (fu_ok (by omega)) kk
theorem c_tkB {Q : Int32 → Gh → Prop} (hR : Rx E I B n ng nn a) {p : Nat} {x : Int32} (hx : x ≠ 0) (hp : p ≤ n) (hI : I (6, 0, 0) 4 = nI p) (h5 : I (6, 0, 0) 5 = 0) (k1 : B p = x → Q 1 (E, D, us I (6, 0, 0) 4 (nI (p + 1)))) (k2 : B p ≠ x → Q 0 (E, D, I)) : Wp (f_X2_takesByte (some a) x) (E, D, I) Q := by
  have hn := hR.2.2.1
  unfold f_X2_takesByte f_X2_takesByte_33
  refine c_rI hR rfl ?_
  rw [h5]
  refine wp_pos rfl ?_
  refine c_rI hR rfl (c_rI hR rfl ?_)
  rw [hI, hR.2.2.2.2.2.2.1]
  by_cases hlt : p < n
  · refine wp_neg (fun e => by have := (nI_leI (by omega) (by omega)).mp e; omega) ?_
    refine wc_R hR.2.1 hR.1.2.2.2.2.1 hR.1.2.2.2.2.2.1 rfl ?_
    refine c_rI hR rfl ?_
    rw [hI]
    refine wc_call rfl hR.1.1 (c_byte hR hlt ?_)
    refine wp_ite (fun c => ?_) (fun c => ?_)
    · refine c_rI hR rfl ?_
      rw [hI, nI_1]
      refine c_rP hR rfl ?_
      exact wp_rz (.inr rfl) (k1 c)
    · exact wp_rz (.inl rfl) (k2 c)
  · refine wp_pos ((nI_leI (by omega) (by omega)).mpr (by omega)) ?_
    exact wp_rz (.inl rfl) (k2 (fun e => hx (by rw [← e]; exact hR.2.2.2.2.2.1 p (by omega))))
theorem c_tkB1 {Q : Int32 → Gh → Prop} (hR : Rx E I B n ng nn a) {x : Int32} (h5 : I (6, 0, 0) 5 ≠ 0) (k2 : Q 0 (E, D, I)) : Wp (f_X2_takesByte (some a) x) (E, D, I) Q := by
  unfold f_X2_takesByte f_X2_takesByte_33
  refine c_rI hR rfl ?_
  exact wp_neg h5 (wp_rz (.inl rfl) k2)
theorem c_step {Q : Unit → Gh → Prop} (hR : Rx E I B n ng nn a) {s : Nat} {x y : Int32} (hs : s < 200) (h8 : I (6, 0, 0) 8 = nI s) (kk : Q () (E, D, us (us I (6, 1, 0) s (x * 256 + y)) (6, 0, 0) 8 (nI (s + 1)))) : Wp (f_X2_addStep (some a) x y) (E, D, I) Q := by
  obtain ⟨s1, s2, s3, s4, s5, s6, s7, s8, s9⟩ := id hR.1
  unfold f_X2_addStep f_X2_addStep_45
  refine c_rI hR rfl ?_
  rw [h8]
  refine wp_neg (nI_pos (by omega)) ?_
  refine c_rI hR rfl ?_
  rw [h8]
  refine wc_R hR.2.1 s5 s7 rfl ?_
  refine wc_aN rfl s8 (by omega) ?_
  rw [s9]
  refine wp_neg (fun e => by have := (nI_leI (by omega) (by omega)).mp e; omega) ?_
  refine wc_R hR.2.1 s5 s7 rfl ?_
  refine c_rI hR rfl ?_
  rw [h8]
  refine wc_s (t := (6, 1, 0)) s rfl rfl s8 (.inr (.inl rfl)) rfl (by omega) (by rw [s9]; omega) ?_
  refine c_rI hR.u1 rfl ?_
  rw [us_ne (by simp), h8, nI_1]
  refine c_rP hR.u1 rfl (wp_mp kk)
theorem c_stepF {Q : Unit → Gh → Prop} (hR : Rx E I B n ng nn a) {s : Nat} {x y : Int32} (hs : s ≤ 200) (h8 : I (6, 0, 0) 8 = nI s) (k1 : s = 200 → Q () (E, D, I)) (k2 : s < 200 → Q () (E, D, us (us I (6, 1, 0) s (x * 256 + y)) (6, 0, 0) 8 (nI (s + 1)))) : Wp (f_X2_addStep (some a) x y) (E, D, I) Q := by
  by_cases h : s < 200
  · exact c_step hR h h8 (k2 h)
  obtain ⟨s1, s2, s3, s4, s5, s6, s7, s8, s9⟩ := id hR.1
  unfold f_X2_addStep f_X2_addStep_45
  refine c_rI hR rfl ?_
  rw [h8]
  refine wp_neg (nI_pos (by omega)) ?_
  refine c_rI hR rfl ?_
  rw [h8]
  refine wc_R hR.2.1 s5 s7 rfl ?_
  refine wc_aN rfl s8 (by omega) ?_
  rw [s9]
  refine wp_pos ((nI_leI (by omega) (by omega)).mpr (by omega)) ?_
  exact wp_mp (k1 (by omega))
theorem c_blame {Q : Unit → Gh → Prop} (hR : Rx E I B n ng nn a) {x y : Int32} (h5 : I (6, 0, 0) 5 = 0) (kk : Q () (E, D, us (us I (6, 0, 0) 5 x) (6, 0, 0) 6 y)) : Wp (f_X2_blame (some a) x y) (E, D, I) Q := by
  unfold f_X2_blame f_X2_blame_17
  refine c_rI hR rfl ?_
  rw [h5]
  refine wp_pos rfl ?_
  refine c_rP hR rfl ?_
  exact c_rP (hR.u0 (by omega)) rfl (wp_mp kk)
theorem c_blame1 {Q : Unit → Gh → Prop} (hR : Rx E I B n ng nn a) {x y : Int32} (h5 : I (6, 0, 0) 5 ≠ 0) (kk : Q () (E, D, I)) : Wp (f_X2_blame (some a) x y) (E, D, I) Q := by
  unfold f_X2_blame f_X2_blame_17
  refine c_rI hR rfl ?_
  exact wp_neg h5 (wp_mp kk)
end RA
