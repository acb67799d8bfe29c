/-! ===== the class: words and numbers of a text ===== -/
section RB
variable {E : Es} {I I' I'' : Tg → Nat → Int32} {D : Nat → Nat → Int32} {B : Nat → Int32} {n ng nn a : Nat} {Z : Nat → Nat}
def letB (x : Int32) : Bool := decide (97 ≤ x) && decide (x ≤ 122)
theorem wLet : ∀ i, i < 6 → ∀ k, k < wLen.getD i 0 → letB ((wByt.getD i []).getD k 0) = true := by decide
theorem isW_pos {i p : Nat} (h1 : ∀ k, k < wLen.getD i 0 → B (p + k) = (wByt.getD i []).getD k 0) (h2 : letB (B (p + wLen.getD i 0)) = false) : isW B i p = true := by
  unfold isW
  unfold letB at h2
  rw [h2, Bool.and_eq_true, List.all_eq_true]
  exact ⟨fun k hk => decide_eq_true (h1 k (by have := List.mem_range'_1.mp hk; omega)), rfl⟩
theorem isW_ne {i p k : Nat} (hk : k < wLen.getD i 0) (h : B (p + k) ≠ (wByt.getD i []).getD k 0) : isW B i p = false := by
  unfold isW
  rw [Bool.and_eq_false_iff]
  refine .inl ?_
  rw [List.all_eq_false]
  exact ⟨k, List.mem_range'_1.mpr (by omega), by rw [decide_eq_false h]; decide⟩
theorem isW_let {i p : Nat} (h : letB (B (p + wLen.getD i 0)) = true) : isW B i p = false := by
  unfold letB at h
  unfold isW
  rw [h, Bool.not_true, Bool.and_false]
theorem c_word {Q : Int32 → Gh → Prop} (hZ : ZO Z) (hR : Rx E I B n ng nn a) {p i : Nat} (hi : i < 6) (hp : p ≤ n) (hI : I (6, 0, 0) 4 = nI p) (k1 : I (6, 0, 0) 5 = 0 → isW B i (sk B n p) = true → Q 1 (E, D, us I (6, 0, 0) 4 (nI (sk B n p + wLen.getD i 0)))) (k2 : (I (6, 0, 0) 5 = 0 → isW B i (sk B n p) = false) → Q 0 (E, D, us I (6, 0, 0) 4 (nI (sk B n p)))) : Wp (f_X2_takesWord Z (some a) (some (Z (10 + i)))) (E, D, I) Q := by
  have hn := hR.2.2.1
  have h5 : ∀ i, i < 6 → wLen.getD i 0 ≤ 5 := by decide
  have hi5 := h5 i hi
  have hsk := sk_le (B := B) (n := n) p hp
  unfold f_X2_takesWord
  refine c_rC hR (c_blanks hR hp hI ?_)
  have e5 : us I (6, 0, 0) 4 (nI (sk B n p)) (6, 0, 0) 5 = I (6, 0, 0) 5 := us_ne (fun q => absurd q.2 (by decide))
  have e4 : us I (6, 0, 0) 4 (nI (sk B n p)) (6, 0, 0) 4 = nI (sk B n p) := us_eq
  have k1' : I (6, 0, 0) 5 = 0 → isW B i (sk B n p) = true → Q 1 (E, D, us (us I (6, 0, 0) 4 (nI (sk B n p))) (6, 0, 0) 4 (nI (sk B n p + wLen.getD i 0))) := fun h0 h1 => by rw [us_us]; exact k1 h0 h1
  rw [← e5] at k1' k2
  have hR2 : Rx E (us I (6, 0, 0) 4 (nI (sk B n p))) B n ng nn a := hR.u0 (by omega)
  clear k1 e5 hI hR
  generalize us I (6, 0, 0) 4 (nI (sk B n p)) = I at k1' k2 e4 hR2 ⊢
  generalize sk B n p = p at k1' k2 e4 hsk ⊢
  refine c_rI hR2 rfl ?_
  rw [e4]
  have fin : ∀ q, p ≤ q → q ≤ n → (∀ k, p ≤ k → k < q → letB (B k) = true) → letB (B q) = false → Wp (f_X2_takesWord_41 Z (some a) (some (Z (10 + i))) (nI q)) (E, D, I) Q := by
    intro q hpq hqn hall hq
    unfold f_X2_takesWord_41 f_X2_takesWord_61
    refine c_rI hR2 rfl ?_
    refine wp_ite (fun c0 => ?_) (fun c0 => wp_rz (.inl rfl) (k2 (fun e => absurd e c0)))
    have k1 := k1' c0
    refine c_rI hR2 rfl ?_
    rw [e4]
    refine wp_mb (wp_moS hZ hi (w_len hZ hi ?_))
    rw [pk_sub hpq]
    refine wp_ite (fun c => ?_) (fun c => ?_)
    · have eL : q - p = wLen.getD i 0 := (nI_eq (by omega) (by omega)).mp c
      have loop : ∀ (d j fu : Nat), d + j = wLen.getD i 0 → d < fu → (∀ k, k < j → B (p + k) = (wByt.getD i []).getD k 0) → Wp (f_X2_takesWord_65 Z (some a) (some (Z (10 + i))) (nI q) fu (nI j)) (E, D, I) Q := by
        intro d
        induction d with
        | zero =>
          intro j fu hj hf hw
          obtain ⟨fu, rfl⟩ : ∃ k, fu = k + 1 := ⟨fu - 1, by omega⟩
          rw [f_X2_takesWord_65]
          refine wp_mb (wp_moS hZ hi (w_len hZ hi ?_))
          refine wp_pos ((nI_leI (by omega) (by omega)).mpr (by omega)) ?_
          refine c_rP hR2 rfl (wp_rz (.inr rfl) ?_)
          rw [show q = p + wLen.getD i 0 by omega]
          exact k1 (isW_pos (fun k hk => hw k (by omega)) (by rw [show p + wLen.getD i 0 = q by omega]; exact hq))
        | succ d ih =>
          intro j fu hj hf hw
          obtain ⟨fu, rfl⟩ : ∃ k, fu = k + 1 := ⟨fu - 1, by omega⟩
          rw [f_X2_takesWord_65]
          refine wp_mb (wp_moS hZ hi (w_len hZ hi ?_))
          refine wp_neg (fun e => by have := (nI_leI (by omega) (by omega)).mp e; omega) ?_
          refine wc_R hR2.2.1 hR2.1.2.2.2.2.1 hR2.1.2.2.2.2.2.1 rfl ?_
          refine c_rI hR2 rfl ?_
          rw [e4, nI_add]
          refine wc_call rfl hR2.1.1 (c_byte hR2 (by omega) ?_)
          refine wp_mb (wp_moS hZ hi (w_chr hZ hi (by omega) ?_))
          refine wp_ite (fun c2 => ?_) (fun c2 => wp_rz (.inl rfl) (k2 (fun _ => isW_ne (by omega) c2)))
          rw [nI_1]
          refine ih (j + 1) fu (by omega) (by omega) (fun k hk => ?_)
          by_cases e : k = j
          · rw [e]; exact c2
          · exact hw k (by omega)
      exact loop (wLen.getD i 0) 0 fuL (by omega) (fu_ok (by omega)) (fun k hk => absurd hk (Nat.not_lt_zero _))
    · refine wp_rz (.inl rfl) (k2 (fun _ => ?_))
      have hne : q - p ≠ wLen.getD i 0 := fun e => c (by rw [e])
      by_cases hlt : q - p < wLen.getD i 0
      · refine isW_ne hlt (fun e => ?_)
        have h1 := wLet i hi (q - p) hlt
        rw [← e, show p + (q - p) = q by omega, hq] at h1
        cases h1
      · exact isW_let (hall _ (by omega) (by omega))
  have scan : ∀ (d q fu : Nat), n - q ≤ d → d < fu → p ≤ q → q ≤ n → (∀ k, p ≤ k → k < q → letB (B k) = true) → Wp (f_X2_takesWord_9 Z (some a) (some (Z (10 + i))) fu (nI q)) (E, D, I) Q := by
    intro d
    induction d with
    | zero =>
      intro q fu hd hf hpq hqn hall
      obtain ⟨fu, rfl⟩ : ∃ k, fu = k + 1 := ⟨fu - 1, by omega⟩
      rw [f_X2_takesWord_9]
      refine c_rI hR2 rfl ?_
      rw [hR2.2.2.2.2.2.2.1]
      refine wp_pos ((nI_leI (by omega) (by omega)).mpr (by omega)) ?_
      exact fin q hpq hqn hall (by rw [hR2.2.2.2.2.2.1 q (by omega)]; decide)
    | succ d ih =>
      intro q fu hd hf hpq hqn hall
      obtain ⟨fu, rfl⟩ : ∃ k, fu = k + 1 := ⟨fu - 1, by omega⟩
      rw [f_X2_takesWord_9]
      refine c_rI hR2 rfl ?_
      rw [hR2.2.2.2.2.2.2.1]
      by_cases hlt : q < n
      · refine wp_neg (fun e => by have := (nI_leI (by omega) (by omega)).mp e; omega) ?_
        refine c_tape hR2 hlt ?_
        refine wp_mb (c_betw ?_)
        show Wp (if b2i (letB (B q)) = 0 then _ else _) _ _
        cases hb : letB (B q) with
        | false => exact wp_pos rfl (fin q hpq hqn hall hb)
        | true =>
          refine wp_neg (by decide) ?_
          rw [nI_1]
          refine ih (q + 1) fu (by omega) (by omega) (by omega) (by omega) (fun k h1 h2 => ?_)
          by_cases e : k = q
          · rw [e]; exact hb
          · exact hall k h1 (by omega)
      · refine wp_pos ((nI_leI (by omega) (by omega)).mpr (by omega)) ?_
        exact fin q hpq hqn hall (by rw [hR2.2.2.2.2.2.1 q (by omega)]; decide)
  exact scan n p fuL (by omega) (fu_ok (by omega)) (Nat.le_refl _) hsk (fun k h1 h2 => by omega)
end RB
