/-! ===== the class: a number of a text ===== -/
section RE
variable {E : Es} {I I' I'' : Tg → Nat → Int32} {D : Nat → Nat → Int32} {B : Nat → Int32} {n ng nn a : Nat} {Z : Nat → Nat}
theorem c_rdN {Q : Unit → Gh → Prop} {p sort most : Nat} {cs : List Int32} (hS : RdS E B n ng nn a I p cs) (hs : sort < 3) (hm : most ≤ 60) (h2 : 2 * cs.length + 2 ≤ p) (k1 : ∀ e cs' I', nuA B n (sort + 1) most p = .inl (e, cs') → Fr6 I I' → RdS E B n ng nn a I' e (cs ++ cs') → Q () (E, D, I')) (k2 : ∀ c pl I', nuA B n (sort + 1) most p = .inr (c, pl) → Fr6 I I' → RdF E B n ng nn a I' c pl → Q () (E, D, I')) : Wp (f_X2_readNumber (some a) (nI sort) (nI most)) (E, D, I) Q := by
  have hn := hS.1.2.2.1
  have hz := hS.1.2.2.2.2.2.1
  have hsk := sk_le (B := B) (n := n) p hS.2.1.2
  have hsg := sk_ge (B := B) (n := n) p
  unfold f_X2_readNumber
  refine c_rC hS.1 (c_blanks hS.1 hS.2.1.2 hS.2.1.1 ?_)
  have hS1 := hS.pos hsg hsk
  refine c_rI hS1.1 rfl ?_
  rw [hS1.2.1.1]
  have k1' : ∀ e cs' I', nuA B n (sort + 1) most p = .inl (e, cs') → Fr6 (us I (6, 0, 0) 4 (nI (sk B n p))) I' → RdS E B n ng nn a I' e (cs ++ cs') → Q () (E, D, I') := fun e cs' I' h hf => k1 e cs' I' h (Fr6.us.tr hf)
  have k2' : ∀ c pl I', nuA B n (sort + 1) most p = .inr (c, pl) → Fr6 (us I (6, 0, 0) 4 (nI (sk B n p))) I' → RdF E B n ng nn a I' c pl → Q () (E, D, I') := fun c pl I' h hf => k2 c pl I' h (Fr6.us.tr hf)
  unfold nuA at k1' k2'
  have hlen : 2 * cs.length + 2 ≤ sk B n p := by omega
  clear k1 k2 hS hsg
  generalize us I (6, 0, 0) 4 (nI (sk B n p)) = I at k1' k2' hS1 ⊢
  generalize sk B n p = p at k1' k2' hS1 hsk hlen ⊢
  have fin : ∀ (q v : Nat) (I1 : Tg → Nat → Int32), nuF B (n - p) p 0 = (q, v) → p ≤ q → q ≤ n → v ≤ 255 → Fr6 I I1 → RdS E B n ng nn a I1 q cs → Wp (f_X2_readNumber_85 (some a) (nI sort) (nI most) (nI p) (nI v)) (E, D, I1) Q := by
    intro q v I1 he hpq hqn hv hf h1
    rw [he] at k1' k2'
    dsimp only at k1' k2'
    unfold f_X2_readNumber_85 f_X2_readNumber_127
    refine c_rI h1.1 rfl ?_
    rw [h1.2.1.1]
    by_cases e : q = p
    · subst e
      refine wp_pos rfl ?_
      refine c_rI h1.1 rfl ?_
      rw [h1.2.1.1]
      refine c_rC h1.1 (c_blame h1.1 h1.2.2.1.1 (wp_mp ?_))
      rw [if_pos rfl] at k2'
      exact k2' 1 q _ rfl (hf.tr (Fr6.us.tr Fr6.us)) (h1.bl (.inl rfl))
    · refine wp_neg (fun h => e ((nI_eq (by omega) (by omega)).mp h)) ?_
      rw [if_neg e] at k1' k2'
      by_cases hlt : v < most
      · refine wp_pos ((nI_ltI (by omega) (by omega)).mpr hlt) ?_
        rw [if_neg (by omega)] at k1'
        refine c_rC h1.1 (c_step h1.1 (by omega) h1.2.2.2.1.1 (wp_mp ?_))
        exact k1' q _ _ rfl (hf.tr (Fr6.us.tr Fr6.us)) (h1.st (cvS_n hs (by omega)) (by omega))
      · refine wp_neg (fun h => hlt ((nI_ltI (by omega) (by omega)).mp h)) ?_
        rw [if_pos (by omega)] at k2'
        refine c_rC h1.1 (c_blame h1.1 h1.2.2.1.1 (wp_mp ?_))
        exact k2' 2 p _ rfl (hf.tr (Fr6.us.tr Fr6.us)) (h1.bl (.inr (.inl rfl)))
  have loop : ∀ (d q v fu : Nat) (I1 : Tg → Nat → Int32), n - q ≤ d → d < fu → p ≤ q → q ≤ n → v ≤ 255 → nuF B (n - p) p 0 = nuF B (n - q) q v → Fr6 I I1 → RdS E B n ng nn a I1 q cs → Wp (f_X2_readNumber_12 (some a) (nI sort) (nI most) (nI p) fu (nI v)) (E, D, I1) Q := by
    intro d
    induction d with
    | zero =>
      intro q v fu I1 hd hf hpq hqn hv he hfr h1
      obtain ⟨fu, rfl⟩ : ∃ k, fu = k + 1 := ⟨fu - 1, by omega⟩
      rw [f_X2_readNumber_12]
      refine c_rI h1.1 rfl (c_rI h1.1 rfl ?_)
      rw [h1.2.1.1, h1.1.2.2.2.2.2.2.1]
      refine wp_pos ((nI_leI (by omega) (by omega)).mpr (by omega)) ?_
      rw [show n - q = 0 by omega] at he
      exact fin q v I1 he hpq hqn hv hfr h1
    | succ d ih =>
      intro q v fu I1 hd hf hpq hqn hv he hfr h1
      obtain ⟨fu, rfl⟩ : ∃ k, fu = k + 1 := ⟨fu - 1, by omega⟩
      rw [f_X2_readNumber_12]
      refine c_rI h1.1 rfl (c_rI h1.1 rfl ?_)
      rw [h1.2.1.1, h1.1.2.2.2.2.2.2.1]
      by_cases hlt : q < n
      · refine wp_neg (fun e => by have := (nI_leI (by omega) (by omega)).mp e; omega) ?_
        refine wc_R h1.1.2.1 h1.1.1.2.2.2.2.1 h1.1.1.2.2.2.2.2.1 rfl ?_
        refine c_rI h1.1 rfl ?_
        rw [h1.2.1.1]
        refine wc_call rfl h1.1.1.1 (c_byte h1.1 hlt ?_)
        refine wp_mb (c_betw ?_)
        show Wp (if b2i (dgt B q) = 0 then _ else _) _ _
        cases hb : dgt B q with
        | false =>
          refine wp_pos rfl ?_
          rw [nuF_out hb] at he
          exact fin q v I1 he hpq hqn hv hfr h1
        | true =>
          refine wp_neg (by decide) ?_
          refine wc_R h1.1.2.1 h1.1.1.2.2.2.2.1 h1.1.1.2.2.2.2.2.1 rfl ?_
          refine c_rI h1.1 rfl ?_
          rw [h1.2.1.1]
          refine wc_call rfl h1.1.1.1 (c_byte h1.1 hlt ?_)
          refine c_rI h1.1 rfl ?_
          rw [h1.2.1.1, nI_1]
          refine c_rP h1.1 rfl ?_
          obtain ⟨b, hb2, eb⟩ := Rx_b h1.1 hlt
          rw [show n - q = (n - (q + 1)) + 1 by omega, nuF, if_pos hb, eb, nI_clamp (by omega)] at he
          have h48 : 48 ≤ b := by
            unfold dgt at hb
            rw [Bool.and_eq_true, eb] at hb
            exact (nI_leI (a := 48) (by omega) (by omega)).mp (of_decide_eq_true hb.1)
          have ev : nI v * 10 + B q - 48 = nI (10 * v + (b - 48)) := by
            rw [eb, show (10 : Int32) = nI 10 from rfl, show (48 : Int32) = nI 48 from rfl, pk_mul, nI_add, pk_sub (by omega), show v * 10 + b - 48 = 10 * v + (b - 48) by omega]
          rw [ev, show (255 : Int32) = nI 255 from rfl, jmn (by omega) (by omega)]
          exact ih (q + 1) _ fu _ (by omega) (by omega) (by omega) (by omega) (Nat.min_le_right _ _) he (hfr.tr Fr6.us) (h1.pos (by omega) (by omega))
      · refine wp_pos ((nI_leI (by omega) (by omega)).mpr (by omega)) ?_
        rw [show n - q = 0 by omega] at he
        exact fin q v I1 he hpq hqn hv hfr h1
  exact loop n p 0 fuL I (by omega) (fu_ok (by omega)) (Nat.le_refl _) hsk (by omega) rfl Fr6.rf hS1
end RE
