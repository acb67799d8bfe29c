/-! ===== the class: all and any of a text ===== -/
def GlO (n : Nat) (o : Nat → PRes) : Prop := ∀ p, p ≤ n → ∀ e cs, o p = .inl (e, cs) → p < e ∧ e ≤ n ∧ 2 * cs.length ≤ e - p
section RF
variable {E : Es} {I I' I'' : Tg → Nat → Int32} {D : Nat → Nat → Int32} {B : Nat → Int32} {n ng nn a : Nat} {Z : Nat → Nat}
theorem Gd.gl {d h : Nat} {o : Nat → PRes} (hg : ∀ p, p ≤ n → Gd ng nn n d p h (o p)) : GlO n o := fun p hp e cs ho => by
  have := hg p hp
  rw [ho] at this
  exact ⟨this.1, this.2.1, this.2.2.1⟩
theorem c_both (hZ : ZO Z) {x1 : Int32} {g1 : Option Nat → Int32 → Mo Unit} {o : Nat → PRes} (hO : RdO E D B n ng nn a (g1 (some a) x1) o) (hG : GlO n o) : RdO E D B n ng nn a (f_X2_readBoth Z g1 (some a) x1) (sqA B n 4 0 o) := by
  have loopF : ∀ (Q : Unit → Gh → Prop) (I : Tg → Nat → Int32) (c pl j fu : Nat), j ≤ 200 → RdF E B n ng nn a I c pl → (∀ I', Fr6 I I' → RdF E B n ng nn a I' c pl → Q () (E, D, I')) → Wp (f_X2_readBoth_7 Z g1 (some a) x1 (fu + 1) (nI j)) (E, D, I) Q := by
    intro Q I c pl j fu hj hF kk
    rw [f_X2_readBoth_7]
    unfold f_X2_readBoth_40
    refine wp_ite (fun _ => wp_mp (kk I Fr6.rf hF)) (fun _ => ?_)
    refine c_rC hF.1 (f_word (i := 4) hZ (by omega) hF (fun I1 f1 h1 => ?_))
    exact wp_pos rfl (wp_mp (kk I1 f1 h1))
  refine ⟨fun Q I p cs hS k1 k2 => ?_, fun Q I c pl hF kk => ?_⟩
  · have hn := hS.1.2.2.1
    have hz := hS.1.2.2.2.2.2.1
    have loopS : ∀ (f e j fu : Nat) (I1 : Tg → Nat → Int32) (cs1 : List Int32), n - e ≤ f → j < e → e ≤ n → f < fu → sqA B n 4 0 o p = lpA B n 4 0 o f e cs1 → Fr6 I I1 → RdS E B n ng nn a I1 e (cs ++ cs1) → Wp (f_X2_readBoth_7 Z g1 (some a) x1 fu (nI j)) (E, D, I1) Q := by
      intro f
      induction f with
      | zero =>
        intro e j fu I1 cs1 hf hj he hfu heq hfr h1
        obtain ⟨fu, rfl⟩ : ∃ k, fu = k + 1 := ⟨fu - 1, by omega⟩
        rw [lpA] at heq
        have hs1 := sk_ge (B := B) (n := n) e
        have hs2 := sk_le (B := B) (n := n) e he
        rw [f_X2_readBoth_7]
        unfold f_X2_readBoth_40
        refine wp_neg (fun c => by have := (nI_leI (a := 200) (by omega) (by omega)).mp c; omega) ?_
        refine c_rC h1.1 (c_word (i := 4) hZ h1.1 (by omega) h1.2.1.2 h1.2.1.1 (fun _ hW => ?_) (fun _ => ?_))
        · have := isW_lt hz (i := 4) (by omega) hW
          have h3 : 2 ≤ wLen.getD 4 0 := by decide
          omega
        · exact wp_pos rfl (wp_mp (k1 _ _ _ heq (hfr.tr Fr6.us) (h1.pos hs1 hs2)))
      | succ f ih =>
        intro e j fu I1 cs1 hf hj he hfu heq hfr h1
        obtain ⟨fu, rfl⟩ : ∃ k, fu = k + 1 := ⟨fu - 1, by omega⟩
        rw [lpA] at heq
        have hs1 := sk_ge (B := B) (n := n) e
        have hs2 := sk_le (B := B) (n := n) e he
        have h3 : 2 ≤ wLen.getD 4 0 := by decide
        rw [f_X2_readBoth_7]
        refine wp_neg (fun c => by have := (nI_leI (a := 200) (by omega) (by omega)).mp c; omega) ?_
        refine c_rC h1.1 (c_word (i := 4) hZ h1.1 (by omega) h1.2.1.2 h1.2.1.1 (fun _ hW => ?_) (fun hW => ?_))
        · have hlt := isW_lt hz (i := 4) (by omega) hW
          rw [if_pos hW] at heq
          have h2 := h1.pos (q := sk B n e + wLen.getD 4 0) (by omega) hlt
          refine wp_neg (by decide) ?_
          refine c_rC h2.1 (hO.1 _ _ _ _ h2 (fun e2 cs2 I2 ho f2 h4 => ?_) (fun c pl I2 ho f2 h4 => ?_))
          · obtain ⟨g1', g2', g3'⟩ := hG _ hlt _ _ ho
            rw [ho] at heq
            have hb := h1.2.2.2.1.2
            have hb2 : 2 * (cs ++ cs1 ++ cs2).length + 2 ≤ e2 := by
              rw [List.length_append]
              omega
            have hn2 := h4.2.1.2
            refine c_rC h4.1 (c_step h4.1 (by omega) h4.2.2.2.1.1 ?_)
            have h5 := h4.st (v := (4 : Int32) * 256 + 0) (y := 0) (by decide) hb2
            rw [nI_1]
            refine ih e2 (j + 1) fu _ (cs1 ++ cs2 ++ [0]) (by omega) (by omega) g2' (by omega) heq (((hfr.tr Fr6.us).tr f2).tr (Fr6.us.tr Fr6.us)) ?_
            rw [show cs ++ (cs1 ++ cs2 ++ [0]) = cs ++ cs1 ++ cs2 ++ [0] by simp only [List.append_assoc]]
            exact h5
          · rw [ho] at heq
            refine c_rC h4.1 (f_step h4 (fun I3 f3 h5 => ?_))
            rw [nI_1]
            obtain ⟨fu, rfl⟩ : ∃ k, fu = k + 1 := ⟨fu - 1, by omega⟩
            exact loopF Q I3 c pl (j + 1) fu (by omega) h5 (fun I4 f4 h6 => k2 c pl I4 heq ((((hfr.tr Fr6.us).tr f2).tr f3).tr f4) h6)
        · have hW := hW h1.2.2.1.1
          rw [if_neg (by rw [hW]; decide)] at heq
          unfold f_X2_readBoth_40
          exact wp_pos rfl (wp_mp (k1 _ _ _ heq (hfr.tr Fr6.us) (h1.pos hs1 hs2)))
    unfold f_X2_readBoth
    refine c_rC hS.1 (hO.1 _ _ _ _ hS (fun e cs2 I2 ho f2 h4 => ?_) (fun c pl I2 ho f2 h4 => ?_))
    · obtain ⟨g1', g2', g3'⟩ := hG _ hS.2.1.2 _ _ ho
      have e0 : sqA B n 4 0 o p = lpA B n 4 0 o (n - e) e cs2 := by unfold sqA; rw [ho]
      exact loopS (n - e) e 0 fuL I2 cs2 (Nat.le_refl _) (by omega) g2' (fu_ok (by omega)) e0 f2 h4
    · have e0 : sqA B n 4 0 o p = .inr (c, pl) := by unfold sqA; rw [ho]
      exact loopF Q I2 c pl 0 99999 (by omega) h4 (fun I4 f4 h6 => k2 c pl I4 e0 (f2.tr f4) h6)
  · unfold f_X2_readBoth
    refine c_rC hF.1 (hO.2 _ _ _ _ hF (fun I2 f2 h4 => ?_))
    exact loopF Q I2 c pl 0 99999 (by omega) h4 (fun I4 f4 h6 => kk I4 (f2.tr f4) h6)
theorem c_eith (hZ : ZO Z) {x1 : Int32} {g1 : Option Nat → Int32 → Mo Unit} {o : Nat → PRes} (hO : RdO E D B n ng nn a (g1 (some a) x1) o) (hG : GlO n o) : RdO E D B n ng nn a (f_X2_readEither Z g1 (some a) x1) (sqA B n 5 1 o) := by
  have loopF : ∀ (Q : Unit → Gh → Prop) (I : Tg → Nat → Int32) (c pl j fu : Nat), j ≤ 200 → RdF E B n ng nn a I c pl → (∀ I', Fr6 I I' → RdF E B n ng nn a I' c pl → Q () (E, D, I')) → Wp (f_X2_readEither_7 Z g1 (some a) x1 (fu + 1) (nI j)) (E, D, I) Q := by
    intro Q I c pl j fu hj hF kk
    rw [f_X2_readEither_7]
    unfold f_X2_readEither_40
    refine wp_ite (fun _ => wp_mp (kk I Fr6.rf hF)) (fun _ => ?_)
    refine c_rC hF.1 (f_word (i := 5) hZ (by omega) hF (fun I1 f1 h1 => ?_))
    exact wp_pos rfl (wp_mp (kk I1 f1 h1))
  refine ⟨fun Q I p cs hS k1 k2 => ?_, fun Q I c pl hF kk => ?_⟩
  · have hn := hS.1.2.2.1
    have hz := hS.1.2.2.2.2.2.1
    have loopS : ∀ (f e j fu : Nat) (I1 : Tg → Nat → Int32) (cs1 : List Int32), n - e ≤ f → j < e → e ≤ n → f < fu → sqA B n 5 1 o p = lpA B n 5 1 o f e cs1 → Fr6 I I1 → RdS E B n ng nn a I1 e (cs ++ cs1) → Wp (f_X2_readEither_7 Z g1 (some a) x1 fu (nI j)) (E, D, I1) Q := by
      intro f
      induction f with
      | zero =>
        intro e j fu I1 cs1 hf hj he hfu heq hfr h1
        obtain ⟨fu, rfl⟩ : ∃ k, fu = k + 1 := ⟨fu - 1, by omega⟩
        rw [lpA] at heq
        have hs1 := sk_ge (B := B) (n := n) e
        have hs2 := sk_le (B := B) (n := n) e he
        rw [f_X2_readEither_7]
        unfold f_X2_readEither_40
        refine wp_neg (fun c => by have := (nI_leI (a := 200) (by omega) (by omega)).mp c; omega) ?_
        refine c_rC h1.1 (c_word (i := 5) hZ h1.1 (by omega) h1.2.1.2 h1.2.1.1 (fun _ hW => ?_) (fun _ => ?_))
        · have := isW_lt hz (i := 5) (by omega) hW
          have h3 : 2 ≤ wLen.getD 5 0 := by decide
          omega
        · exact wp_pos rfl (wp_mp (k1 _ _ _ heq (hfr.tr Fr6.us) (h1.pos hs1 hs2)))
      | succ f ih =>
        intro e j fu I1 cs1 hf hj he hfu heq hfr h1
        obtain ⟨fu, rfl⟩ : ∃ k, fu = k + 1 := ⟨fu - 1, by omega⟩
        rw [lpA] at heq
        have hs1 := sk_ge (B := B) (n := n) e
        have hs2 := sk_le (B := B) (n := n) e he
        have h3 : 2 ≤ wLen.getD 5 0 := by decide
        rw [f_X2_readEither_7]
        refine wp_neg (fun c => by have := (nI_leI (a := 200) (by omega) (by omega)).mp c; omega) ?_
        refine c_rC h1.1 (c_word (i := 5) hZ h1.1 (by omega) h1.2.1.2 h1.2.1.1 (fun _ hW => ?_) (fun hW => ?_))
        · have hlt := isW_lt hz (i := 5) (by omega) hW
          rw [if_pos hW] at heq
          have h2 := h1.pos (q := sk B n e + wLen.getD 5 0) (by omega) hlt
          refine wp_neg (by decide) ?_
          refine c_rC h2.1 (hO.1 _ _ _ _ h2 (fun e2 cs2 I2 ho f2 h4 => ?_) (fun c pl I2 ho f2 h4 => ?_))
          · obtain ⟨g1', g2', g3'⟩ := hG _ hlt _ _ ho
            rw [ho] at heq
            have hb := h1.2.2.2.1.2
            have hb2 : 2 * (cs ++ cs1 ++ cs2).length + 2 ≤ e2 := by
              rw [List.length_append]
              omega
            have hn2 := h4.2.1.2
            refine c_rC h4.1 (c_step h4.1 (by omega) h4.2.2.2.1.1 ?_)
            have h5 := h4.st (v := (5 : Int32) * 256 + 0) (y := 1) (by decide) hb2
            rw [nI_1]
            refine ih e2 (j + 1) fu _ (cs1 ++ cs2 ++ [1]) (by omega) (by omega) g2' (by omega) heq (((hfr.tr Fr6.us).tr f2).tr (Fr6.us.tr Fr6.us)) ?_
            rw [show cs ++ (cs1 ++ cs2 ++ [1]) = cs ++ cs1 ++ cs2 ++ [1] by simp only [List.append_assoc]]
            exact h5
          · rw [ho] at heq
            refine c_rC h4.1 (f_step h4 (fun I3 f3 h5 => ?_))
            rw [nI_1]
            obtain ⟨fu, rfl⟩ : ∃ k, fu = k + 1 := ⟨fu - 1, by omega⟩
            exact loopF Q I3 c pl (j + 1) fu (by omega) h5 (fun I4 f4 h6 => k2 c pl I4 heq ((((hfr.tr Fr6.us).tr f2).tr f3).tr f4) h6)
        · have hW := hW h1.2.2.1.1
          rw [if_neg (by rw [hW]; decide)] at heq
          unfold f_X2_readEither_40
          exact wp_pos rfl (wp_mp (k1 _ _ _ heq (hfr.tr Fr6.us) (h1.pos hs1 hs2)))
    unfold f_X2_readEither
    refine c_rC hS.1 (hO.1 _ _ _ _ hS (fun e cs2 I2 ho f2 h4 => ?_) (fun c pl I2 ho f2 h4 => ?_))
    · obtain ⟨g1', g2', g3'⟩ := hG _ hS.2.1.2 _ _ ho
      have e0 : sqA B n 5 1 o p = lpA B n 5 1 o (n - e) e cs2 := by unfold sqA; rw [ho]
      exact loopS (n - e) e 0 fuL I2 cs2 (Nat.le_refl _) (by omega) g2' (fu_ok (by omega)) e0 f2 h4
    · have e0 : sqA B n 5 1 o p = .inr (c, pl) := by unfold sqA; rw [ho]
      exact loopF Q I2 c pl 0 99999 (by omega) h4 (fun I4 f4 h6 => k2 c pl I4 e0 (f2.tr f4) h6)
  · unfold f_X2_readEither
    refine c_rC hF.1 (hO.2 _ _ _ _ hF (fun I2 f2 h4 => ?_))
    exact loopF Q I2 c pl 0 99999 (by omega) h4 (fun I4 f4 h6 => kk I4 (f2.tr f4) h6)
end RF
