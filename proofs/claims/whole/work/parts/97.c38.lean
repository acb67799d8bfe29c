/-! ===== the class: states of the reader ===== -/
def RdS (E : Es) (B : Nat → Int32) (n ng nn a : Nat) (I : Tg → Nat → Int32) (p : Nat) (cs : List Int32) : Prop := Rx E I B n ng nn a ∧ (I (6, 0, 0) 4 = nI p ∧ p ≤ n) ∧ (I (6, 0, 0) 5 = 0 ∧ I (6, 0, 0) 6 = -1) ∧ (I (6, 0, 0) 8 = nI cs.length ∧ 2 * cs.length ≤ p) ∧ ∀ i y, cs[i]? = some y → I (6, 1, 0) i = cvS y
def RdF (E : Es) (B : Nat → Int32) (n ng nn a : Nat) (I : Tg → Nat → Int32) (c pl : Nat) : Prop := Rx E I B n ng nn a ∧ (∃ p, p ≤ n ∧ I (6, 0, 0) 4 = nI p) ∧ (I (6, 0, 0) 5 = nI c ∧ (c = 1 ∨ c = 2 ∨ c = 3)) ∧ I (6, 0, 0) 6 = nI pl ∧ ∃ s, s ≤ 200 ∧ I (6, 0, 0) 8 = nI s
def Fr6 (I I' : Tg → Nat → Int32) : Prop := ∀ (t : Tg) (k : Nat), t.1 ≠ 6 → I' t k = I t k
/-- what reads a text as said -/
def RdO (E : Es) (D : Nat → Nat → Int32) (B : Nat → Int32) (n ng nn a : Nat) (x : Mo Unit) (o : Nat → PRes) : Prop := (∀ (Q : Unit → Gh → Prop) (I : Tg → Nat → Int32) (p : Nat) (cs : List Int32), RdS E B n ng nn a I p cs → (∀ e cs' I', o p = .inl (e, cs') → Fr6 I I' → RdS E B n ng nn a I' e (cs ++ cs') → Q () (E, D, I')) → (∀ c pl I', o p = .inr (c, pl) → Fr6 I I' → RdF E B n ng nn a I' c pl → Q () (E, D, I')) → Wp x (E, D, I) Q) ∧ ∀ (Q : Unit → Gh → Prop) (I : Tg → Nat → Int32) (c pl : Nat), RdF E B n ng nn a I c pl → (∀ I', Fr6 I I' → RdF E B n ng nn a I' c pl → Q () (E, D, I')) → Wp x (E, D, I) Q
section RC
variable {E : Es} {I I' I'' : Tg → Nat → Int32} {D : Nat → Nat → Int32} {B : Nat → Int32} {n ng nn a : Nat} {Z : Nat → Nat}
theorem Fr6.rf : Fr6 I I := fun _ _ _ => rfl
theorem Fr6.tr (h : Fr6 I I') (h2 : Fr6 I' I'') : Fr6 I I'' := fun t k ht => (h2 t k ht).trans (h t k ht)
theorem Fr6.us {b c k : Nat} {v : Int32} : Fr6 I (us I (6, b, c) k v) := fun t j ht => us_ne (fun q => ht (by rw [q.1]))
theorem RdS.pos {p q : Nat} {cs : List Int32} (h : RdS E B n ng nn a I p cs) (h1 : p ≤ q) (h2 : q ≤ n) : RdS E B n ng nn a (us I (6, 0, 0) 4 (nI q)) q cs := by
  obtain ⟨a1, a2, a3, a4, a5⟩ := h
  exact ⟨a1.u0 (by omega), ⟨us_eq, h2⟩, ⟨by rw [us_ne (fun q => absurd q.2 (by decide))]; exact a3.1, by rw [us_ne (fun q => absurd q.2 (by decide))]; exact a3.2⟩, ⟨by rw [us_ne (fun q => absurd q.2 (by decide))]; exact a4.1, by omega⟩, fun i y hy => by rw [us_ne (by simp)]; exact a5 i y hy⟩
theorem RdS.bl {p c pl : Nat} {cs : List Int32} (h : RdS E B n ng nn a I p cs) (hc : c = 1 ∨ c = 2 ∨ c = 3) : RdF E B n ng nn a (us (us I (6, 0, 0) 5 (nI c)) (6, 0, 0) 6 (nI pl)) c pl := by
  obtain ⟨a1, a2, a3, a4, a5⟩ := h
  have hn := a1.2.2.1
  refine ⟨(a1.u0 (by omega)).u0 (by omega), ⟨p, a2.2, ?_⟩, ⟨?_, hc⟩, us_eq, cs.length, by omega, ?_⟩
  · rw [us_ne (fun q => absurd q.2 (by decide)), us_ne (fun q => absurd q.2 (by decide))]; exact a2.1
  · rw [us_ne (fun q => absurd q.2 (by decide)), us_eq]
  · rw [us_ne (fun q => absurd q.2 (by decide)), us_ne (fun q => absurd q.2 (by decide))]; exact a4.1
theorem RdS.st {p : Nat} {cs : List Int32} {v y : Int32} (h : RdS E B n ng nn a I p cs) (hv : v = cvS y) (hp : 2 * cs.length + 2 ≤ p) : RdS E B n ng nn a (us (us I (6, 1, 0) cs.length v) (6, 0, 0) 8 (nI (cs.length + 1))) p (cs ++ [y]) := by
  obtain ⟨a1, a2, a3, a4, a5⟩ := h
  refine ⟨a1.u1.u0 (by omega), ⟨?_, a2.2⟩, ⟨?_, ?_⟩, ⟨by rw [us_eq, List.length_append]; rfl, by rw [List.length_append, List.length_singleton]; omega⟩, fun i z hz => ?_⟩
  · rw [us_ne (fun q => absurd q.2 (by decide)), us_ne (by simp)]; exact a2.1
  · rw [us_ne (fun q => absurd q.2 (by decide)), us_ne (by simp)]; exact a3.1
  · rw [us_ne (fun q => absurd q.2 (by decide)), us_ne (by simp)]; exact a3.2
  · rw [us_ne (by simp)]
    by_cases e : i = cs.length
    · subst e
      rw [List.getElem?_append_right (Nat.le_refl _), Nat.sub_self] at hz
      have : y = z := Option.some.inj hz
      rw [us_eq, hv, this]
    · have hi : i < cs.length := by
        have := (List.getElem?_eq_some_iff.mp hz).1
        rw [List.length_append, List.length_singleton] at this
        omega
      rw [List.getElem?_append_left hi] at hz
      rw [us_ne (fun q => e q.2)]
      exact a5 i z hz
theorem RdF.ne {c pl : Nat} (h : RdF E B n ng nn a I c pl) : I (6, 0, 0) 5 ≠ 0 := fun e => by
  obtain ⟨-, -, ⟨h1, h2⟩, -⟩ := h
  rw [h1] at e
  have := (nI_eq (b := 0) (by omega) (by omega)).mp e
  omega
theorem RdF.pos {c pl q : Nat} (h : RdF E B n ng nn a I c pl) (hq : q ≤ n) : RdF E B n ng nn a (us I (6, 0, 0) 4 (nI q)) c pl := by
  obtain ⟨a1, a2, a3, a4, s, a5, a6⟩ := h
  exact ⟨a1.u0 (by omega), ⟨q, hq, us_eq⟩, ⟨by rw [us_ne (fun q => absurd q.2 (by decide))]; exact a3.1, a3.2⟩, by rw [us_ne (fun q => absurd q.2 (by decide))]; exact a4, s, a5, by rw [us_ne (fun q => absurd q.2 (by decide))]; exact a6⟩
theorem RdF.st {c pl s : Nat} {v : Int32} (h : RdF E B n ng nn a I c pl) (hs : s < 200) : RdF E B n ng nn a (us (us I (6, 1, 0) s v) (6, 0, 0) 8 (nI (s + 1))) c pl := by
  obtain ⟨a1, ⟨q, hq, a2⟩, a3, a4, a5⟩ := h
  refine ⟨a1.u1.u0 (by omega), ⟨q, hq, ?_⟩, ⟨?_, a3.2⟩, ?_, s + 1, hs, us_eq⟩
  · rw [us_ne (fun q => absurd q.2 (by decide)), us_ne (by simp)]; exact a2
  · rw [us_ne (fun q => absurd q.2 (by decide)), us_ne (by simp)]; exact a3.1
  · rw [us_ne (fun q => absurd q.2 (by decide)), us_ne (by simp)]; exact a4
/-- words where a fault is known -/
theorem f_word {Q : Int32 → Gh → Prop} {c pl i : Nat} (hZ : ZO Z) (hi : i < 6) (h : RdF E B n ng nn a I c pl) (kk : ∀ I', Fr6 I I' → RdF E B n ng nn a I' c pl → Q 0 (E, D, I')) : Wp (f_X2_takesWord Z (some a) (some (Z (10 + i)))) (E, D, I) Q := by
  obtain ⟨p, hp, h4⟩ := h.2.1
  exact c_word hZ h.1 hi hp h4 (fun e => absurd e h.ne) (fun _ => kk _ Fr6.us (h.pos (sk_le p hp)))
theorem f_blanks {Q : Unit → Gh → Prop} {c pl : Nat} (h : RdF E B n ng nn a I c pl) (kk : ∀ I', Fr6 I I' → RdF E B n ng nn a I' c pl → Q () (E, D, I')) : Wp (f_X2_skipBlanks (some a)) (E, D, I) Q := by
  obtain ⟨p, hp, h4⟩ := h.2.1
  exact c_blanks h.1 hp h4 (kk _ Fr6.us (h.pos (sk_le p hp)))
theorem f_step {Q : Unit → Gh → Prop} {c pl : Nat} {x y : Int32} (h : RdF E B n ng nn a I c pl) (kk : ∀ I', Fr6 I I' → RdF E B n ng nn a I' c pl → Q () (E, D, I')) : Wp (f_X2_addStep (some a) x y) (E, D, I) Q := by
  obtain ⟨s, hs, h8⟩ := h.2.2.2.2
  exact c_stepF h.1 hs h8 (fun _ => kk I Fr6.rf h) (fun hs => kk _ (Fr6.us.tr Fr6.us) (h.st hs))
theorem Rx_b (hR : Rx E I B n ng nn a) {k : Nat} (hk : k < n) : ∃ v, v < 256 ∧ B k = nI v := by
  rw [← hR.2.2.2.2.1 k hk]
  obtain ⟨j, h1, h2⟩ := pk_andE (I (5, 1, 0) k) (m := 255) 8 (by decide)
  exact ⟨j, h1, h2⟩
theorem cvS_n {sort v : Nat} (hs : sort < 3) (hv : v < 60) : nI sort * 256 + nI v = cvS (nI (100 * (sort + 1) + v)) := by
  have e1 : nI sort * 256 + nI v = nI (sort * 256 + v) := by rw [show (256 : Int32) = nI 256 from rfl, pk_mul, nI_add]
  rw [e1]
  unfold cvS
  rw [if_neg (fun e => by have := (nI_eq (b := 0) (by omega) (by omega)).mp e; omega), if_neg (fun e => by have := (nI_eq (b := 1) (by omega) (by omega)).mp e; omega), if_neg (fun e => by have := (nI_eq (b := 2) (by omega) (by omega)).mp e; omega)]
  rcases (show sort = 0 ∨ sort = 1 ∨ sort = 2 by omega) with rfl | rfl | rfl
  · rw [if_pos (show nI (100 * (0 + 1) + v) < 200 from (nI_ltI (b := 200) (by omega) (by omega)).mpr (by omega)), show (100 : Int32) = nI 100 from rfl, pk_sub (by omega)]
    congr 1; omega
  · rw [if_neg (fun e => by have := (nI_ltI (b := 200) (by omega) (by omega)).mp e; omega), if_pos (show nI (100 * (1 + 1) + v) < 300 from (nI_ltI (b := 300) (by omega) (by omega)).mpr (by omega)), show (56 : Int32) = nI 56 from rfl, nI_add]
    congr 1; omega
  · rw [if_neg (fun e => by have := (nI_ltI (b := 200) (by omega) (by omega)).mp e; omega), if_neg (fun e => by have := (nI_ltI (b := 300) (by omega) (by omega)).mp e; omega), show (212 : Int32) = nI 212 from rfl, nI_add]
    congr 1; omega
end RC
