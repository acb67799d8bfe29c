/-! ===== filters' texts: the reading itself ===== -/
abbrev PRes : Type := (Nat × List Int32) ⊕ (Nat × Nat)
def skF (B : Nat → Int32) : Nat → Nat → Nat
  | 0, p => p
  | f + 1, p => if B p = 32 then skF B f (p + 1) else p
/-- behind the blanks -/
def sk (B : Nat → Int32) (n p : Nat) : Nat := skF B (n - p) p
theorem sk_out {B : Nat → Int32} {n p : Nat} (h : ¬ (p < n ∧ B p = 32)) : sk B n p = p := by
  unfold sk
  cases hf : n - p with
  | zero => rfl
  | succ f =>
    rw [skF, if_neg (fun e => h ⟨by omega, e⟩)]
theorem sk_in {B : Nat → Int32} {n p : Nat} (h : p < n) (h2 : B p = 32) : sk B n p = sk B n (p + 1) := by
  unfold sk
  rw [show n - p = (n - (p + 1)) + 1 by omega, skF, if_pos h2]
theorem sk_ind {B : Nat → Int32} {n : Nat} (C : Nat → Prop) (h1 : ∀ p, ¬ (p < n ∧ B p = 32) → C p) (h2 : ∀ p, p < n → B p = 32 → C (p + 1) → C p) : ∀ p, C p := by
  intro p
  suffices ∀ d p, n - p ≤ d → C p from this (n - p) p (Nat.le_refl _)
  intro d
  induction d with
  | zero => intro p hp; exact h1 p (fun e => by omega)
  | succ d ih =>
    intro p hp
    by_cases h : p < n ∧ B p = 32
    · exact h2 p h.1 h.2 (ih (p + 1) (by omega))
    · exact h1 p h
theorem sk_ge {B : Nat → Int32} {n : Nat} : ∀ p, p ≤ sk B n p := by
  refine sk_ind (B := B) (n := n) _ (fun p h => by rw [sk_out h]; exact Nat.le_refl _) (fun p h1 h2 ih => ?_)
  rw [sk_in h1 h2]
  omega
theorem sk_le {B : Nat → Int32} {n : Nat} : ∀ p, p ≤ n → sk B n p ≤ n := by
  refine sk_ind (B := B) (n := n) _ (fun p h hp => by rw [sk_out h]; exact hp) (fun p h1 h2 ih hp => ?_)
  rw [sk_in h1 h2]
  exact ih h1
theorem sk_st {B : Nat → Int32} {n : Nat} : ∀ p, ¬ (sk B n p < n ∧ B (sk B n p) = 32) := by
  refine sk_ind (B := B) (n := n) _ (fun p h => by rw [sk_out h]; exact h) (fun p h1 h2 ih => ?_)
  rw [sk_in h1 h2]
  exact ih
theorem sk_sk {B : Nat → Int32} {n p : Nat} : sk B n (sk B n p) = sk B n p := sk_out (sk_st p)
/-- a word stands here, whole -/
def isW (B : Nat → Int32) (i p : Nat) : Bool := (List.range' 0 (wLen.getD i 0)).all (fun k => decide (B (p + k) = (wByt.getD i []).getD k 0)) && !(decide (97 ≤ B (p + wLen.getD i 0)) && decide (B (p + wLen.getD i 0) ≤ 122))
/-- digits -/
def dgt (B : Nat → Int32) (p : Nat) : Bool := decide (48 ≤ B p) && decide (B p ≤ 57)
def nuF (B : Nat → Int32) : Nat → Nat → Nat → Nat × Nat
  | 0, p, v => (p, v)
  | f + 1, p, v => if dgt B p then nuF B f (p + 1) (min (10 * v + ((B p).toNatClampNeg - 48)) 255) else (p, v)
def nuA (B : Nat → Int32) (n sort most p : Nat) : PRes :=
  if (nuF B (n - sk B n p) (sk B n p) 0).1 = sk B n p then .inr (1, sk B n p)
  else if most ≤ (nuF B (n - sk B n p) (sk B n p) 0).2 then .inr (2, sk B n p)
  else .inl ((nuF B (n - sk B n p) (sk B n p) 0).1, [nI (100 * sort + (nuF B (n - sk B n p) (sk B n p) 0).2)])
/-- the loop of all (w = 4, c = 0) and any (w = 5, c = 1) -/
def lpA (B : Nat → Int32) (n w : Nat) (c : Int32) (o : Nat → PRes) : Nat → Nat → List Int32 → PRes
  | 0, e, cs => .inl (sk B n e, cs)
  | f + 1, e, cs => if isW B w (sk B n e) then (match o (sk B n e + wLen.getD w 0) with
      | .inl r => lpA B n w c o f r.1 (cs ++ r.2 ++ [c])
      | .inr x => .inr x) else .inl (sk B n e, cs)
def sqA (B : Nat → Int32) (n w : Nat) (c : Int32) (o : Nat → PRes) (p : Nat) : PRes := match o p with
  | .inl r => lpA B n w c o (n - r.1) r.1 r.2
  | .inr x => .inr x
def onA (B : Nat → Int32) (n ng nn : Nat) (an on : Nat → Nat → PRes) (d p : Nat) : PRes :=
  if isW B 0 (sk B n p) then (if d = 10 then .inr (3, sk B n p) else match on (d + 1) (sk B n p + 3) with
    | .inl r => .inl (r.1, r.2 ++ [2])
    | .inr x => .inr x)
  else if B (sk B n p) = 40 then (if d = 10 then .inr (3, sk B n p) else match an (d + 1) (sk B n p + 1) with
    | .inl r => if B (sk B n r.1) = 41 then .inl (sk B n r.1 + 1, r.2) else .inr (1, sk B n r.1)
    | .inr x => .inr x)
  else if isW B 1 (sk B n p) then nuA B n 1 ng (sk B n p + 5)
  else if isW B 2 (sk B n p) then nuA B n 2 8 (sk B n p + 4)
  else if isW B 3 (sk B n p) then nuA B n 3 nn (sk B n p + 4)
  else .inr (1, sk B n p)
def pOne (B : Nat → Int32) (n ng nn : Nat) : Nat → Nat → Nat → PRes
  | 0, _, p => .inr (1, p)
  | f + 1, d, p => onA B n ng nn (fun d => sqA B n 5 1 (sqA B n 4 0 (pOne B n ng nn f d))) (pOne B n ng nn f) d p
def pAll (B : Nat → Int32) (n ng nn f d : Nat) : Nat → PRes := sqA B n 4 0 (pOne B n ng nn f d)
def pAny (B : Nat → Int32) (n ng nn f d : Nat) : Nat → PRes := sqA B n 5 1 (pAll B n ng nn f d)
/-- a whole text -/
def pTxt (B : Nat → Int32) (n ng nn : Nat) : PRes := if sk B n 0 < n then (match pAny B n ng nn 16 0 (sk B n 0) with
  | .inl r => if sk B n r.1 < n then .inr (1, sk B n r.1) else .inl (sk B n r.1, r.2)
  | .inr x => .inr x) else .inl (sk B n 0, [])
/-- steps of good form -/
theorem wf_app {ng nn : Nat} : ∀ (a b : List Int32) (n k m : Nat), wfC ng nn a n k → wfC ng nn b k m → wfC ng nn (a ++ b) n m := by
  intro a
  induction a with
  | nil =>
    intro b n k m h1 h2
    have h1 : n = k := h1
    subst h1
    exact h2
  | cons c a ih =>
    intro b n k m h1 h2
    rcases h1 with ⟨q1, q2, q3⟩ | ⟨q1, q2, q3⟩ | ⟨q1, q2, q3⟩
    · exact .inl ⟨q1, q2, ih b _ k m q3 h2⟩
    · exact .inr (.inl ⟨q1, q2, ih b _ k m q3 h2⟩)
    · exact .inr (.inr ⟨q1, q2, ih b _ k m q3 h2⟩)
/-- what a good reading at a depth gives -/
def Gd (ng nn n d p h : Nat) (r : PRes) : Prop := match r with
  | .inl r => p < r.1 ∧ r.1 ≤ n ∧ 2 * r.2.length ≤ r.1 - p ∧ ∀ k, k ≤ h → wfC ng nn r.2 k (k + 1)
  | .inr x => (x.1 = 1 ∨ x.1 = 2 ∨ x.1 = 3) ∧ p ≤ x.2 ∧ x.2 ≤ n
section PP
variable {B : Nat → Int32} {n ng nn : Nat}
/-- behind the text stands nothing -/
def Bz (B : Nat → Int32) (n : Nat) : Prop := ∀ k, n ≤ k → B k = 0
theorem isW_lt (hz : Bz B n) {i p : Nat} (hi : i < 6) (h : isW B i p = true) : p + wLen.getD i 0 ≤ n := by
  have key : ∀ i, i < 6 → 0 < wLen.getD i 0 ∧ (wByt.getD i []).getD (wLen.getD i 0 - 1) 0 ≠ 0 := by decide
  obtain ⟨k1, k2⟩ := key i hi
  unfold isW at h
  rw [Bool.and_eq_true, List.all_eq_true] at h
  have h1 := of_decide_eq_true (h.1 (wLen.getD i 0 - 1) (List.mem_range'_1.mpr (by omega)))
  refine Nat.le_of_not_lt fun hlt => k2 ?_
  rw [← h1]
  exact hz _ (by omega)
theorem nuF_end (hz : Bz B n) : ∀ (f p v : Nat), p ≤ n → n - p ≤ f → p ≤ (nuF B f p v).1 ∧ (nuF B f p v).1 ≤ n := by
  intro f
  induction f with
  | zero => intro p v hp hf; exact ⟨Nat.le_refl _, hp⟩
  | succ f ih =>
    intro p v hp hf
    rw [nuF]
    by_cases h : dgt B p = true
    · rw [if_pos h]
      have hlt : p < n := by
        refine Nat.lt_of_not_le fun hle => ?_
        unfold dgt at h
        rw [hz p hle] at h
        exact absurd h (by decide)
      have := ih (p + 1) (min (10 * v + ((B p).toNatClampNeg - 48)) 255) hlt (by omega)
      omega
    · rw [if_neg h]
      exact ⟨Nat.le_refl _, hp⟩
theorem nuA_gd (hz : Bz B n) {sort most p d h : Nat} (hp : p ≤ n) (hm : most ≤ 60) (hs : (sort = 1 ∧ most = ng) ∨ (sort = 2 ∧ most = 8) ∨ (sort = 3 ∧ most = nn)) (hh : h < 60) {p0 : Nat} (hp0 : p0 + 4 ≤ p) : Gd ng nn n d p0 h (nuA B n sort most p) := by
  have hs1 := sk_ge (B := B) (n := n) p
  have hs2 := sk_le (B := B) (n := n) p hp
  have he := nuF_end hz (n - sk B n p) (sk B n p) 0 hs2 (Nat.le_refl _)
  unfold nuA
  split
  · exact ⟨.inl rfl, by show p0 ≤ sk B n p; omega, hs2⟩
  · rename_i hne
    split
    · exact ⟨.inr (.inl rfl), by show p0 ≤ sk B n p; omega, hs2⟩
    · rename_i hlt
      refine ⟨by show p0 < (nuF B (n - sk B n p) (sk B n p) 0).1; omega, he.2, by show 2 * 1 ≤ (nuF B (n - sk B n p) (sk B n p) 0).1 - p0; omega, fun k hk => ?_⟩
      refine .inr (.inr ⟨⟨(nuF B (n - sk B n p) (sk B n p) 0).2, ?_⟩, by omega, rfl⟩)
      rcases hs with ⟨rfl, rfl⟩ | ⟨rfl, rfl⟩ | ⟨rfl, rfl⟩
      · exact .inl ⟨rfl, by omega⟩
      · exact .inr (.inl ⟨rfl, by omega⟩)
      · exact .inr (.inr ⟨rfl, by omega⟩)
theorem lpA_gd (hz : Bz B n) {w d h : Nat} {c : Int32} (hw : w = 4 ∨ w = 5) (hc : c = 0 ∨ c = 1) {o : Nat → PRes} (ho : ∀ p, p ≤ n → Gd ng nn n d p (h + 1) (o p)) {p : Nat} : ∀ (f e : Nat) (cs : List Int32), p < e → e ≤ n → 2 * cs.length ≤ e - p → (∀ k, k ≤ h → wfC ng nn cs k (k + 1)) → Gd ng nn n d p h (lpA B n w c o f e cs) := by
  intro f
  induction f with
  | zero =>
    intro e cs h1 h2 h3 h4
    have hs1 := sk_ge (B := B) (n := n) e
    exact ⟨by show p < sk B n e; omega, sk_le e h2, by show 2 * cs.length ≤ sk B n e - p; omega, h4⟩
  | succ f ih =>
    intro e cs h1 h2 h3 h4
    have hs1 := sk_ge (B := B) (n := n) e
    have hs2 := sk_le (B := B) (n := n) e h2
    rw [lpA]
    by_cases hW : isW B w (sk B n e) = true
    · rw [if_pos hW]
      have hlt := isW_lt hz (by omega) hW
      have h2l : 2 ≤ wLen.getD w 0 := by rcases hw with rfl | rfl <;> decide
      have hg := ho (sk B n e + wLen.getD w 0) hlt
      cases hr : o (sk B n e + wLen.getD w 0) with
      | inl r =>
        rw [hr] at hg
        obtain ⟨g1, g2, g3, g4⟩ := hg
        refine ih r.1 _ (by omega) g2 ?_ (fun k hk => ?_)
        · rw [List.length_append, List.length_append, List.length_singleton]
          omega
        · refine wf_app _ _ k (k + 1 + 1) (k + 1) (wf_app _ _ k (k + 1) _ (h4 k hk) (g4 (k + 1) (by omega))) ?_
          exact .inl ⟨hc, by omega, rfl⟩
      | inr x =>
        rw [hr] at hg
        exact ⟨hg.1, by show p ≤ x.2; have := hg.2.1; omega, hg.2.2⟩
    · rw [if_neg hW]
      exact ⟨by show p < sk B n e; omega, hs2, by show 2 * cs.length ≤ sk B n e - p; omega, h4⟩
theorem sqA_gd (hz : Bz B n) {w d h : Nat} {c : Int32} (hw : w = 4 ∨ w = 5) (hc : c = 0 ∨ c = 1) {o : Nat → PRes} (ho : ∀ p, p ≤ n → Gd ng nn n d p (h + 1) (o p)) (p : Nat) (hp : p ≤ n) : Gd ng nn n d p h (sqA B n w c o p) := by
  have hg := ho p hp
  unfold sqA
  cases hr : o p with
  | inl r =>
    rw [hr] at hg
    obtain ⟨g1, g2, g3, g4⟩ := hg
    exact lpA_gd hz hw hc ho _ _ _ g1 g2 g3 (fun k hk => g4 k (by omega))
  | inr x =>
    rw [hr] at hg
    exact hg
theorem pOne_gd (hz : Bz B n) (hng : ng ≤ 20) (hnn : nn ≤ 60) : ∀ (f d p : Nat), d ≤ 10 → p ≤ n → Gd ng nn n d p (2 * d + 2) (pOne B n ng nn f d p) := by
  intro f
  induction f with
  | zero => exact fun d p _ hp => ⟨.inl rfl, Nat.le_refl _, hp⟩
  | succ f ih =>
    intro d p hd hp
    have hs1 := sk_ge (B := B) (n := n) p
    have hs2 := sk_le (B := B) (n := n) p hp
    rw [pOne]
    unfold onA
    by_cases w0 : isW B 0 (sk B n p) = true
    · rw [if_pos w0]
      have hlt : sk B n p + 3 ≤ n := isW_lt hz (by omega) w0
      by_cases h10 : d = 10
      · rw [if_pos h10]
        exact ⟨.inr (.inr rfl), hs1, hs2⟩
      · rw [if_neg h10]
        have hg := ih (d + 1) (sk B n p + 3) (by omega) hlt
        cases hr : pOne B n ng nn f (d + 1) (sk B n p + 3) with
        | inl r =>
          rw [hr] at hg
          obtain ⟨g1, g2, g3, g4⟩ := hg
          refine ⟨by show p < r.1; omega, g2, ?_, fun k hk => ?_⟩
          · show 2 * (r.2 ++ [2]).length ≤ r.1 - p
            rw [List.length_append, List.length_singleton]
            omega
          · refine wf_app _ _ k (k + 1) (k + 1) (g4 k (by omega)) ?_
            exact .inr (.inl ⟨rfl, by omega, rfl⟩)
        | inr x =>
          rw [hr] at hg
          exact ⟨hg.1, by show p ≤ x.2; have := hg.2.1; omega, hg.2.2⟩
    · rw [if_neg w0]
      by_cases wb : B (sk B n p) = 40
      · rw [if_pos wb]
        have hlt : sk B n p < n := by
          refine Nat.lt_of_not_le fun hle => ?_
          rw [hz _ hle] at wb
          exact absurd wb (by decide)
        by_cases h10 : d = 10
        · rw [if_pos h10]
          exact ⟨.inr (.inr rfl), hs1, hs2⟩
        · rw [if_neg h10]
          have ho1 : ∀ p, p ≤ n → Gd ng nn n (d + 1) p (2 * d + 3 + 1) (pOne B n ng nn f (d + 1) p) := fun p hp => ih (d + 1) p (by omega) hp
          have ho2 : ∀ p, p ≤ n → Gd ng nn n (d + 1) p (2 * d + 2 + 1) (sqA B n 4 0 (pOne B n ng nn f (d + 1)) p) := fun p hp => sqA_gd hz (.inl rfl) (.inl rfl) ho1 p hp
          have hg := sqA_gd hz (.inr rfl) (.inr rfl) ho2 (sk B n p + 1) hlt
          dsimp only
          cases hr : sqA B n 5 1 (sqA B n 4 0 (pOne B n ng nn f (d + 1))) (sk B n p + 1) with
          | inl r =>
            rw [hr] at hg
            obtain ⟨g1, g2, g3, g4⟩ := hg
            have hs3 := sk_ge (B := B) (n := n) r.1
            have hs4 := sk_le (B := B) (n := n) r.1 g2
            dsimp only
            by_cases wc : B (sk B n r.1) = 41
            · rw [if_pos wc]
              have hlt2 : sk B n r.1 < n := by
                refine Nat.lt_of_not_le fun hle => ?_
                rw [hz _ hle] at wc
                exact absurd wc (by decide)
              exact ⟨by show p < sk B n r.1 + 1; omega, hlt2, by show 2 * r.2.length ≤ sk B n r.1 + 1 - p; omega, g4⟩
            · rw [if_neg wc]
              exact ⟨.inl rfl, by show p ≤ sk B n r.1; omega, hs4⟩
          | inr x =>
            rw [hr] at hg
            exact ⟨hg.1, by show p ≤ x.2; have := hg.2.1; omega, hg.2.2⟩
      · rw [if_neg wb]
        by_cases w1 : isW B 1 (sk B n p) = true
        · rw [if_pos w1]
          have hlt : sk B n p + 5 ≤ n := isW_lt hz (by omega) w1
          exact nuA_gd hz hlt (by omega) (.inl ⟨rfl, rfl⟩) (by omega) (by omega)
        · rw [if_neg w1]
          by_cases w2 : isW B 2 (sk B n p) = true
          · rw [if_pos w2]
            have hlt : sk B n p + 4 ≤ n := isW_lt hz (by omega) w2
            exact nuA_gd hz hlt (by omega) (.inr (.inl ⟨rfl, rfl⟩)) (by omega) (by omega)
          · rw [if_neg w2]
            by_cases w3 : isW B 3 (sk B n p) = true
            · rw [if_pos w3]
              have hlt : sk B n p + 4 ≤ n := isW_lt hz (by omega) w3
              exact nuA_gd hz hlt (by omega) (.inr (.inr ⟨rfl, rfl⟩)) (by omega) (by omega)
            · rw [if_neg w3]
              exact ⟨.inl rfl, hs1, hs2⟩
theorem pAll_gd (hz : Bz B n) (hng : ng ≤ 20) (hnn : nn ≤ 60) (f d p : Nat) (hd : d ≤ 10) (hp : p ≤ n) : Gd ng nn n d p (2 * d + 1) (pAll B n ng nn f d p) := sqA_gd hz (.inl rfl) (.inl rfl) (fun p hp => pOne_gd hz hng hnn f d p hd hp) p hp
theorem pAny_gd (hz : Bz B n) (hng : ng ≤ 20) (hnn : nn ≤ 60) (f d p : Nat) (hd : d ≤ 10) (hp : p ≤ n) : Gd ng nn n d p (2 * d) (pAny B n ng nn f d p) := sqA_gd hz (.inr rfl) (.inr rfl) (fun p hp => pAll_gd hz hng hnn f d p hd hp) p hp
end PP
