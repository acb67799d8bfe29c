/-! ===== the model's reader: numbers, one, all, any ===== -/
section MR
variable {dm am n ng nn : Nat} {B : Nat → Int32} {Z : Nat → Nat}
/-- how a part of the reading ends -/
def REnd (am n d c p x : Nat) (g : Gh) (Q : Unit → Gh → Prop) (r : PRes) : Prop := match r with
  | .inl r => ∀ E' D' I', PX am c g (E', D', I') → D' 0 17 = nI r.1 → D' 0 18 = 0 → D' 0 19 = g.2.1 0 19 → D' 0 20 = nI d → D' 0 22 = nI (c + r.2.length) → (∀ i y, r.2[i]? = some y → D' 21 (c + i) = y) → c + r.2.length ≤ eCu E' → Q () (E', D', I')
  | .inr f => ∀ E' D' I' c' a, PX am c g (E', D', I') → D' 0 17 = nI a → a ≤ n + (12 - d) → D' 0 18 = nI f.1 → D' 0 19 = nI f.2 → D' 0 22 = nI c' → c ≤ c' → c' ≤ eCu E' → c' ≤ c + (n - p) + x → Q () (E', D', I')
/-- a part of the reader reads as r says -/
def RDo (dm am n ng nn x : Nat) (B : Nat → Int32) (f : Option Nat → Mo Unit) (r : Nat → Nat → PRes) : Prop := ∀ (E : Es) (D : Nat → Nat → Int32) (I : Tg → Nat → Int32) (Q : Unit → Gh → Prop) (d p c : Nat), ModS E am → eCu E ≤ 40960 → PC B n ng nn D → d ≤ 10 → dm ≤ d → p ≤ n → D 0 17 = nI p → D 0 18 = 0 → D 0 20 = nI d → D 0 22 = nI c → c ≤ eCu E → c + (n - p) + 3 * (11 - d) + x ≤ 20290 → REnd am n d c p (3 * (11 - d) + x) (E, D, I) Q (r d p) → Wp (f (some am)) (E, D, I) Q
theorem B_lt (hP : ∃ D, PC B n ng nn D) {k : Nat} : ∃ v, v < 256 ∧ B k = nI v := by
  obtain ⟨D, -, -, hB, -⟩ := hP
  rw [hB k]
  split
  · obtain ⟨j, h1, h2⟩ := pk_andE (D 14 k) (m := 255) 8 (by decide)
    exact ⟨j, h1, h2⟩
  · exact ⟨0, by omega, rfl⟩
theorem nuF_out {p v : Nat} (h : dgt B p = false) : ∀ f, nuF B f p v = (p, v) := by
  intro f
  cases f with
  | zero => rfl
  | succ f => rw [nuF, if_neg (by rw [h]; decide)]
theorem m_number {Q : Unit → Gh → Prop} {E : Es} {D : Nat → Nat → Int32} {I : Tg → Nat → Int32} {sort most : Nat} {d p c p0 x : Nat} (hM : ModS E am) (hcu : eCu E ≤ 40960) (hP : PC B n ng nn D) (hs : sort ≤ 3) (hm : most ≤ 60) (hp : p ≤ n) (hp0 : p0 + 1 ≤ p) (h17 : D 0 17 = nI p) (h18 : D 0 18 = 0) (h20 : D 0 20 = nI d) (hd : d ≤ 10) (h22 : D 0 22 = nI c) (hc : c ≤ eCu E) (hcb : c ≤ 20290) (kk : REnd am n d c p0 x (E, D, I) Q (nuA B n sort most p)) : Wp (f_X12_number (some am) (nI sort) (nI most)) (E, D, I) Q := by
  have hn := hP.2.1
  have hz := hP.bz
  have hs1 := sk_ge (B := B) (n := n) p
  have hs2 := sk_le (B := B) (n := n) p hp
  unfold f_X12_number
  refine wm_call hM (m_blanks hM hP (by omega) h17 ?_)
  refine wm_I hM rfl ?_
  rw [ds_eq]
  have hP0 : PC B n ng nn (ds D 0 17 (nI (sk B n p))) := hP.fr (FrL.rf.sc (by decide))
  unfold nuA at kk
  generalize sk B n p = q at kk hs1 hs2 hP0
  have hend := nuF_end hz (n - q) q 0 hs2 (Nat.le_refl _)
  -- behind the digits
  have fin : ∀ (e v vm : Nat), nuF B (n - q) q 0 = (e, v) → e ≤ n → vm < 20000 → (vm = v ∧ v < 255 ∨ 255 ≤ vm ∧ v = 255) → Wp (f_X12_number_83 (some am) (nI sort) (nI most) (nI q) (nI vm)) (E, ds D 0 17 (nI e), I) Q := fun e v vm he hen hvm hrel => by
    rw [he] at kk
    dsimp only at kk
    have emit : ∀ D2, FrL [21] frP D D2 → D2 0 22 = nI c → (∀ E' D' I', PX am c (E, D2, I) (E', D', I') → D' 0 22 = nI (c + 1) → D' 21 c = nI (100 * sort + vm) → c + 1 ≤ eCu E' → (∀ k, k ≠ 22 → D' 0 k = D2 0 k) → Q () (E', D', I')) → Wp (f_X12_number_109 (some am) (nI sort) (nI vm)) (E, D2, I) Q := fun D2 hF2 h222 k2 => by
      unfold f_X12_number_109
      have e100 : (100 : Int32) * nI sort + nI vm = nI (100 * sort + vm) := by rw [show (100 : Int32) = nI 100 from rfl, pk_mul, nI_add]
      rw [e100]
      exact wm_call hM (m_emits hM h222 hc (by omega) hcu (fun E' D' I' q1 q2 q3 q4 q5 => wp_mp (k2 E' D' I' q1 q2 q3 q4 q5)))
    have hF1 : FrL [21] frP D (ds D 0 17 (nI e)) := FrL.rf.sc (by decide)
    have hX1 : ∀ D2, FrL [21] frP D D2 → D2 21 = D 21 → PX am c (E, D, I) (E, D2, I) := fun D2 hF2 h21 => ⟨hM, EqC.rf, fun _ _ _ => rfl, rfl, Nat.le_refl _, Nat.le_refl _, hcu, hF2, fun k _ => congrFun h21 k⟩
    unfold f_X12_number_83
    refine wm_I hM rfl ?_
    rw [ds_eq]
    by_cases heq : e = q
    · rw [if_pos heq] at kk
      refine wp_pos (by rw [heq]) ?_
      refine wm_call hM (m_wrong0 hM (by rw [ds_ne (by decide)]; exact h18) ?_)
      have hF3 : FrL [21] frP D (ds (ds (ds D 0 17 (nI e)) 0 18 1) 0 19 (nI q)) := (hF1.sc (by decide)).sc (by decide)
      have fin2 : Wp (f_X12_number_109 (some am) (nI sort) (nI vm)) (E, ds (ds (ds D 0 17 (nI e)) 0 18 1) 0 19 (nI q), I) Q := emit _ hF3 (by rw [ds_ne (by decide), ds_ne (by decide), ds_ne (by decide)]; exact h22) (fun E' D' I' q1 q2 q3 q4 q5 => by
        refine kk E' D' I' (c + 1) e ((hX1 _ hF3 (by rw [ds_row (by decide), ds_row (by decide), ds_row (by decide)])).tr q1 (Nat.le_refl _)) ?_ (by omega) ?_ ?_ q2 (by omega) q4 (by omega)
        · rw [q5 17 (by decide), ds_ne (by decide), ds_ne (by decide), ds_eq]
        · rw [q5 18 (by decide), ds_ne (by decide), ds_eq]; rfl
        · rw [q5 19 (by decide), ds_eq])
      unfold f_X12_number_97
      refine wp_ite (fun _ => fin2) (fun _ => ?_)
      exact wm_call hM (m_wrong1 hM (f := 1) (by rw [ds_ne (by decide), ds_eq]; rfl) (.inl rfl) fin2)
    · rw [if_neg heq] at kk
      refine wp_neg (fun h => heq ((nI_eq (by omega) (by omega)).mp h)) ?_
      unfold f_X12_number_97
      by_cases hmv : most ≤ v
      · rw [if_pos hmv] at kk
        refine wp_neg (fun h => by have := (nI_ltI (by omega) (by omega)).mp h; omega) ?_
        refine wm_call hM (m_wrong0 hM (by rw [ds_ne (by decide)]; exact h18) ?_)
        have hF3 : FrL [21] frP D (ds (ds (ds D 0 17 (nI e)) 0 18 2) 0 19 (nI q)) := (hF1.sc (by decide)).sc (by decide)
        refine emit _ hF3 (by rw [ds_ne (by decide), ds_ne (by decide), ds_ne (by decide)]; exact h22) (fun E' D' I' q1 q2 q3 q4 q5 => ?_)
        refine kk E' D' I' (c + 1) e ((hX1 _ hF3 (by rw [ds_row (by decide), ds_row (by decide), ds_row (by decide)])).tr q1 (Nat.le_refl _)) ?_ (by omega) ?_ ?_ q2 (by omega) q4 (by omega)
        · rw [q5 17 (by decide), ds_ne (by decide), ds_ne (by decide), ds_eq]
        · rw [q5 18 (by decide), ds_ne (by decide), ds_eq]; rfl
        · rw [q5 19 (by decide), ds_eq]
      · rw [if_neg hmv] at kk
        have hvv : vm = v := by omega
        refine wp_pos ((nI_ltI (by omega) (by omega)).mpr (by omega)) ?_
        refine emit _ hF1 (by rw [ds_ne (by decide)]; exact h22) (fun E' D' I' q1 q2 q3 q4 q5 => ?_)
        refine kk E' D' I' ((hX1 _ hF1 (ds_row (by decide))).tr q1 (Nat.le_refl _)) ?_ ?_ ?_ ?_ q2 (fun i y hy => ?_) q4
        · rw [q5 17 (by decide), ds_eq]
        · rw [q5 18 (by decide), ds_ne (by decide)]; exact h18
        · rw [q5 19 (by decide), ds_ne (by decide)]
        · rw [q5 20 (by decide), ds_ne (by decide)]; exact h20
        · cases i with
          | zero =>
            cases hy
            rw [Nat.add_zero, q3, hvv]
          | succ i => cases hy
  -- the digits
  have key : ∀ (f p v vm fu : Nat), n - p ≤ f → f < fu → p ≤ n → q ≤ p → nuF B (n - q) q 0 = nuF B f p v → vm < 20000 → (vm = v ∧ v < 255 ∨ 255 ≤ vm ∧ v = 255) → Wp (f_X12_number_12 (some am) (nI sort) (nI most) (nI q) fu (nI vm)) (E, ds D 0 17 (nI p), I) Q := by
    intro f
    induction f with
    | zero =>
      intro p v vm fu hf hfu hpn hqp he hvm hrel
      cases fu with
      | zero => exact absurd hfu (Nat.not_lt_zero _)
      | succ fu =>
        have hP1 : PC B n ng nn (ds D 0 17 (nI p)) := hP.fr (FrL.rf.sc (by decide))
        rw [f_X12_number_12]
        refine wm_I hM rfl ?_
        rw [ds_eq]
        refine wm_call hM (m_byteAt hM hP1 (by omega) ?_)
        rw [hz p (by omega)]
        exact wp_pos (by decide) (fin p v vm he hpn hvm hrel)
    | succ f ih =>
      intro p v vm fu hf hfu hpn hqp he hvm hrel
      cases fu with
      | zero => exact absurd hfu (Nat.not_lt_zero _)
      | succ fu =>
        have hP1 : PC B n ng nn (ds D 0 17 (nI p)) := hP.fr (FrL.rf.sc (by decide))
        obtain ⟨b, hb, eb⟩ := B_lt ⟨D, hP⟩ (k := p)
        rw [f_X12_number_12]
        refine wm_I hM rfl ?_
        rw [ds_eq]
        refine wm_call hM (m_byteAt hM hP1 (by omega) ?_)
        rw [eb]
        by_cases c1 : b < 48
        · have hdg : dgt B p = false := by
            unfold dgt
            rw [eb, decide_eq_false (fun h => by have := (nI_leI (a := 48) (by omega) (by omega)).mp h; omega)]
            rfl
          rw [nuF_out hdg] at he
          exact wp_pos ((nI_ltI (b := 48) (by omega) (by omega)).mpr c1) (fin p v vm he hpn hvm hrel)
        · refine wp_neg (fun h => c1 ((nI_ltI (b := 48) (by omega) (by omega)).mp h)) ?_
          refine wm_I hM rfl ?_
          rw [ds_eq]
          refine wm_call hM (m_byteAt hM hP1 (by omega) ?_)
          rw [eb]
          by_cases c2 : 57 < b
          · have hdg : dgt B p = false := by
              unfold dgt
              rw [eb, decide_eq_false (p := nI b ≤ 57) (fun h => by have := (nI_leI (b := 57) (by omega) (by omega)).mp h; omega), Bool.and_false]
            rw [nuF_out hdg] at he
            exact wp_pos ((nI_ltI (a := 57) (by omega) (by omega)).mpr c2) (fin p v vm he hpn hvm hrel)
          · refine wp_neg (fun h => c2 ((nI_ltI (a := 57) (by omega) (by omega)).mp h)) ?_
            have hdg : dgt B p = true := by
              unfold dgt
              rw [eb, decide_eq_true (show 48 ≤ nI b from (nI_leI (a := 48) (by omega) (by omega)).mpr (by omega)), decide_eq_true (show nI b ≤ 57 from (nI_leI (b := 57) (by omega) (by omega)).mpr (by omega))]
              rfl
            have hlt : p < n := by
              refine Nat.lt_of_not_le fun hle => ?_
              have := hz p hle
              rw [eb] at this
              have := (nI_eq (b := 0) (by omega) (by omega)).mp this
              omega
            rw [nuF, if_pos hdg, eb, nI_clamp (by omega)] at he
            have hmin : min (10 * v + (b - 48)) 255 ≤ 255 := Nat.min_le_right _ _
            by_cases c3 : vm ≤ 1000
            · refine wp_pos ((nI_leI (b := 1000) (by omega) (by omega)).mpr c3) ?_
              refine wm_I hM rfl ?_
              rw [ds_eq]
              refine wm_call hM (m_byteAt hM hP1 (by omega) ?_)
              rw [eb]
              have ev : (10 : Int32) * nI vm + nI b - 48 = nI (10 * vm + (b - 48)) := by
                rw [show (10 : Int32) = nI 10 from rfl, show (48 : Int32) = nI 48 from rfl, pk_mul, nI_add, pk_sub (by omega), show 10 * vm + b - 48 = 10 * vm + (b - 48) by omega]
              rw [ev]
              unfold f_X12_number_68
              refine wm_I hM rfl ?_
              rw [ds_eq, nI_1]
              refine wm_P hM rfl ?_
              rw [ds_ds]
              refine ih (p + 1) _ (10 * vm + (b - 48)) fu (by omega) (by omega) hlt (by omega) he (by omega) ?_
              rcases hrel with ⟨h1, h2⟩ | ⟨h1, h2⟩
              · subst h1
                by_cases h3 : 10 * vm + (b - 48) < 255
                · exact .inl ⟨by rw [Nat.min_eq_left (by omega)], by rw [Nat.min_eq_left (by omega)]; exact h3⟩
                · exact .inr ⟨by omega, Nat.min_eq_right (by omega)⟩
              · exact .inr ⟨by omega, Nat.min_eq_right (by omega)⟩
            · refine wp_neg (fun h => c3 ((nI_leI (b := 1000) (by omega) (by omega)).mp h)) ?_
              unfold f_X12_number_68
              refine wm_I hM rfl ?_
              rw [ds_eq, nI_1]
              refine wm_P hM rfl ?_
              rw [ds_ds]
              refine ih (p + 1) _ vm fu (by omega) (by omega) hlt (by omega) he hvm ?_
              rcases hrel with ⟨h1, h2⟩ | ⟨h1, h2⟩
              · omega
              · exact .inr ⟨h1, Nat.min_eq_right (by omega)⟩
  exact key (n - q) q 0 0 fuL (Nat.le_refl _) (fu_ok (by omega)) hs2 (Nat.le_refl _) rfl (by omega) (.inl ⟨rfl, by omega⟩)
/-- the loops -/
theorem m_loop (hZ : ZO Z) {w x : Nat} {cc : Int32} (hw : w = 4 ∨ w = 5) (lp : (Option Nat → Mo Unit) → Option Nat → Nat → Mo Unit) (hlp : ∀ g r fu, lp g r (fu + 1) = mb (mo 15 r (f_X12_eat Z r (some (Z (10 + w))))) (fun v7 => (if v7 = 0 then mp () else mb (mo 15 r (g r)) (fun _ => mb (mo 15 r (f_X12_emits r cc)) (fun _ => lp g r fu)))) ) {f : Option Nat → Mo Unit} {o : Nat → Nat → PRes} (hf : RDo dm am n ng nn x B f o) (hog : ∀ d p, d ≤ 10 → p ≤ n → ∃ h, Gd ng nn n d p h (o d p)) : RDo dm am n ng nn (x + 1) B (fun r => mb (mo 15 r (f r)) (fun _ => lp f r fuL)) (fun d => sqA B n w cc (o d)) := by
  intro E D I Q d p c hM hcu hP hd hdm hp h17 h18 h20 h22 hc hcb kk
  have hz := hP.bz
  have hn := hP.2.1
  have h2l : 2 ≤ wLen.getD w 0 ∧ wLen.getD w 0 ≤ 3 := by rcases hw with rfl | rfl <;> decide
  -- with a fault the loop ends at once
  have bad : ∀ (E' : Es) (D' : Nat → Nat → Int32) (I' : Tg → Nat → Int32) (c' a fu : Nat) (y : Nat × Nat), (y.1 = 1 ∨ y.1 = 2 ∨ y.1 = 3) → PX am c (E, D, I) (E', D', I') → D' 0 17 = nI a → a ≤ n + (12 - d) → D' 0 18 = nI y.1 → D' 0 19 = nI y.2 → D' 0 22 = nI c' → c ≤ c' → c' ≤ eCu E' → c' ≤ c + (n - p) + (3 * (11 - d) + (x + 1)) → 0 < fu → REnd am n d c p (3 * (11 - d) + (x + 1)) (E, D, I) Q (.inr y) → Wp (lp f (some am) fu) (E', D', I') Q := by
    intro E' D' I' c' a fu y hy hX q1 q2 q3 q4 q5 q8 q6 q7 hfu kk
    obtain ⟨fu, rfl⟩ : ∃ t, fu = t + 1 := ⟨fu - 1, by omega⟩
    rw [hlp]
    exact wm_call hX.1 (m_eat1 hX.1 q3 hy (wp_pos rfl (wp_mp (kk E' D' I' c' a hX q1 q2 q3 q4 q5 q8 q6 q7))))
  -- the loop
  have go : ∀ (g e : Nat) (cs : List Int32) (fu : Nat) (E' : Es) (D' : Nat → Nat → Int32) (I' : Tg → Nat → Int32), n - e ≤ g → g < fu → e ≤ n → p + cs.length ≤ e → PX am c (E, D, I) (E', D', I') → D' 0 17 = nI e → D' 0 18 = 0 → D' 0 19 = D 0 19 → D' 0 20 = nI d → D' 0 22 = nI (c + cs.length) → (∀ i y, cs[i]? = some y → D' 21 (c + i) = y) → c + cs.length ≤ eCu E' → REnd am n d c p (3 * (11 - d) + (x + 1)) (E, D, I) Q (lpA B n w cc (o d) g e cs) → Wp (lp f (some am) fu) (E', D', I') Q := by
    intro g
    induction g with
    | zero =>
      intro e cs fu E' D' I' hg hfu hen hpe hX q1 q2 q9 q3 q4 q5 q6 kk
      obtain ⟨fu, rfl⟩ : ∃ t, fu = t + 1 := ⟨fu - 1, by omega⟩
      have hP' := hP.fr hX.2.2.2.2.2.2.2.1
      have hs2 := sk_le (B := B) (n := n) e hen
      rw [hlp]
      refine wm_call hX.1 (m_eat hZ hX.1 hP' (by omega) (by omega) q1 q2 (fun hW => ?_) (fun hW => ?_))
      · have := isW_lt hz (by omega) hW
        have hs1 := sk_ge (B := B) (n := n) e
        omega
      · refine wp_pos rfl (wp_mp (kk E' _ I' (hX.sc (by decide)) ds_eq ?_ ?_ ?_ ?_ (fun i y hy => ?_) q6))
        · rw [ds_ne (by decide)]; exact q2
        · rw [ds_ne (by decide)]; exact q9
        · rw [ds_ne (by decide)]; exact q3
        · rw [ds_ne (by decide)]; exact q4
        · rw [ds_ne (by omega)]; exact q5 i y hy
    | succ g ih =>
      intro e cs fu E' D' I' hg hfu hen hpe hX q1 q2 q9 q3 q4 q5 q6 kk
      obtain ⟨fu, rfl⟩ : ∃ t, fu = t + 1 := ⟨fu - 1, by omega⟩
      have hP' := hP.fr hX.2.2.2.2.2.2.2.1
      have hs1 := sk_ge (B := B) (n := n) e
      have hs2 := sk_le (B := B) (n := n) e hen
      rw [lpA] at kk
      rw [hlp]
      refine wm_call hX.1 (m_eat hZ hX.1 hP' (by omega) (by omega) q1 q2 (fun hW => ?_) (fun hW => ?_))
      · rw [if_pos hW] at kk
        have hlt := isW_lt hz (by omega) hW
        refine wp_neg (by decide) ?_
        have hX2 : PX am c (E, D, I) (E', ds D' 0 17 (nI (sk B n e + wLen.getD w 0)), I') := hX.sc (by decide)
        have hcu2 : eCu E' ≤ 40960 := hX.2.2.2.2.2.2.1
        obtain ⟨h9, hgd⟩ := hog d (sk B n e + wLen.getD w 0) hd hlt
        refine wm_call hX.1 (hf E' _ I' _ d (sk B n e + wLen.getD w 0) (c + cs.length) hX.1 hcu2 (hP.fr hX2.2.2.2.2.2.2.2.1) hd hdm hlt ds_eq (by rw [ds_ne (by decide)]; exact q2) (by rw [ds_ne (by decide)]; exact q3) (by rw [ds_ne (by decide)]; exact q4) q6 (by omega) ?_)
        cases hr : o d (sk B n e + wLen.getD w 0) with
        | inl r =>
          rw [hr] at kk hgd
          obtain ⟨g1, g2, g3, g4⟩ := hgd
          intro E3 D3 I3 hX3 r1 r2 r9 r3 r4 r5 r6
          have hX4 : PX am c (E, D, I) (E3, D3, I3) := hX2.tr hX3 (by omega)
          have r9 : D3 0 19 = D 0 19 := r9.trans ((show ds D' 0 17 (nI (sk B n e + wLen.getD w 0)) 0 19 = D' 0 19 from ds_ne (by decide)).trans q9)
          refine wm_call hX3.1 (m_emits hX3.1 r4 r6 (by omega) hX3.2.2.2.2.2.2.1 (fun E5 D5 I5 hX5 t1 t2 t3 t4 => ?_))
          have hX6 : PX am c (E, D, I) (E5, D5, I5) := hX4.tr hX5 (by omega)
          refine ih r.1 (cs ++ r.2 ++ [cc]) fu E5 D5 I5 (by omega) (by omega) g2 ?_ hX6 ?_ ?_ ?_ ?_ ?_ (fun i y hy => ?_) ?_ kk
          · rw [List.length_append, List.length_append, List.length_singleton]; omega
          · rw [t4 17 (by decide)]; exact r1
          · rw [t4 18 (by decide)]; exact r2
          · rw [t4 19 (by decide)]; exact r9
          · rw [t4 20 (by decide)]; exact r3
          · rw [t1, List.length_append, List.length_append, List.length_singleton, show c + (cs.length + r.2.length + 1) = c + cs.length + r.2.length + 1 by omega]
          · by_cases hi : i < cs.length + r.2.length
            · rw [List.getElem?_append_left (by rw [List.length_append]; exact hi)] at hy
              rw [show D5 21 (c + i) = D3 21 (c + i) from hX5.2.2.2.2.2.2.2.2 (c + i) (by omega)]
              by_cases hi2 : i < cs.length
              · rw [List.getElem?_append_left hi2] at hy
                rw [show D3 21 (c + i) = ds D' 0 17 (nI (sk B n e + wLen.getD w 0)) 21 (c + i) from hX3.2.2.2.2.2.2.2.2 (c + i) (by omega), ds_ne (by omega)]
                exact q5 i y hy
              · rw [List.getElem?_append_right (by omega)] at hy
                have := r5 _ _ hy
                rw [show c + cs.length + (i - cs.length) = c + i by omega] at this
                exact this
            · rw [List.getElem?_append_right (by rw [List.length_append]; omega), List.length_append] at hy
              have h0 : i - (cs.length + r.2.length) = 0 := by
                have := (List.getElem?_eq_some_iff.mp hy).1
                rw [List.length_singleton] at this
                omega
              rw [h0] at hy
              cases hy
              rw [show c + i = c + cs.length + r.2.length by omega]
              exact t2
          · rw [List.length_append, List.length_append, List.length_singleton]; omega
        | inr y =>
          rw [hr] at kk hgd
          intro E3 D3 I3 c3 a3 hX3 r1 r2 r3 r4 r5 r8 r6 r7
          have hX4 : PX am c (E, D, I) (E3, D3, I3) := hX2.tr hX3 (by omega)
          refine wm_call hX3.1 (m_emits hX3.1 r5 r6 (by omega) hX3.2.2.2.2.2.2.1 (fun E5 D5 I5 hX5 t1 t2 t3 t4 => ?_))
          exact bad E5 D5 I5 (c3 + 1) a3 fu y hgd.1 (hX4.tr hX5 (by omega)) (by rw [t4 17 (by decide)]; exact r1) r2 (by rw [t4 18 (by decide)]; exact r3) (by rw [t4 19 (by decide)]; exact r4) t1 (by omega) t3 (by omega) (by omega) kk
      · rw [if_neg (by rw [hW]; decide)] at kk
        refine wp_pos rfl (wp_mp (kk E' _ I' (hX.sc (by decide)) ds_eq ?_ ?_ ?_ ?_ (fun i y hy => ?_) q6))
        · rw [ds_ne (by decide)]; exact q2
        · rw [ds_ne (by decide)]; exact q9
        · rw [ds_ne (by decide)]; exact q3
        · rw [ds_ne (by decide)]; exact q4
        · rw [ds_ne (by omega)]; exact q5 i y hy
  obtain ⟨h9, hgd⟩ := hog d p hd hp
  refine wm_call hM (hf E D I _ d p c hM hcu hP hd hdm hp h17 h18 h20 h22 hc (by omega) ?_)
  have kk : REnd am n d c p (3 * (11 - d) + (x + 1)) (E, D, I) Q (sqA B n w cc (o d) p) := kk
  unfold sqA at kk
  cases hr : o d p with
  | inl r =>
    rw [hr] at kk hgd
    obtain ⟨g1, g2, g3, g4⟩ := hgd
    intro E3 D3 I3 hX3 r1 r2 r9 r3 r4 r5 r6
    exact go (n - r.1) r.1 r.2 fuL E3 D3 I3 (Nat.le_refl _) (fu_ok (by omega)) g2 (by omega) hX3 r1 r2 r9 r3 r4 r5 r6 kk
  | inr y =>
    rw [hr] at kk hgd
    intro E3 D3 I3 c3 a3 hX3 r1 r2 r3 r4 r5 r8 r6 r7
    exact bad E3 D3 I3 c3 a3 fuL y hgd.1 hX3 r1 r2 r3 r4 r5 r8 r6 (by omega) (fu_ok (by omega)) kk
theorem RDo.wk {x y : Nat} {f : Option Nat → Mo Unit} {r : Nat → Nat → PRes} (h : RDo dm am n ng nn x B f r) (hxy : x ≤ y) : RDo dm am n ng nn y B f r := by
  intro E D I Q d p c hM hcu hP hd hdm hp h17 h18 h20 h22 hc hcb kk
  refine h E D I Q d p c hM hcu hP hd hdm hp h17 h18 h20 h22 hc (by omega) ?_
  cases hr : r d p with
  | inl r => rw [hr] at kk; exact kk
  | inr y =>
    rw [hr] at kk
    exact fun E' D' I' c' a q1 q2 q3 q4 q5 q6 q7 q8 q9 => kk E' D' I' c' a q1 q2 q3 q4 q5 q6 q7 q8 (by omega)
/-- one: an opening, a not, an atom -/
theorem m_one (hZ : ZO Z) {g1 g2 : Option Nat → Mo Unit} {an on : Nat → Nat → PRes} (hg1 : RDo (dm + 1) am n ng nn 2 B g1 an) (hg2 : RDo (dm + 1) am n ng nn 0 B g2 on) (hgd1 : ∀ d p, d ≤ 10 → p ≤ n → ∃ h, Gd ng nn n d p h (an d p)) (hgd2 : ∀ d p, d ≤ 10 → p ≤ n → ∃ h, Gd ng nn n d p h (on d p)) : RDo dm am n ng nn 0 B (f_X12_one Z g1 g2) (onA B n ng nn an on) := by
  intro E D I Q d p c hM hcu hP hd hdm hp h17 h18 h20 h22 hc hcb kk
  have hz := hP.bz
  have hn := hP.2.1
  have hs1 := sk_ge (B := B) (n := n) p
  have hs2 := sk_le (B := B) (n := n) p hp
  have kk : REnd am n d c p (3 * (11 - d) + 0) (E, D, I) Q (onA B n ng nn an on d p) := kk
  unfold onA at kk
  have e17 : ∀ (v : Int32) (k : Nat), k ≠ 17 → ds D 0 17 v 0 k = D 0 k := fun v k hk => ds_ne (by omega)
  have hX0 : ∀ v, PX am c (E, D, I) (E, ds D 0 17 v, I) := fun v => (PX.rf hM hcu).sc (by decide)
  unfold f_X12_one
  refine wm_I hM rfl ?_
  rw [h18]
  refine wp_pos (by decide) ?_
  refine wm_call hM (m_isWord (i := 0) hZ hM hP (by omega) (by omega) h17 ?_)
  have hq17 : ds D 0 17 (nI (sk B n p)) 0 17 = nI (sk B n p) := ds_eq
  have hP1 : PC B n ng nn (ds D 0 17 (nI (sk B n p))) := hP.fr (FrL.rf.sc (by decide))
  cases w0 : isW B 0 (sk B n p) with
  | true =>
    rw [if_pos w0] at kk
    have hlt : sk B n p + 3 ≤ n := isW_lt hz (by omega) w0
    refine wp_neg (by decide) ?_
    refine wm_call hM (m_opens hM (d := d) (p := nI (sk B n p)) (by rw [e17 _ _ (by decide)]; exact h20) hd (by rw [e17 _ _ (by decide)]; exact h18) hq17 (fun h10 => ?_) (fun h10 => ?_))
    · rw [if_pos h10] at kk
      refine wp_pos rfl (wp_mp (kk E _ I c (sk B n p) (((hX0 _).sc (by decide)).sc (by decide)) ?_ (by omega) ?_ ds_eq ?_ (Nat.le_refl _) hc (by omega)))
      · rw [ds_ne (by decide), ds_ne (by decide), ds_eq]
      · rw [ds_ne (by decide), ds_eq]; rfl
      · rw [ds_ne (by decide), ds_ne (by decide), e17 _ _ (by decide)]; exact h22
    · rw [if_neg (by omega)] at kk
      refine wp_neg (by decide) ?_
      refine wm_I hM rfl ?_
      rw [ds_ne (by decide), hq17, show (3 : Int32) = nI 3 from rfl, nI_add]
      refine wm_P hM rfl ?_
      have hX1 : PX am c (E, D, I) (E, ds (ds (ds D 0 17 (nI (sk B n p))) 0 20 (nI (d + 1))) 0 17 (nI (sk B n p + 3)), I) := ((hX0 _).sc (by decide)).sc (by decide)
      refine wm_call hM (hg2 E _ I _ (d + 1) (sk B n p + 3) c hM hcu (hP.fr hX1.2.2.2.2.2.2.2.1) (by omega) (by omega) hlt ds_eq ?_ ?_ ?_ hc (by omega) ?_)
      · rw [ds_ne (by decide), ds_ne (by decide), e17 _ _ (by decide)]; exact h18
      · rw [ds_ne (by decide), ds_eq]
      · rw [ds_ne (by decide), ds_ne (by decide), e17 _ _ (by decide)]; exact h22
      obtain ⟨h9, hgd⟩ := hgd2 (d + 1) (sk B n p + 3) (by omega) hlt
      cases hr : on (d + 1) (sk B n p + 3) with
      | inl r =>
        rw [hr] at kk hgd
        obtain ⟨g1, g2, g3, g4⟩ := hgd
        intro E3 D3 I3 hX3 r1 r2 r9 r3 r4 r5 r6
        have hX4 : PX am c (E, D, I) (E3, D3, I3) := hX1.tr hX3 (Nat.le_refl _)
        have r9 : D3 0 19 = D 0 19 := by
          refine r9.trans ?_
          dsimp only
          rw [ds_ne (by decide), ds_ne (by decide), e17 _ _ (by decide)]
        have hM3 : ModS E3 am := hX3.1
        refine wm_I hM3 rfl ?_
        rw [r3, nI_pred]
        refine wm_P hM3 rfl ?_
        refine wm_call hM3 (m_emits hM3 (c := c + r.2.length) (by rw [ds_ne (by decide)]; exact r4) r6 (by omega) hX3.2.2.2.2.2.2.1 (fun E5 D5 I5 hX5 t1 t2 t3 t4 => wp_mp ?_))
        have hX6 : PX am c (E, D, I) (E5, D5, I5) := (hX4.sc (by decide)).tr hX5 (by omega)
        refine kk E5 D5 I5 hX6 ?_ ?_ ?_ ?_ ?_ (fun i y hy => ?_) ?_
        · rw [t4 17 (by decide), ds_ne (by decide)]; exact r1
        · rw [t4 18 (by decide), ds_ne (by decide)]; exact r2
        · rw [t4 19 (by decide), ds_ne (by decide)]; exact r9
        · rw [t4 20 (by decide), ds_eq]
        · rw [t1, List.length_append, List.length_singleton, Nat.add_assoc]
        · by_cases hi : i < r.2.length
          · rw [List.getElem?_append_left hi] at hy
            have e1 : D5 21 (c + i) = ds D3 0 20 (nI d) 21 (c + i) := hX5.2.2.2.2.2.2.2.2 (c + i) (by omega)
            rw [e1, ds_ne (by omega)]
            exact r5 i y hy
          · rw [List.getElem?_append_right (by omega)] at hy
            have h0 : i - r.2.length = 0 := by
              have := (List.getElem?_eq_some_iff.mp hy).1
              rw [List.length_singleton] at this
              omega
            rw [h0] at hy
            cases hy
            rw [show c + i = c + r.2.length by omega]
            exact t2
        · rw [List.length_append, List.length_singleton]; omega
      | inr y =>
        rw [hr] at kk hgd
        intro E3 D3 I3 c3 a3 hX3 r1 r2 r3 r4 r5 r8 r6 r7
        have hX4 : PX am c (E, D, I) (E3, D3, I3) := hX1.tr hX3 (Nat.le_refl _)
        have hM3 : ModS E3 am := hX3.1
        refine wm_I hM3 rfl ?_
        refine wm_P hM3 rfl ?_
        refine wm_call hM3 (m_emits hM3 (c := c3) (by rw [ds_ne (by decide)]; exact r5) r6 (by omega) hX3.2.2.2.2.2.2.1 (fun E5 D5 I5 hX5 t1 t2 t3 t4 => wp_mp ?_))
        refine kk E5 D5 I5 (c3 + 1) a3 ((hX4.sc (by decide)).tr hX5 (by omega)) ?_ (by omega) ?_ ?_ t1 (by omega) t3 (by omega)
        · rw [t4 17 (by decide), ds_ne (by decide)]; exact r1
        · rw [t4 18 (by decide), ds_ne (by decide)]; exact r3
        · rw [t4 19 (by decide), ds_ne (by decide)]; exact r4
  | false =>
    rw [if_neg (by rw [w0]; decide)] at kk
    refine wp_pos rfl ?_
    refine wm_I hM rfl ?_
    rw [hq17]
    refine wm_call hM (m_byteAt hM hP1 (by omega) ?_)
    by_cases wb : B (sk B n p) = 40
    · rw [if_pos wb] at kk
      have hlt : sk B n p + 1 ≤ n := by
        refine Nat.lt_of_not_le fun hle => ?_
        rw [hz _ hle] at wb
        exact absurd wb (by decide)
      refine wp_pos wb ?_
      refine wm_call hM (m_opens hM (d := d) (p := nI (sk B n p)) (by rw [e17 _ _ (by decide)]; exact h20) hd (by rw [e17 _ _ (by decide)]; exact h18) hq17 (fun h10 => ?_) (fun h10 => ?_))
      · rw [if_pos h10] at kk
        refine wp_pos rfl (wp_mp (kk E _ I c (sk B n p) (((hX0 _).sc (by decide)).sc (by decide)) ?_ (by omega) ?_ ds_eq ?_ (Nat.le_refl _) hc (by omega)))
        · rw [ds_ne (by decide), ds_ne (by decide), ds_eq]
        · rw [ds_ne (by decide), ds_eq]; rfl
        · rw [ds_ne (by decide), ds_ne (by decide), e17 _ _ (by decide)]; exact h22
      · rw [if_neg (by omega)] at kk
        refine wp_neg (by decide) ?_
        refine wm_I hM rfl ?_
        rw [ds_ne (by decide), hq17, nI_1]
        refine wm_P hM rfl ?_
        have hX1 : PX am c (E, D, I) (E, ds (ds (ds D 0 17 (nI (sk B n p))) 0 20 (nI (d + 1))) 0 17 (nI (sk B n p + 1)), I) := ((hX0 _).sc (by decide)).sc (by decide)
        refine wm_call hM (hg1 E _ I _ (d + 1) (sk B n p + 1) c hM hcu (hP.fr hX1.2.2.2.2.2.2.2.1) (by omega) (by omega) hlt ds_eq ?_ ?_ ?_ hc (by omega) ?_)
        · rw [ds_ne (by decide), ds_ne (by decide), e17 _ _ (by decide)]; exact h18
        · rw [ds_ne (by decide), ds_eq]
        · rw [ds_ne (by decide), ds_ne (by decide), e17 _ _ (by decide)]; exact h22
        obtain ⟨h9, hgd⟩ := hgd1 (d + 1) (sk B n p + 1) (by omega) hlt
        cases hr : an (d + 1) (sk B n p + 1) with
        | inl r =>
          rw [hr] at kk hgd
          obtain ⟨g1, g2, g3, g4⟩ := hgd
          intro E3 D3 I3 hX3 r1 r2 r9 r3 r4 r5 r6
          have hX4 : PX am c (E, D, I) (E3, D3, I3) := hX1.tr hX3 (Nat.le_refl _)
          have r9 : D3 0 19 = D 0 19 := by
            refine r9.trans ?_
            dsimp only
            rw [ds_ne (by decide), ds_ne (by decide), e17 _ _ (by decide)]
          have hM3 : ModS E3 am := hX3.1
          have hP3 : PC B n ng nn D3 := hP.fr hX4.2.2.2.2.2.2.2.1
          have hs3 := sk_ge (B := B) (n := n) r.1
          have hs4 := sk_le (B := B) (n := n) r.1 g2
          refine wm_call hM3 (m_blanks hM3 hP3 (by omega) r1 ?_)
          have hX5 : PX am c (E, D, I) (E3, ds D3 0 17 (nI (sk B n r.1)), I3) := hX4.sc (by decide)
          have hP5 : PC B n ng nn (ds D3 0 17 (nI (sk B n r.1))) := hP.fr hX5.2.2.2.2.2.2.2.1
          refine wm_I hM3 rfl ?_
          rw [ds_eq]
          refine wm_call hM3 (m_byteAt hM3 hP5 (by omega) ?_)
          dsimp only at kk
          by_cases wc : B (sk B n r.1) = 41
          · rw [if_pos wc] at kk
            refine wp_pos wc ?_
            unfold f_X12_one_118
            refine wm_I hM3 rfl ?_
            rw [ds_eq, nI_1]
            refine wm_P hM3 rfl ?_
            refine wm_I hM3 rfl ?_
            rw [ds_ne (by decide), ds_ne (by decide), r3, nI_pred]
            refine wm_P hM3 rfl ?_
            refine wp_mp (kk E3 _ I3 ((hX5.sc (by decide)).sc (by decide)) ?_ ?_ ?_ ds_eq ?_ (fun i y hy => ?_) r6)
            · rw [ds_ne (by decide), ds_eq]
            · rw [ds_ne (by decide), ds_ne (by decide), ds_ne (by decide)]; exact r2
            · rw [ds_ne (by decide), ds_ne (by decide), ds_ne (by decide)]; exact r9
            · rw [ds_ne (by decide), ds_ne (by decide), ds_ne (by decide)]; exact r4
            · rw [ds_ne (by omega), ds_ne (by omega), ds_ne (by omega)]; exact r5 i y hy
          · rw [if_neg wc] at kk
            refine wp_neg wc ?_
            refine wm_I hM3 rfl ?_
            rw [ds_eq]
            refine wm_call hM3 (m_wrong0 hM3 (by rw [ds_ne (by decide)]; exact r2) ?_)
            unfold f_X12_one_118
            refine wm_I hM3 rfl ?_
            rw [ds_ne (by decide), ds_ne (by decide), ds_eq, nI_1]
            refine wm_P hM3 rfl ?_
            refine wm_I hM3 rfl ?_
            refine wm_P hM3 rfl ?_
            refine wp_mp (kk E3 _ I3 (c + r.2.length) (sk B n r.1 + 1) ((((hX5.sc (by decide)).sc (by decide)).sc (by decide)).sc (by decide)) ?_ (by omega) ?_ ?_ ?_ (by omega) r6 (by omega))
            · rw [ds_ne (by decide), ds_eq]
            · rw [ds_ne (by decide), ds_ne (by decide), ds_ne (by decide), ds_eq]; rfl
            · rw [ds_ne (by decide), ds_ne (by decide), ds_eq]
            · rw [ds_ne (by decide), ds_ne (by decide), ds_ne (by decide), ds_ne (by decide), ds_ne (by decide)]; exact r4
        | inr y =>
          rw [hr] at kk hgd
          intro E3 D3 I3 c3 a3 hX3 r1 r2 r3 r4 r5 r8 r6 r7
          have hX4 : PX am c (E, D, I) (E3, D3, I3) := hX1.tr hX3 (Nat.le_refl _)
          have hM3 : ModS E3 am := hX3.1
          have hP3 : PC B n ng nn D3 := hP.fr hX4.2.2.2.2.2.2.2.1
          have ha : sk B n a3 ≤ n + (12 - (d + 1)) := by
            by_cases h : a3 ≤ n
            · have := sk_le (B := B) (n := n) a3 h
              omega
            · rw [sk_out (by omega)]
              exact r2
          refine wm_call hM3 (m_blanks hM3 hP3 (by omega) r1 ?_)
          have hX5 : PX am c (E, D, I) (E3, ds D3 0 17 (nI (sk B n a3)), I3) := hX4.sc (by decide)
          have hP5 : PC B n ng nn (ds D3 0 17 (nI (sk B n a3))) := hP.fr hX5.2.2.2.2.2.2.2.1
          refine wm_I hM3 rfl ?_
          rw [ds_eq]
          refine wm_call hM3 (m_byteAt hM3 hP5 (by omega) ?_)
          have fin : Wp (f_X12_one_118 Z g1 g2 (some am)) (E3, ds D3 0 17 (nI (sk B n a3)), I3) Q := by
            unfold f_X12_one_118
            refine wm_I hM3 rfl ?_
            rw [ds_eq, nI_1]
            refine wm_P hM3 rfl ?_
            refine wm_I hM3 rfl ?_
            refine wm_P hM3 rfl ?_
            refine wp_mp (kk E3 _ I3 c3 (sk B n a3 + 1) ((hX5.sc (by decide)).sc (by decide)) ?_ (by omega) ?_ ?_ ?_ r8 r6 (by omega))
            · rw [ds_ne (by decide), ds_eq]
            · rw [ds_ne (by decide), ds_ne (by decide), ds_ne (by decide)]; exact r3
            · rw [ds_ne (by decide), ds_ne (by decide), ds_ne (by decide)]; exact r4
            · rw [ds_ne (by decide), ds_ne (by decide), ds_ne (by decide)]; exact r5
          refine wp_ite (fun _ => fin) (fun _ => ?_)
          refine wm_I hM3 rfl ?_
          exact wm_call hM3 (m_wrong1 hM3 (by rw [ds_ne (by decide)]; exact r3) hgd.1 fin)
    · rw [if_neg wb] at kk
      refine wp_neg wb ?_
      -- atoms
      have g18 : ds D 0 17 (nI (sk B n p)) 0 18 = 0 := by rw [e17 _ _ (by decide)]; exact h18
      have num : ∀ (sort most len : Nat), sort ≤ 3 → most ≤ 60 → 4 ≤ len → sk B n p + len ≤ n → REnd am n d c p (3 * (11 - d) + 0) (E, D, I) Q (nuA B n sort most (sk B n p + len)) → Wp (mb (mo 15 (some am) (f_X12_number (some am) (nI sort) (nI most))) (fun _ => f_X12_one_211 Z g1 g2)) (E, ds (ds D 0 17 (nI (sk B n p))) 0 17 (nI (sk B n p + len)), I) Q := fun sort most len h1 h2 h3 h4 kk => by
        rw [ds_ds]
        have hP2 : PC B n ng nn (ds D 0 17 (nI (sk B n p + len))) := hP.fr (FrL.rf.sc (by decide))
        refine wm_call hM (m_number (p := sk B n p + len) (p0 := p) (d := d) (c := c) (x := 3 * (11 - d) + 0) hM hcu hP2 h1 h2 h4 (by omega) ds_eq (by rw [e17 _ _ (by decide)]; exact h18) (by rw [e17 _ _ (by decide)]; exact h20) hd (by rw [e17 _ _ (by decide)]; exact h22) hc (by omega) ?_)
        cases hr : nuA B n sort most (sk B n p + len) with
        | inl r =>
          rw [hr] at kk
          intro E3 D3 I3 hX3 r1 r2 r9 r3 r4 r5 r6
          exact wp_mp (kk E3 D3 I3 ((hX0 _).tr hX3 (Nat.le_refl _)) r1 r2 (r9.trans (e17 (nI (sk B n p + len)) 19 (by decide))) r3 r4 r5 r6)
        | inr y =>
          rw [hr] at kk
          intro E3 D3 I3 c3 a3 hX3 r1 r2 r3 r4 r5 r8 r6 r7
          exact wp_mp (kk E3 D3 I3 c3 a3 ((hX0 _).tr hX3 (Nat.le_refl _)) r1 r2 r3 r4 r5 r8 r6 r7)
      have hkk : sk B n (sk B n p) = sk B n p := sk_sk
      have nx : ∀ i, i < 6 → ∀ {K : Int32 → Mo Unit}, (isW B i (sk B n p) = true → sk B n p + wLen.getD i 0 ≤ n → Wp (K 1) (E, ds (ds D 0 17 (nI (sk B n p))) 0 17 (nI (sk B n p + wLen.getD i 0)), I) Q) → (isW B i (sk B n p) = false → Wp (K 0) (E, ds D 0 17 (nI (sk B n p)), I) Q) → Wp (mb (mo 15 (some am) (f_X12_eat Z (some am) (some (Z (10 + i))))) K) (E, ds D 0 17 (nI (sk B n p)), I) Q := fun i hi K k1 k2 => by
        refine wm_call hM (m_eat hZ hM hP1 hi (by omega) hq17 g18 (fun hW => ?_) (fun hW => ?_))
        · rw [hkk] at hW ⊢
          exact k1 hW (isW_lt hz hi hW)
        · rw [hkk] at hW ⊢
          rw [ds_ds]
          exact k2 hW
      refine nx 1 (by omega) (fun hW hlt => ?_) (fun hW => ?_)
      · rw [if_pos hW] at kk
        refine wp_neg (by decide) ?_
        refine wm_I hM rfl ?_
        rw [ds_ne (by decide), e17 _ _ (by decide), hP.2.2.2.2.1]
        exact num 1 ng 5 (by omega) (by have := hP.2.2.2.2.2.2; omega) (by omega) hlt kk
      · rw [if_neg (by rw [hW]; decide)] at kk
        refine wp_pos rfl ?_
        refine nx 2 (by omega) (fun hW hlt => ?_) (fun hW => ?_)
        · rw [if_pos hW] at kk
          refine wp_neg (by decide) ?_
          exact num 2 8 4 (by omega) (by omega) (by omega) hlt kk
        · rw [if_neg (by rw [hW]; decide)] at kk
          refine wp_pos rfl ?_
          refine nx 3 (by omega) (fun hW hlt => ?_) (fun hW => ?_)
          · rw [if_pos hW] at kk
            refine wp_neg (by decide) ?_
            refine wm_I hM rfl ?_
            rw [ds_ne (by decide), e17 _ _ (by decide), hP.2.2.2.1]
            exact num 3 nn 4 (by omega) (by have := hP.2.2.2.2.2.1; omega) (by omega) hlt kk
          · rw [if_neg (by rw [hW]; decide)] at kk
            refine wp_pos rfl ?_
            refine wm_I hM rfl ?_
            rw [hq17]
            refine wm_call hM (m_wrong0 hM g18 ?_)
            refine wp_mp (kk E _ I c (sk B n p) (((hX0 _).sc (by decide)).sc (by decide)) ?_ (by omega) ?_ ds_eq ?_ (Nat.le_refl _) hc (by omega))
            · rw [ds_ne (by decide), ds_ne (by decide), ds_eq]
            · rw [ds_ne (by decide), ds_eq]; rfl
            · rw [ds_ne (by decide), ds_ne (by decide), e17 _ _ (by decide)]; exact h22
theorem RDo.up {x e : Nat} {f : Option Nat → Mo Unit} {r : Nat → Nat → PRes} (h : RDo dm am n ng nn x B f r) (hde : dm ≤ e) : RDo e am n ng nn x B f r := fun E D I Q d p c hM hcu hP hd hdm hp h17 h18 h20 h22 hc hcb kk => h E D I Q d p c hM hcu hP hd (by omega) hp h17 h18 h20 h22 hc hcb kk
theorem m_ring (hZ : ZO Z) (hz : Bz B n) (hng : ng ≤ 20) (hnn : nn ≤ 60) : ∀ f, RDo (11 - f) am n ng nn 0 B (r_X12_one Z f) (pOne B n ng nn f) := by
  intro f
  induction f with
  | zero => exact fun E D I Q d p c hM hcu hP hd hdm => absurd hdm (by omega)
  | succ f ih =>
    have hall : RDo (11 - f) am n ng nn 1 B (fun r => f_X12_all Z (r_X12_one Z f) r) (fun d => sqA B n 4 0 (pOne B n ng nn f d)) := m_loop hZ (w := 4) (.inl rfl) (fun g r fu => f_X12_all_4 Z g r fu) (fun g r fu => by rw [f_X12_all_4]) ih (fun d p hd hp => ⟨_, pOne_gd hz hng hnn f d p hd hp⟩)
    have hany : RDo (11 - f) am n ng nn 2 B (fun r => f_X12_any Z (fun r => f_X12_all Z (r_X12_one Z f) r) r) (fun d => sqA B n 5 1 (sqA B n 4 0 (pOne B n ng nn f d))) := m_loop hZ (w := 5) (.inr rfl) (fun g r fu => f_X12_any_4 Z g r fu) (fun g r fu => by rw [f_X12_any_4]) hall (fun d p hd hp => ⟨_, pAll_gd hz hng hnn f d p hd hp⟩)
    have h1 := m_one (dm := 11 - (f + 1)) hZ (hany.up (by omega)) (ih.up (by omega)) (fun d p hd hp => ⟨_, pAny_gd hz hng hnn f d p hd hp⟩) (fun d p hd hp => ⟨_, pOne_gd hz hng hnn f d p hd hp⟩)
    exact h1
theorem m_anyC (hZ : ZO Z) (hz : Bz B n) (hng : ng ≤ 20) (hnn : nn ≤ 60) : RDo 0 am n ng nn 2 B (f_X12_anyC Z) (pAny B n ng nn 16) := by
  have ih := m_ring (am := am) hZ hz hng hnn 16
  have hall : RDo (11 - 16) am n ng nn 1 B (fun r => f_X12_all Z (r_X12_one Z 16) r) (fun d => sqA B n 4 0 (pOne B n ng nn 16 d)) := m_loop hZ (w := 4) (.inl rfl) (fun g r fu => f_X12_all_4 Z g r fu) (fun g r fu => by rw [f_X12_all_4]) ih (fun d p hd hp => ⟨_, pOne_gd hz hng hnn 16 d p hd hp⟩)
  have hany : RDo (11 - 16) am n ng nn 2 B (fun r => f_X12_any Z (fun r => f_X12_all Z (r_X12_one Z 16) r) r) (fun d => sqA B n 5 1 (sqA B n 4 0 (pOne B n ng nn 16 d))) := m_loop hZ (w := 5) (.inr rfl) (fun g r fu => f_X12_any_4 Z g r fu) (fun g r fu => by rw [f_X12_any_4]) hall (fun d p hd hp => ⟨_, pAll_gd hz hng hnn 16 d p hd hp⟩)
  exact hany
end MR
