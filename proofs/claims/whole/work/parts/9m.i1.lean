/-! ===== the start: the class's own ===== -/
def E00 (z sz : Nat) : Es := (fun t => if t = (0, 0, 0) then z else 0, fun _ => 0, fun _ => 0, fun _ _ => none, fun _ _ => 0, sz, 0, 0, 256)
def NL9 : List Tg := [(2, 0, 0), (3, 0, 0), (20, 0, 0), (4, 0, 0), (4, 1, 0), (4, 2, 0), (21, 0, 0), (22, 0, 0), (2, 1, 0), (5, 0, 0), (5, 1, 0), (6, 0, 0), (6, 1, 0), (7, 0, 0), (8, 0, 0), (9, 0, 0), (7, 0, 1), (10, 0, 0), (10, 0, 1), (10, 0, 2), (7, 1, 0), (8, 1, 0), (9, 1, 0), (7, 1, 1), (10, 1, 0), (10, 1, 1), (10, 1, 2), (11, 0, 0), (11, 0, 1), (11, 1, 0), (11, 1, 1), (2, 2, 0), (12, 0, 0), (13, 0, 0)]
/-- ints are 0 but for the tree's own -/
def Z0 (I : Tg → Nat → Int32) : Prop := ∀ t k, t ≠ (2, 0, 0) → I t k = 0
def Lg0 (E : Es) : Prop := ∀ t k, eLg E t k = 0
def Ls0 (E : Es) (a b : Nat) : Prop := eKd E (a, b, 0) = 102 ∧ eRf E (a, b, 0) 1 = some (0, 0, 0)
def CPre (z sz : Nat) (E : Es) (I : Tg → Nat → Int32) : Prop := (eAd E (0, 0, 0) = z ∧ eAd E (2, 0, 0) = sz ∧ eAd E (3, 0, 0) = sz + 1 ∧ eAd E (12, 0, 0) = sz + 32) ∧ (eKd E (2, 0, 0) = 114 ∧ eRf E (2, 0, 0) 0 = some (3, 0, 0) ∧ eRf E (2, 0, 0) 1 = some (20, 0, 0) ∧ eRf E (2, 0, 0) 2 = some (4, 0, 0) ∧ eRf E (2, 0, 0) 3 = some (21, 0, 0) ∧ eRf E (2, 0, 0) 4 = some (22, 0, 0) ∧ eRf E (2, 0, 0) 5 = some (2, 1, 0) ∧ eRf E (2, 0, 0) 6 = some (5, 0, 0) ∧ eRf E (2, 0, 0) 7 = some (6, 0, 0) ∧ eRf E (2, 0, 0) 9 = some (7, 0, 0) ∧ eRf E (2, 0, 0) 10 = some (7, 1, 0) ∧ eRf E (2, 0, 0) 11 = some (11, 0, 0) ∧ eRf E (2, 0, 0) 12 = some (11, 1, 0) ∧ eRf E (2, 0, 0) 13 = some (2, 2, 0) ∧ (eKd E (2, 1, 0) = 2 ∧ eLn E (2, 1, 0) = 12) ∧ eKd E (2, 2, 0) = 2 ∧ eLn E (2, 2, 0) = 720) ∧ GrpS E ∧ TapS E ∧ RowS E 0 ∧ RowS E 1 ∧ OutS E 0 ∧ OutS E 1 ∧ (Ls0 E 3 0 ∧ Ls0 E 20 0 ∧ Ls0 E 21 0 ∧ Ls0 E 22 0 ∧ Ls0 E 8 0 ∧ Ls0 E 9 0 ∧ Ls0 E 8 1 ∧ Ls0 E 9 1 ∧ Ls0 E 13 0) ∧ (eKd E (12, 0, 0) = 109 ∧ eRf E (12, 0, 0) 1 = none ∧ eRf E (12, 0, 0) 3 = some (13, 0, 0)) ∧ (Z0 I ∧ I (2, 0, 0) 8 = -1 ∧ Lg0 E) ∧ (∀ t, t ∉ NL9 → eKd E t = 0) ∧ eCu E = 256 ∧ eMc E ≤ 100 ∧ eMs E ≤ 5000
section SF
variable {α : Type} {E : Es} {I : Tg → Nat → Int32} {D : Nat → Nat → Int32} {Z : Nat → Nat} {Q : α → Gh → Prop}
theorem wz_nO (t : Tg) {ci q : Nat} {fs : List Value} {K : Option Nat → Mo α} (h1 : Nat.beq t.1 1 = false) (ht : eKd E t = 0) (ht0 : Nat.beq t.1 0 = false) (hfs : fs = (p_ty ci).map (fun ty => if ty = 0 then .int 0 else if ty = 1 then .null else .long 0)) (hq : eHz E = q) (kk : Wp (K (some q)) (eNew E t (100 + ci) 0 fs.length, D, uI I t (fun _ => 0)) Q) : Wp (mb (nO ci fs) K) (E, D, I) Q := by
  refine wp_nO t (fun e => by rw [e] at h1; cases h1) ht (fun e => by rw [e] at ht0; cases ht0) hfs ?_
  rw [show eAd (eNew E t (100 + ci) 0 fs.length) t = q from (if_pos rfl).trans hq]
  exact kk
theorem wz_nA (t : Tg) {u n q : Nat} {i : Int32} {K : Option Nat → Mo α} (h1 : Nat.beq t.1 1 = false) (ht : eKd E t = 0) (ht0 : Nat.beq t.1 0 = false) (hi : i = nI n) (hu : u < 10) (hq : eHz E = q) (hn : n ≤ 1000000) (kk : Wp (K (some q)) (eNew E t (u + 1) n n, D, uI I t (fun _ => 0)) Q) : Wp (mb (nA u i) K) (E, D, I) Q := by
  subst hi
  have e : (nI n).toNatClampNeg = n := nI_clamp (by omega)
  refine wp_nA t (fun e => by rw [e] at h1; cases h1) ht (fun e => by rw [e] at ht0; cases ht0) hu (nI_pos (by omega)) (by rw [e]; exact hn) ?_
  rw [e, show eAd (eNew E t (u + 1) n n) t = q from (if_pos rfl).trans hq]
  exact kk
theorem Z0.uI {t : Tg} (h : Z0 I) : Z0 (uI I t (fun _ => 0)) := fun u k hu => by
  show (if u = t then 0 else I u k) = 0
  split
  · rfl
  · exact h u k hu
theorem Z0.z {t : Tg} {j : Nat} (h : Z0 I) : Z0 (us I t j 0) := fun u k hu => by
  show (if u = t ∧ k = j then 0 else I u k) = 0
  split
  · rfl
  · exact h u k hu
theorem Z0.t {j : Nat} {v : Int32} (h : Z0 I) : Z0 (us I (2, 0, 0) j v) := fun u k hu => by
  show (if u = (2, 0, 0) ∧ k = j then v else I u k) = 0
  rw [if_neg (fun q => hu q.1)]
  exact h u k hu
theorem Lg0.n {t : Tg} {a b c : Nat} (h : Lg0 E) : Lg0 (eNew E t a b c) := fun u k => by
  show (if u = t then 0 else eLg E u k) = 0
  split
  · rfl
  · exact h u k
theorem Lg0.r {t : Tg} {j : Nat} {v : Option Tg} (h : Lg0 E) : Lg0 (eR E t j v) := h
theorem kd_n {t u : Tg} {a b c : Nat} (h : u ≠ t) (h2 : eKd E u = 0) : eKd (eNew E t a b c) u = 0 := (if_neg h).trans h2
theorem kd_r {t u : Tg} {j : Nat} {v : Option Tg} (h2 : eKd E u = 0) : eKd (eR E t j v) u = 0 := h2
theorem nl_ne {t u : Tg} (h : u ∉ NL9) (ht : t ∈ NL9) : u ≠ t := fun e => h (e ▸ ht)
end SF
set_option maxRecDepth 100000 in
set_option maxHeartbeats 4000000 in
theorem c_init1 {D : Nat → Nat → Int32} {Z : Nat → Nat} {Q : Unit → Gh → Prop} {sz : Nat} (kk : ∀ E I, CPre (Z 0) sz E I → Wp (mb (mo 2 (some (sz + 1)) (f_Jx4a65c_add_9ea2d Z (some (sz + 1)) (some (sz + 32)))) (fun _ => mp ())) (E, D, I) Q) : Wp (f_X11_init Z (some sz)) (eNew (E00 (Z 0) sz) (2, 0, 0) 114 0 14, D, uI (fun _ _ => 0) (2, 0, 0) (fun _ => 0)) Q := by
  unfold f_X11_init f_X8_init f_X9_init f_X3_init f_X10_init f_X2_init f_X7_init f_X6_init f_Jx4a65c_init_da8c8 f_Jxc12de_init_da8c8 f_Jxa1e45_init_da8c8
  refine wc_call (t := (2, 0, 0)) rfl rfl (wp_mp ?_)
  refine wz_nO (3, 0, 0) (q := sz + 1) rfl rfl rfl rfl rfl ?_
  refine wc_call (t := (3, 0, 0)) rfl rfl ?_
  refine wc_call (t := (3, 0, 0)) rfl rfl ?_
  refine wc_call (t := (3, 0, 0)) rfl rfl ?_
  refine wc_call (t := (3, 0, 0)) rfl rfl (wp_mp ?_)
  refine wp_mp ?_
  refine wc_P (t := (3, 0, 0)) rfl rfl rfl rfl rfl (wp_mp ?_)
  refine wc_PR (t := (3, 0, 0)) (u := (0, 0, 0)) rfl rfl rfl rfl rfl (.inr rfl) ?_
  refine wp_mp ?_
  refine wc_PR (t := (2, 0, 0)) (u := (3, 0, 0)) rfl rfl rfl rfl rfl (.inl (by show (102 : Nat) ≠ 0; decide)) ?_
  refine wz_nO (20, 0, 0) (q := sz + 2) rfl rfl rfl rfl rfl ?_
  refine wc_call (t := (20, 0, 0)) rfl rfl ?_
  refine wc_call (t := (20, 0, 0)) rfl rfl ?_
  refine wc_call (t := (20, 0, 0)) rfl rfl ?_
  refine wc_call (t := (20, 0, 0)) rfl rfl (wp_mp ?_)
  refine wp_mp ?_
  refine wc_P (t := (20, 0, 0)) rfl rfl rfl rfl rfl (wp_mp ?_)
  refine wc_PR (t := (20, 0, 0)) (u := (0, 0, 0)) rfl rfl rfl rfl rfl (.inr rfl) ?_
  refine wp_mp ?_
  refine wc_PR (t := (2, 0, 0)) (u := (20, 0, 0)) rfl rfl rfl rfl rfl (.inl (by show (102 : Nat) ≠ 0; decide)) ?_
  refine wz_nO (4, 0, 0) (q := sz + 3) rfl rfl rfl rfl rfl ?_
  refine wc_call (t := (4, 0, 0)) rfl rfl ?_
  refine wc_call (t := (4, 0, 0)) rfl rfl (wp_mp ?_)
  refine wz_nA (4, 1, 0) (n := 20) (q := sz + 4) rfl rfl rfl rfl (by omega) rfl (by omega) ?_
  refine wc_PR (t := (4, 0, 0)) (u := (4, 1, 0)) rfl rfl rfl rfl rfl (.inl (by show (3 : Nat) ≠ 0; decide)) ?_
  refine wz_nA (4, 2, 0) (n := 20) (q := sz + 5) rfl rfl rfl rfl (by omega) rfl (by omega) ?_
  refine wc_PR (t := (4, 0, 0)) (u := (4, 2, 0)) rfl rfl rfl rfl rfl (.inl (by show (2 : Nat) ≠ 0; decide)) ?_
  refine wp_mp ?_
  refine wc_PR (t := (2, 0, 0)) (u := (4, 0, 0)) rfl rfl rfl rfl rfl (.inl (by show (106 : Nat) ≠ 0; decide)) ?_
  refine wz_nO (21, 0, 0) (q := sz + 6) rfl rfl rfl rfl rfl ?_
  refine wc_call (t := (21, 0, 0)) rfl rfl ?_
  refine wc_call (t := (21, 0, 0)) rfl rfl ?_
  refine wc_call (t := (21, 0, 0)) rfl rfl ?_
  refine wc_call (t := (21, 0, 0)) rfl rfl (wp_mp ?_)
  refine wp_mp ?_
  refine wc_P (t := (21, 0, 0)) rfl rfl rfl rfl rfl (wp_mp ?_)
  refine wc_PR (t := (21, 0, 0)) (u := (0, 0, 0)) rfl rfl rfl rfl rfl (.inr rfl) ?_
  refine wp_mp ?_
  refine wc_PR (t := (2, 0, 0)) (u := (21, 0, 0)) rfl rfl rfl rfl rfl (.inl (by show (102 : Nat) ≠ 0; decide)) ?_
  refine wz_nO (22, 0, 0) (q := sz + 7) rfl rfl rfl rfl rfl ?_
  refine wc_call (t := (22, 0, 0)) rfl rfl ?_
  refine wc_call (t := (22, 0, 0)) rfl rfl ?_
  refine wc_call (t := (22, 0, 0)) rfl rfl ?_
  refine wc_call (t := (22, 0, 0)) rfl rfl (wp_mp ?_)
  refine wp_mp ?_
  refine wc_P (t := (22, 0, 0)) rfl rfl rfl rfl rfl (wp_mp ?_)
  refine wc_PR (t := (22, 0, 0)) (u := (0, 0, 0)) rfl rfl rfl rfl rfl (.inr rfl) ?_
  refine wp_mp ?_
  refine wc_PR (t := (2, 0, 0)) (u := (22, 0, 0)) rfl rfl rfl rfl rfl (.inl (by show (102 : Nat) ≠ 0; decide)) ?_
  refine wz_nA (2, 1, 0) (n := 12) (q := sz + 8) rfl rfl rfl rfl (by omega) rfl (by omega) ?_
  refine wc_PR (t := (2, 0, 0)) (u := (2, 1, 0)) rfl rfl rfl rfl rfl (.inl (by show (2 : Nat) ≠ 0; decide)) ?_
  refine wz_nO (5, 0, 0) (q := sz + 9) rfl rfl rfl rfl rfl ?_
  refine wc_call (t := (5, 0, 0)) rfl rfl ?_
  refine wc_call (t := (5, 0, 0)) rfl rfl (wp_mp ?_)
  refine wz_nA (5, 1, 0) (n := 200) (q := sz + 10) rfl rfl rfl rfl (by omega) rfl (by omega) ?_
  refine wc_PR (t := (5, 0, 0)) (u := (5, 1, 0)) rfl rfl rfl rfl rfl (.inl (by show (1 : Nat) ≠ 0; decide)) ?_
  refine wp_mp ?_
  refine wc_PR (t := (2, 0, 0)) (u := (5, 0, 0)) rfl rfl rfl rfl rfl (.inl (by show (113 : Nat) ≠ 0; decide)) ?_
  refine wz_nO (6, 0, 0) (q := sz + 11) rfl rfl rfl rfl rfl ?_
  refine wc_R (t := (2, 0, 0)) (u := (5, 0, 0)) rfl rfl rfl rfl ?_
  refine wc_call (t := (6, 0, 0)) rfl rfl ?_
  refine wc_call (t := (6, 0, 0)) rfl rfl (wp_mp ?_)
  refine wz_nA (6, 1, 0) (n := 200) (q := sz + 12) rfl rfl rfl rfl (by omega) rfl (by omega) ?_
  refine wc_PR (t := (6, 0, 0)) (u := (6, 1, 0)) rfl rfl rfl rfl rfl (.inl (by show (2 : Nat) ≠ 0; decide)) ?_
  refine wc_PR (t := (6, 0, 0)) (u := (5, 0, 0)) rfl rfl rfl rfl rfl (.inl (by show (113 : Nat) ≠ 0; decide)) ?_
  refine wp_mp ?_
  refine wc_PR (t := (2, 0, 0)) (u := (6, 0, 0)) rfl rfl rfl rfl rfl (.inl (by show (105 : Nat) ≠ 0; decide)) ?_
  refine wc_P (t := (2, 0, 0)) rfl rfl rfl rfl rfl ?_
  refine wz_nO (7, 0, 0) (q := sz + 13) rfl rfl rfl rfl rfl ?_
  refine wc_call (t := (7, 0, 0)) rfl rfl ?_
  refine wc_call (t := (7, 0, 0)) rfl rfl (wp_mp ?_)
  refine wz_nO (8, 0, 0) (q := sz + 14) rfl rfl rfl rfl rfl ?_
  refine wc_call (t := (8, 0, 0)) rfl rfl ?_
  refine wc_call (t := (8, 0, 0)) rfl rfl ?_
  refine wc_call (t := (8, 0, 0)) rfl rfl ?_
  refine wc_call (t := (8, 0, 0)) rfl rfl (wp_mp ?_)
  refine wp_mp ?_
  refine wc_P (t := (8, 0, 0)) rfl rfl rfl rfl rfl (wp_mp ?_)
  refine wc_PR (t := (8, 0, 0)) (u := (0, 0, 0)) rfl rfl rfl rfl rfl (.inr rfl) ?_
  refine wp_mp ?_
  refine wc_PR (t := (7, 0, 0)) (u := (8, 0, 0)) rfl rfl rfl rfl rfl (.inl (by show (102 : Nat) ≠ 0; decide)) ?_
  refine wz_nO (9, 0, 0) (q := sz + 15) rfl rfl rfl rfl rfl ?_
  refine wc_call (t := (9, 0, 0)) rfl rfl ?_
  refine wc_call (t := (9, 0, 0)) rfl rfl ?_
  refine wc_call (t := (9, 0, 0)) rfl rfl ?_
  refine wc_call (t := (9, 0, 0)) rfl rfl (wp_mp ?_)
  refine wp_mp ?_
  refine wc_P (t := (9, 0, 0)) rfl rfl rfl rfl rfl (wp_mp ?_)
  refine wc_PR (t := (9, 0, 0)) (u := (0, 0, 0)) rfl rfl rfl rfl rfl (.inr rfl) ?_
  refine wp_mp ?_
  refine wc_PR (t := (7, 0, 0)) (u := (9, 0, 0)) rfl rfl rfl rfl rfl (.inl (by show (102 : Nat) ≠ 0; decide)) ?_
  refine wz_nA (7, 0, 1) (n := 100) (q := sz + 16) rfl rfl rfl rfl (by omega) rfl (by omega) ?_
  refine wc_PR (t := (7, 0, 0)) (u := (7, 0, 1)) rfl rfl rfl rfl rfl (.inl (by show (3 : Nat) ≠ 0; decide)) ?_
  refine wz_nO (10, 0, 0) (q := sz + 17) rfl rfl rfl rfl rfl ?_
  refine wc_call (t := (10, 0, 0)) rfl rfl ?_
  refine wc_call (t := (10, 0, 0)) rfl rfl (wp_mp ?_)
  refine wz_nA (10, 0, 1) (n := 64) (q := sz + 18) rfl rfl rfl rfl (by omega) rfl (by omega) ?_
  refine wc_PR (t := (10, 0, 0)) (u := (10, 0, 1)) rfl rfl rfl rfl rfl (.inl (by show (3 : Nat) ≠ 0; decide)) ?_
  refine wz_nA (10, 0, 2) (n := 8) (q := sz + 19) rfl rfl rfl rfl (by omega) rfl (by omega) ?_
  refine wc_PR (t := (10, 0, 0)) (u := (10, 0, 2)) rfl rfl rfl rfl rfl (.inl (by show (3 : Nat) ≠ 0; decide)) ?_
  refine wp_mp ?_
  refine wc_PR (t := (7, 0, 0)) (u := (10, 0, 0)) rfl rfl rfl rfl rfl (.inl (by show (112 : Nat) ≠ 0; decide)) ?_
  refine wp_mp ?_
  refine wc_PR (t := (2, 0, 0)) (u := (7, 0, 0)) rfl rfl rfl rfl rfl (.inl (by show (111 : Nat) ≠ 0; decide)) ?_
  refine wz_nO (7, 1, 0) (q := sz + 20) rfl rfl rfl rfl rfl ?_
  refine wc_call (t := (7, 1, 0)) rfl rfl ?_
  refine wc_call (t := (7, 1, 0)) rfl rfl (wp_mp ?_)
  refine wz_nO (8, 1, 0) (q := sz + 21) rfl rfl rfl rfl rfl ?_
  refine wc_call (t := (8, 1, 0)) rfl rfl ?_
  refine wc_call (t := (8, 1, 0)) rfl rfl ?_
  refine wc_call (t := (8, 1, 0)) rfl rfl ?_
  refine wc_call (t := (8, 1, 0)) rfl rfl (wp_mp ?_)
  refine wp_mp ?_
  refine wc_P (t := (8, 1, 0)) rfl rfl rfl rfl rfl (wp_mp ?_)
  refine wc_PR (t := (8, 1, 0)) (u := (0, 0, 0)) rfl rfl rfl rfl rfl (.inr rfl) ?_
  refine wp_mp ?_
  refine wc_PR (t := (7, 1, 0)) (u := (8, 1, 0)) rfl rfl rfl rfl rfl (.inl (by show (102 : Nat) ≠ 0; decide)) ?_
  refine wz_nO (9, 1, 0) (q := sz + 22) rfl rfl rfl rfl rfl ?_
  refine wc_call (t := (9, 1, 0)) rfl rfl ?_
  refine wc_call (t := (9, 1, 0)) rfl rfl ?_
  refine wc_call (t := (9, 1, 0)) rfl rfl ?_
  refine wc_call (t := (9, 1, 0)) rfl rfl (wp_mp ?_)
  refine wp_mp ?_
  refine wc_P (t := (9, 1, 0)) rfl rfl rfl rfl rfl (wp_mp ?_)
  refine wc_PR (t := (9, 1, 0)) (u := (0, 0, 0)) rfl rfl rfl rfl rfl (.inr rfl) ?_
  refine wp_mp ?_
  refine wc_PR (t := (7, 1, 0)) (u := (9, 1, 0)) rfl rfl rfl rfl rfl (.inl (by show (102 : Nat) ≠ 0; decide)) ?_
  refine wz_nA (7, 1, 1) (n := 100) (q := sz + 23) rfl rfl rfl rfl (by omega) rfl (by omega) ?_
  refine wc_PR (t := (7, 1, 0)) (u := (7, 1, 1)) rfl rfl rfl rfl rfl (.inl (by show (3 : Nat) ≠ 0; decide)) ?_
  refine wz_nO (10, 1, 0) (q := sz + 24) rfl rfl rfl rfl rfl ?_
  refine wc_call (t := (10, 1, 0)) rfl rfl ?_
  refine wc_call (t := (10, 1, 0)) rfl rfl (wp_mp ?_)
  refine wz_nA (10, 1, 1) (n := 64) (q := sz + 25) rfl rfl rfl rfl (by omega) rfl (by omega) ?_
  refine wc_PR (t := (10, 1, 0)) (u := (10, 1, 1)) rfl rfl rfl rfl rfl (.inl (by show (3 : Nat) ≠ 0; decide)) ?_
  refine wz_nA (10, 1, 2) (n := 8) (q := sz + 26) rfl rfl rfl rfl (by omega) rfl (by omega) ?_
  refine wc_PR (t := (10, 1, 0)) (u := (10, 1, 2)) rfl rfl rfl rfl rfl (.inl (by show (3 : Nat) ≠ 0; decide)) ?_
  refine wp_mp ?_
  refine wc_PR (t := (7, 1, 0)) (u := (10, 1, 0)) rfl rfl rfl rfl rfl (.inl (by show (112 : Nat) ≠ 0; decide)) ?_
  refine wp_mp ?_
  refine wc_PR (t := (2, 0, 0)) (u := (7, 1, 0)) rfl rfl rfl rfl rfl (.inl (by show (111 : Nat) ≠ 0; decide)) ?_
  refine wz_nO (11, 0, 0) (q := sz + 27) rfl rfl rfl rfl rfl ?_
  refine wc_call (t := (11, 0, 0)) rfl rfl ?_
  refine wc_call (t := (11, 0, 0)) rfl rfl (wp_mp ?_)
  refine wz_nA (11, 0, 1) (n := 100) (q := sz + 28) rfl rfl rfl rfl (by omega) rfl (by omega) ?_
  refine wc_PR (t := (11, 0, 0)) (u := (11, 0, 1)) rfl rfl rfl rfl rfl (.inl (by show (2 : Nat) ≠ 0; decide)) ?_
  refine wp_mp ?_
  refine wc_PR (t := (2, 0, 0)) (u := (11, 0, 0)) rfl rfl rfl rfl rfl (.inl (by show (110 : Nat) ≠ 0; decide)) ?_
  refine wz_nO (11, 1, 0) (q := sz + 29) rfl rfl rfl rfl rfl ?_
  refine wc_call (t := (11, 1, 0)) rfl rfl ?_
  refine wc_call (t := (11, 1, 0)) rfl rfl (wp_mp ?_)
  refine wz_nA (11, 1, 1) (n := 100) (q := sz + 30) rfl rfl rfl rfl (by omega) rfl (by omega) ?_
  refine wc_PR (t := (11, 1, 0)) (u := (11, 1, 1)) rfl rfl rfl rfl rfl (.inl (by show (2 : Nat) ≠ 0; decide)) ?_
  refine wp_mp ?_
  refine wc_PR (t := (2, 0, 0)) (u := (11, 1, 0)) rfl rfl rfl rfl rfl (.inl (by show (110 : Nat) ≠ 0; decide)) ?_
  refine wz_nA (2, 2, 0) (n := 720) (q := sz + 31) rfl rfl rfl rfl (by omega) rfl (by omega) ?_
  refine wc_PR (t := (2, 0, 0)) (u := (2, 2, 0)) rfl rfl rfl rfl rfl (.inl (by show (2 : Nat) ≠ 0; decide)) ?_
  refine wc_R (t := (2, 0, 0)) (u := (3, 0, 0)) rfl rfl rfl rfl ?_
  refine wz_nO (12, 0, 0) (q := sz + 32) rfl rfl rfl rfl rfl ?_
  refine wc_call (t := (12, 0, 0)) rfl rfl ?_
  refine wc_call (t := (12, 0, 0)) rfl rfl (wp_mp ?_)
  refine wz_nO (13, 0, 0) (q := sz + 33) rfl rfl rfl rfl rfl ?_
  refine wc_call (t := (13, 0, 0)) rfl rfl ?_
  refine wc_call (t := (13, 0, 0)) rfl rfl ?_
  refine wc_call (t := (13, 0, 0)) rfl rfl ?_
  refine wc_call (t := (13, 0, 0)) rfl rfl (wp_mp ?_)
  refine wp_mp ?_
  refine wc_P (t := (13, 0, 0)) rfl rfl rfl rfl rfl (wp_mp ?_)
  refine wc_PR (t := (13, 0, 0)) (u := (0, 0, 0)) rfl rfl rfl rfl rfl (.inr rfl) ?_
  refine wp_mp ?_
  refine wc_PR (t := (12, 0, 0)) (u := (13, 0, 0)) rfl rfl rfl rfl rfl (.inl (by show (102 : Nat) ≠ 0; decide)) ?_
  refine wc_P (t := (12, 0, 0)) rfl rfl rfl rfl rfl ?_
  refine wc_PRn (t := (12, 0, 0)) rfl rfl rfl rfl (wp_mp ?_)
  refine kk _ _ ?_
  refine ⟨⟨rfl, rfl, rfl, rfl⟩, ⟨rfl, rfl, rfl, rfl, rfl, rfl, rfl, rfl, rfl, rfl, rfl, rfl, rfl, rfl, ⟨rfl, rfl⟩, rfl, rfl⟩, ⟨rfl, rfl, rfl, rfl, rfl, rfl, rfl⟩, ⟨rfl, rfl, rfl, rfl, rfl, rfl, rfl, rfl, rfl⟩, ⟨rfl, rfl, rfl, rfl, rfl, rfl, rfl, rfl, rfl, rfl, rfl, rfl, rfl, rfl⟩, ⟨rfl, rfl, rfl, rfl, rfl, rfl, rfl, rfl, rfl, rfl, rfl, rfl, rfl, rfl⟩, ⟨rfl, rfl, rfl, rfl⟩, ⟨rfl, rfl, rfl, rfl⟩, ⟨⟨rfl, rfl⟩, ⟨rfl, rfl⟩, ⟨rfl, rfl⟩, ⟨rfl, rfl⟩, ⟨rfl, rfl⟩, ⟨rfl, rfl⟩, ⟨rfl, rfl⟩, ⟨rfl, rfl⟩, ⟨rfl, rfl⟩⟩, ⟨rfl, rfl, rfl⟩, ⟨?_, rfl, ?_⟩, fun t ht => ?_, rfl, ?_, ?_⟩
  · repeat (first | exact fun _ _ _ => rfl | refine Z0.uI ?_ | refine Z0.t ?_ | refine Z0.z ?_)
  · repeat (first | exact fun _ _ => rfl | refine Lg0.r ?_ | refine Lg0.n ?_)
  · repeat (first | exact rfl | refine kd_r ?_ | refine kd_n (nl_ne ht (by decide)) ?_)
  · exact Nat.le_of_ble_eq_true rfl
  · exact Nat.le_of_ble_eq_true rfl
