/-! ===== the pure side: programs over a store of tagged cells ===== -/
abbrev Tg : Type := Nat × Nat
/-- store (tag ↦ address and cell), cells of the heap, cells and slots made so far -/
abbrev Stt : Type := (Tg → Option (Nat × Ce)) × Nat × Nat × Nat
def Rep (s : Stt) (h : Hs) : Prop := h.2 = s.2.1 ∧ (∀ t a c, s.1 t = some (a, c) → h.1 a = some c) ∧ (∀ t u a c d, s.1 t = some (a, c) → s.1 u = some (a, d) → t = u) ∧ ∀ q, h.2 ≤ q → h.1 q = none
def Wp {α : Type} (x : Mo α) (s : Stt) (Q : α → Stt → Prop) : Prop := ∀ h, Rep s h → ∃ a h' c n s', x h = some (a, h', c, n) ∧ Rep s' h' ∧ s'.2.2.1 = s.2.2.1 + c ∧ s'.2.2.2 = s.2.2.2 + n ∧ Q a s'
/-- the cell of a tag is written -/
def su (s : Stt) (t : Tg) (a : Nat) (c : Ce) : Stt := (fun u => if u = t then some (a, c) else s.1 u, s.2)
theorem su_same (s : Stt) (t : Tg) (a : Nat) (c : Ce) : (su s t a c).1 t = some (a, c) := if_pos rfl
theorem su_other {s : Stt} {t u : Tg} {a : Nat} {c : Ce} (h : u ≠ t) : (su s t a c).1 u = s.1 u := if_neg h
theorem su_su (s : Stt) (t : Tg) (a b : Nat) (c d : Ce) : su (su s t a c) t b d = su s t b d := by
  unfold su
  refine Prod.ext (funext fun u => ?_) rfl
  by_cases h : u = t
  · simp only [if_pos h]
  · simp only [if_neg h]
theorem Rep.su {s : Stt} {h : Hs} (r : Rep s h) {t : Tg} {a : Nat} {c d : Ce} (ht : s.1 t = some (a, c)) : Rep (su s t a d) (va_up h.1 a (some d), h.2) := by
  obtain ⟨r1, r2, r3, r4⟩ := r
  refine ⟨r1, fun u b e hu => ?_, fun u v b e f hu hv => ?_, fun q hq => ?_⟩
  · by_cases huT : u = t
    · subst huT
      rw [su_same] at hu
      cases hu
      show (if b = b then some d else _) = some d
      rw [if_pos rfl]
    · rw [su_other huT] at hu
      have hne : b ≠ a := fun e' => huT (r3 u t b e c hu (by rw [e']; exact ht))
      show (if b = a then some d else h.1 b) = some e
      rw [if_neg hne]
      exact r2 u b e hu
  · have key : ∀ (w : Tg) (e : Ce), (su s t a d).1 w = some (b, e) → ∃ e', s.1 w = some (b, e') := fun w e hw => by
      by_cases hwT : w = t
      · subst hwT
        rw [su_same] at hw
        cases hw
        exact ⟨c, ht⟩
      · rw [su_other hwT] at hw
        exact ⟨e, hw⟩
    obtain ⟨e1, h1⟩ := key u e hu
    obtain ⟨e2, h2⟩ := key v f hv
    exact r3 u v b e1 e2 h1 h2
  · have hne : q ≠ a := fun e' => by
      have := r4 q hq
      rw [e', r2 t a c ht] at this
      cases this
    show (if q = a then some d else h.1 q) = none
    rw [if_neg hne]
    exact r4 q hq
/-- a new cell, of a tag of choice (what had the tag is lost) -/
def sn (s : Stt) (t : Tg) (c : Ce) (n : Nat) : Stt := (fun u => if u = t then some (s.2.1, c) else s.1 u, s.2.1 + 1, s.2.2.1 + 1, s.2.2.2 + n)
theorem sn_same (s : Stt) (t : Tg) (c : Ce) (n : Nat) : (sn s t c n).1 t = some (s.2.1, c) := if_pos rfl
theorem sn_other {s : Stt} {t u : Tg} {c : Ce} {n : Nat} (h : u ≠ t) : (sn s t c n).1 u = s.1 u := if_neg h
theorem Rep.sn {s : Stt} {h : Hs} (r : Rep s h) (t : Tg) (c : Ce) (n : Nat) : Rep (sn s t c n) (va_up h.1 h.2 (some c), h.2 + 1) := by
  obtain ⟨r1, r2, r3, r4⟩ := r
  have fr : ∀ (w : Tg) (b : Nat) (e : Ce), s.1 w = some (b, e) → b ≠ h.2 := fun w b e hw e' => by
    have h1 := r2 w b e hw
    rw [e', r4 h.2 (Nat.le_refl _)] at h1
    cases h1
  refine ⟨by rw [r1]; rfl, fun u b e hu => ?_, fun u v b e f hu hv => ?_, fun q hq => ?_⟩
  · by_cases huT : u = t
    · subst huT
      rw [sn_same] at hu
      cases hu
      show (if s.2.1 = h.2 then some c else _) = some c
      rw [if_pos r1.symm]
    · rw [sn_other huT] at hu
      show (if b = h.2 then some c else h.1 b) = some e
      rw [if_neg (fr u b e hu)]
      exact r2 u b e hu
  · by_cases huT : u = t
    · by_cases hvT : v = t
      · rw [huT, hvT]
      · subst huT
        rw [sn_same] at hu
        rw [sn_other hvT] at hv
        cases hu
        exact absurd r1.symm (fr v _ f hv)
    · rw [sn_other huT] at hu
      by_cases hvT : v = t
      · subst hvT
        rw [sn_same] at hv
        cases hv
        exact absurd r1.symm (fr u _ e hu)
      · rw [sn_other hvT] at hv
        exact r3 u v b e f hu hv
  · show (if q = h.2 then some c else h.1 q) = none
    have hq : h.2 + 1 ≤ q := hq
    rw [if_neg (by omega)]
    exact r4 q (by omega)
section WP
variable {α β : Type} {s : Stt} {Q : α → Stt → Prop}
theorem wp_mb {x : Mo β} {f : β → Mo α} (k : Wp x s (fun a s' => Wp (f a) s' Q)) : Wp (mb x f) s Q := by
  intro h hr
  obtain ⟨a, h1, c1, n1, s1, e1, r1, g1, g2, k1⟩ := k h hr
  obtain ⟨b, h2, c2, n2, s2, e2, r2, g3, g4, k2⟩ := k1 h1 r1
  refine ⟨b, h2, c1 + c2, n1 + n2, s2, ?_, r2, by omega, by omega, k2⟩
  unfold mb
  simp only [e1, e2]
theorem wp_mp {a : α} (k : Q a s) : Wp (mp a) s Q := fun h hr => ⟨a, h, 0, 0, s, rfl, hr, rfl, rfl, k⟩
theorem wp_imp {x : Mo α} {P : α → Stt → Prop} (k : Wp x s P) (h : ∀ a s', P a s' → Q a s') : Wp x s Q := by
  intro g hr
  obtain ⟨a, h1, c1, n1, s1, e1, r1, g1, g2, k1⟩ := k g hr
  exact ⟨a, h1, c1, n1, s1, e1, r1, g1, g2, h a s1 k1⟩
theorem wp_ite {p : Prop} [Decidable p] {x y : Mo α} (k1 : p → Wp x s Q) (k2 : ¬ p → Wp y s Q) : Wp (if p then x else y) s Q := by
  by_cases h : p
  · rw [if_pos h]; exact k1 h
  · rw [if_neg h]; exact k2 h
/-- the object at a reference -/
def Obj (s : Stt) (r : Option Nat) (ci : Nat) (fs : List Value) : Prop := ∃ t a, r = some a ∧ s.1 t = some (a, .inl (ci, fs))
theorem ob_of {r : Option Nat} {ci : Nat} {fs : List Value} {h : Hs} {t : Tg} {a : Nat} (hr : Rep s h) (ht : s.1 t = some (a, .inl (ci, fs))) (e : r = some a) : ob ci r h = some (a, fs) := by
  subst e
  unfold ob
  simp only [hr.2.1 t a _ ht, if_true]
theorem wp_gI {t : Tg} {a ci k : Nat} {fs : List Value} {v : Int32} {K : Int32 → Mo α} (ht : s.1 t = some (a, .inl (ci, fs))) (hk : fs[k]? = some (.int v)) (kk : Wp (K v) s Q) : Wp (mb (gI ci k (some a)) K) s Q := by
  refine wp_mb fun h hr => ⟨v, h, 0, 0, s, ?_, hr, rfl, rfl, kk⟩
  unfold gI
  simp only [ob_of hr ht rfl, hk]
theorem wp_gL {t : Tg} {a ci k : Nat} {fs : List Value} {v : Int64} {K : Int64 → Mo α} (ht : s.1 t = some (a, .inl (ci, fs))) (hk : fs[k]? = some (.long v)) (kk : Wp (K v) s Q) : Wp (mb (gL ci k (some a)) K) s Q := by
  refine wp_mb fun h hr => ⟨v, h, 0, 0, s, ?_, hr, rfl, rfl, kk⟩
  unfold gL
  simp only [ob_of hr ht rfl, hk]
theorem wp_gR {t : Tg} {a ci k : Nat} {fs : List Value} {v : Option Nat} {K : Option Nat → Mo α} (ht : s.1 t = some (a, .inl (ci, fs))) (hk : fs[k]? = some (va_rf v)) (kk : Wp (K v) s Q) : Wp (mb (gR ci k (some a)) K) s Q := by
  refine wp_mb fun h hr => ⟨v, h, 0, 0, s, ?_, hr, rfl, rfl, kk⟩
  unfold gR
  simp only [ob_of hr ht rfl, hk]
  cases v <;> rfl
theorem wp_pV {t : Tg} {a ci k : Nat} {fs : List Value} {v : Value} {K : Unit → Mo α} (ht : s.1 t = some (a, .inl (ci, fs))) (hk : k < fs.length) (hc : ci ≠ 0) (kk : Wp (K ()) (su s t a (.inl (ci, fs.set k v))) Q) : Wp (mb (pV ci k (some a) v) K) s Q := by
  refine wp_mb fun h hr => ⟨(), _, 0, 0, _, ?_, hr.su ht, rfl, rfl, kk⟩
  unfold pV
  simp only [ob_of hr ht rfl]
  rw [if_pos ⟨hk, hc⟩]
theorem wp_pZ {t : Tg} {a ci k : Nat} {fs : List Value} {x : Int32} {K : Unit → Mo α} (ht : s.1 t = some (a, .inl (ci, fs))) (hk : k < fs.length) (hc : ci ≠ 0) (hx : x = 0 ∨ x = 1) (kk : Wp (K ()) (su s t a (.inl (ci, fs.set k (.int x)))) Q) : Wp (mb (pZ ci k (some a) x) K) s Q := by
  unfold pZ
  rw [if_pos hx]
  exact wp_pV ht hk hc kk
theorem wp_mo {t : Tg} {a ci : Nat} {fs : List Value} {x : Mo β} {K : β → Mo α} (ht : s.1 t = some (a, .inl (ci, fs))) (kk : Wp (mb x K) s Q) : Wp (mb (mo ci (some a) x) K) s Q := by
  intro h hr
  have e : mb (mo ci (some a) x) K h = mb x K h := by
    unfold mb mo
    simp only [ob_of hr ht rfl]
  rw [e]
  exact kk h hr
theorem wp_moE {t : Tg} {a ci : Nat} {fs : List Value} {x : Mo α} (ht : s.1 t = some (a, .inl (ci, fs))) (kk : Wp x s Q) : Wp (mo ci (some a) x) s Q := by
  intro h hr
  have e : mo ci (some a) x h = x h := by
    unfold mo
    simp only [ob_of hr ht rfl]
  rw [e]
  exact kk h hr
theorem wp_aI {t : Tg} {a u k n : Nat} {f : Nat → Int32} {i : Int32} {K : Int32 → Mo α} (ht : s.1 t = some (a, .inr (u, (n, .inl f)))) (hu : u % 10 = k) (h0 : ¬ i < 0) (hn : i.toNatClampNeg < n) (kk : Wp (K (f i.toNatClampNeg)) s Q) : Wp (mb (aI k (some a) i) K) s Q := by
  refine wp_mb fun h hr => ⟨f i.toNatClampNeg, h, 0, 0, s, ?_, hr, rfl, rfl, kk⟩
  unfold aI ar
  simp only [hr.2.1 t a _ ht, if_pos hu]
  rw [if_neg (by omega)]
theorem wp_aL {t : Tg} {a u n : Nat} {f : Nat → Int64} {i : Int32} {K : Int64 → Mo α} (ht : s.1 t = some (a, .inr (u, (n, .inr (.inl f))))) (hu : u % 10 = 2) (h0 : ¬ i < 0) (hn : i.toNatClampNeg < n) (kk : Wp (K (f i.toNatClampNeg)) s Q) : Wp (mb (aL (some a) i) K) s Q := by
  refine wp_mb fun h hr => ⟨f i.toNatClampNeg, h, 0, 0, s, ?_, hr, rfl, rfl, kk⟩
  unfold aL ar
  simp only [hr.2.1 t a _ ht, if_pos hu]
  rw [if_neg (by omega)]
theorem wp_aR {t : Tg} {a u n : Nat} {f : Nat → Option Nat} {i : Int32} {K : Option Nat → Mo α} (ht : s.1 t = some (a, .inr (u, (n, .inr (.inr (.inr (.inr f))))))) (hu : u % 10 = 4) (h0 : ¬ i < 0) (hn : i.toNatClampNeg < n) (kk : Wp (K (f i.toNatClampNeg)) s Q) : Wp (mb (aR (some a) i) K) s Q := by
  refine wp_mb fun h hr => ⟨f i.toNatClampNeg, h, 0, 0, s, ?_, hr, rfl, rfl, kk⟩
  unfold aR ar
  simp only [hr.2.1 t a _ ht, if_pos hu]
  rw [if_neg (by omega)]
theorem wp_aN {t : Tg} {a u k : Nat} {x : vp_A} {K : Int32 → Mo α} (ht : s.1 t = some (a, .inr (u, x))) (hu : u % 10 = k) (kk : Wp (K (Int32.ofNat x.1)) s Q) : Wp (mb (aN k (some a)) K) s Q := by
  refine wp_mb fun h hr => ⟨Int32.ofNat x.1, h, 0, 0, s, ?_, hr, rfl, rfl, kk⟩
  unfold aN ar
  obtain ⟨n, x⟩ := x
  simp only [hr.2.1 t a _ ht, if_pos hu]
theorem wp_sI {t : Tg} {a k n : Nat} {f : Nat → Int32} {i x : Int32} {K : Unit → Mo α} (ht : s.1 t = some (a, .inr (k, (n, .inl f)))) (hk : k % 10 = k) (h0 : ¬ i < 0) (hn : i.toNatClampNeg < n) (kk : Wp (K ()) (su s t a (.inr (k, (n, .inl (upd f i.toNatClampNeg (kp k x)))))) Q) : Wp (mb (sI k (some a) i x) K) s Q := by
  refine wp_mb fun h hr => ⟨(), _, 0, 0, _, ?_, hr.su ht, rfl, rfl, kk⟩
  unfold sI ar
  simp only [hr.2.1 t a _ ht, if_pos hk]
  rw [if_neg (by omega)]
theorem wp_sL {t : Tg} {a n : Nat} {f : Nat → Int64} {i : Int32} {x : Int64} {K : Unit → Mo α} (ht : s.1 t = some (a, .inr (2, (n, .inr (.inl f))))) (h0 : ¬ i < 0) (hn : i.toNatClampNeg < n) (kk : Wp (K ()) (su s t a (.inr (2, (n, .inr (.inl (vp_updL f i.toNatClampNeg x)))))) Q) : Wp (mb (sL (some a) i x) K) s Q := by
  refine wp_mb fun h hr => ⟨(), _, 0, 0, _, ?_, hr.su ht, rfl, rfl, kk⟩
  unfold sL ar
  simp only [hr.2.1 t a _ ht, if_true]
  rw [if_neg (by omega)]
theorem wp_sR {t v : Tg} {a b n : Nat} {o : Nat × List Value} {f : Nat → Option Nat} {i : Int32} {K : Unit → Mo α} (ht : s.1 t = some (a, .inr (4, (n, .inr (.inr (.inr (.inr f))))))) (hv : s.1 v = some (b, .inl o)) (h0 : ¬ i < 0) (hn : i.toNatClampNeg < n) (kk : Wp (K ()) (su s t a (.inr (4, (n, .inr (.inr (.inr (.inr (va_up f i.toNatClampNeg (some b))))))))) Q) : Wp (mb (sR (some a) i (some b)) K) s Q := by
  refine wp_mb fun h hr => ⟨(), _, 0, 0, _, ?_, hr.su ht, rfl, rfl, kk⟩
  unfold sR ar
  simp only [hr.2.1 t a _ ht, hr.2.1 v b _ hv, if_true]
  rw [if_neg (by omega)]
theorem wp_sRn {t : Tg} {a n : Nat} {f : Nat → Option Nat} {i : Int32} {K : Unit → Mo α} (ht : s.1 t = some (a, .inr (4, (n, .inr (.inr (.inr (.inr f))))))) (h0 : ¬ i < 0) (hn : i.toNatClampNeg < n) (kk : Wp (K ()) (su s t a (.inr (4, (n, .inr (.inr (.inr (.inr (va_up f i.toNatClampNeg none)))))))) Q) : Wp (mb (sR (some a) i none) K) s Q := by
  refine wp_mb fun h hr => ⟨(), _, 0, 0, _, ?_, hr.su ht, rfl, rfl, kk⟩
  unfold sR ar
  simp only [hr.2.1 t a _ ht, if_true]
  rw [if_neg (by omega)]
theorem wp_nO (t : Tg) {ci : Nat} {fs : List Value} {K : Option Nat → Mo α} (kk : Wp (K (some s.2.1)) (sn s t (.inl (ci, fs)) fs.length) Q) : Wp (mb (nO ci fs) K) s Q := by
  refine wp_mb fun h hr => ⟨some s.2.1, _, 1, fs.length, _, ?_, hr.sn t (.inl (ci, fs)) fs.length, rfl, rfl, kk⟩
  unfold nO
  rw [hr.1]
theorem wp_nA (t : Tg) {k : Nat} {i : Int32} {K : Option Nat → Mo α} (h0 : ¬ i < 0) (hn : i.toNatClampNeg ≤ 1000000) (kk : Wp (K (some s.2.1)) (sn s t (.inr (k, (i.toNatClampNeg, z0 k))) i.toNatClampNeg) Q) : Wp (mb (nA k i) K) s Q := by
  refine wp_mb fun h hr => ⟨some s.2.1, _, 1, i.toNatClampNeg, _, ?_, hr.sn t (.inr (k, (i.toNatClampNeg, z0 k))) i.toNatClampNeg, rfl, rfl, kk⟩
  unfold nA
  rw [if_neg (by omega), hr.1]
theorem wp_rz {P : Int32 → Stt → Prop} {v : Int32} (hv : v = 0 ∨ v = 1) (k : P v s) : Wp (rz .boolean v) s P := by
  rcases hv with rfl | rfl <;> (unfold rz; rw [if_pos rfl]; exact wp_mp k)
theorem wp_mbE {x : Mo β} {f : β → Mo α} {P : β → Stt → Prop} (k : Wp x s P) (k2 : ∀ a s', P a s' → Wp (f a) s' Q) : Wp (mb x f) s Q := wp_mb (wp_imp k k2)
end WP
