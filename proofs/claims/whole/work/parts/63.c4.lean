/-! ===== the class's cells and the model's rows ===== -/
def RowS (E : Es) (r : Nat) : Prop := eKd E (7, r, 0) = 111 ∧ eRf E (7, r, 0) 0 = some (8, r, 0) ∧ eRf E (7, r, 0) 1 = some (9, r, 0) ∧ eRf E (7, r, 0) 2 = some (7, r, 1) ∧ eRf E (7, r, 0) 3 = some (10, r, 0) ∧ eKd E (7, r, 1) = 3 ∧ eLn E (7, r, 1) = 100 ∧ eKd E (10, r, 0) = 112 ∧ eRf E (10, r, 0) 0 = some (10, r, 1) ∧ eRf E (10, r, 0) 1 = some (10, r, 2) ∧ eKd E (10, r, 1) = 3 ∧ eLn E (10, r, 1) = 64 ∧ eKd E (10, r, 2) = 3 ∧ eLn E (10, r, 2) = 8
def OutS (E : Es) (r : Nat) : Prop := eKd E (11, r, 0) = 110 ∧ eRf E (11, r, 0) 0 = some (11, r, 1) ∧ eKd E (11, r, 1) = 2 ∧ eLn E (11, r, 1) = 100
/-- what is fixed of the tree's own cells -/
def TreS (E : Es) (Z : Nat → Nat) (ax ao : Nat) : Prop := (eAd E (0, 0, 0) = Z 0 ∧ eAd E (2, 0, 0) = ax ∧ eAd E (19, 0, 0) = ao) ∧ eKd E (2, 0, 0) = 114 ∧ eRf E (2, 0, 0) 0 = some (3, 0, 0) ∧ eRf E (2, 0, 0) 1 = some (20, 0, 0) ∧ eRf E (2, 0, 0) 2 = some (4, 0, 0) ∧ eRf E (2, 0, 0) 3 = some (21, 0, 0) ∧ eRf E (2, 0, 0) 4 = some (22, 0, 0) ∧ eRf E (2, 0, 0) 5 = some (2, 1, 0) ∧ eRf E (2, 0, 0) 6 = some (5, 0, 0) ∧ eRf E (2, 0, 0) 7 = some (6, 0, 0) ∧ eRf E (2, 0, 0) 9 = some (7, 0, 0) ∧ eRf E (2, 0, 0) 10 = some (7, 1, 0) ∧ eRf E (2, 0, 0) 11 = some (11, 0, 0) ∧ eRf E (2, 0, 0) 12 = some (11, 1, 0) ∧ eRf E (2, 0, 0) 13 = some (2, 2, 0) ∧ (eKd E (2, 1, 0) = 2 ∧ eLn E (2, 1, 0) = 12) ∧ (eKd E (2, 2, 0) = 2 ∧ eLn E (2, 2, 0) = 720) ∧ (eKd E (19, 0, 0) = 3 ∧ eLn E (19, 0, 0) = 1)
def GrpS (E : Es) : Prop := eKd E (4, 0, 0) = 106 ∧ eRf E (4, 0, 0) 0 = some (4, 1, 0) ∧ eRf E (4, 0, 0) 1 = some (4, 2, 0) ∧ eKd E (4, 1, 0) = 3 ∧ eLn E (4, 1, 0) = 20 ∧ eKd E (4, 2, 0) = 2 ∧ eLn E (4, 2, 0) = 20
def TapS (E : Es) : Prop := eKd E (5, 0, 0) = 113 ∧ eRf E (5, 0, 0) 0 = some (5, 1, 0) ∧ eKd E (5, 1, 0) = 1 ∧ eLn E (5, 1, 0) = 200 ∧ eKd E (6, 0, 0) = 105 ∧ eRf E (6, 0, 0) 0 = some (5, 0, 0) ∧ eRf E (6, 0, 0) 7 = some (6, 1, 0) ∧ eKd E (6, 1, 0) = 2 ∧ eLn E (6, 1, 0) = 200
/-- what may change while the class is asked -/
def FrQ (E : Es) (I : Tg → Nat → Int32) (E' : Es) (I' : Tg → Nat → Int32) : Prop := (∀ t : Tg, t.1 ≠ 8 → t.1 ≠ 9 → eAd E' t = eAd E t ∧ eKd E' t = eKd E t ∧ eLn E' t = eLn E t) ∧ (∀ t k, t.1 ≠ 8 → t.1 ≠ 9 → ¬ (t.1 = 11 ∧ k = 2) → eRf E' t k = eRf E t k) ∧ (∀ t k, t.1 ≠ 7 → t.1 ≠ 8 → t.1 ≠ 9 → t.1 ≠ 10 → eLg E' t k = eLg E t k) ∧ (∀ t k, t.1 ≠ 8 → t.1 ≠ 9 → t.1 ≠ 10 → t.1 ≠ 11 → t ≠ (2, 2, 0) → I' t k = I t k) ∧ eCu E' = eCu E
theorem FrQ.rf {E : Es} {I : Tg → Nat → Int32} : FrQ E I E I := ⟨fun _ _ _ => ⟨rfl, rfl, rfl⟩, fun _ _ _ _ _ => rfl, fun _ _ _ _ _ _ => rfl, fun _ _ _ _ _ _ _ => rfl, rfl⟩
theorem FrQ.tr {E E' E'' : Es} {I I' I'' : Tg → Nat → Int32} (h : FrQ E I E' I') (h2 : FrQ E' I' E'' I'') : FrQ E I E'' I'' := by
  obtain ⟨a1, a2, a3, a4, a5⟩ := h
  obtain ⟨b1, b2, b3, b4, b5⟩ := h2
  refine ⟨fun t h8 h9 => ?_, fun t k h8 h9 hk => (b2 t k h8 h9 hk).trans (a2 t k h8 h9 hk), fun t k q1 q2 q3 q4 => (b3 t k q1 q2 q3 q4).trans (a3 t k q1 q2 q3 q4), fun t k q1 q2 q3 q4 q5 => (b4 t k q1 q2 q3 q4 q5).trans (a4 t k q1 q2 q3 q4 q5), b5.trans a5⟩
  obtain ⟨x1, x2, x3⟩ := a1 t h8 h9
  obtain ⟨y1, y2, y3⟩ := b1 t h8 h9
  exact ⟨y1.trans x1, y2.trans x2, y3.trans x3⟩
/-- a change of a list of 8 or 9 -/
theorem FrQ.ag {a b c c' : Nat} {E E' : Es} {I I' : Tg → Nat → Int32} (ha : a = 8 ∨ a = 9) (h : Ag a b E I E' I') (hm : Mk E E' c c') : FrQ E I E' I' := by
  have k : ∀ t : Tg, t.1 ≠ 8 → t.1 ≠ 9 → ¬ (t.1 = a ∧ t.2.1 = b) := fun t h8 h9 q => by rcases ha with rfl | rfl; exact h8 q.1; exact h9 q.1
  exact ⟨fun t h8 h9 => ⟨(h t (k t h8 h9)).1, (h t (k t h8 h9)).2.1, (h t (k t h8 h9)).2.2.1⟩, fun t j h8 h9 _ => (h t (k t h8 h9)).2.2.2.1 j, fun t j _ h8 h9 _ => (h t (k t h8 h9)).2.2.2.2.1 j, fun t j h8 h9 _ _ _ => (h t (k t h8 h9)).2.2.2.2.2 j, hm.2.2.1⟩
theorem FrQ.us {t : Tg} {k : Nat} {v : Int32} {E : Es} {I : Tg → Nat → Int32} (h : t.1 = 10 ∨ t.1 = 11 ∨ t = (2, 2, 0)) : FrQ E I E (us I t k v) := ⟨fun _ _ _ => ⟨rfl, rfl, rfl⟩, fun _ _ _ _ _ => rfl, fun _ _ _ _ _ _ => rfl, fun u j q1 q2 q3 q4 q5 => us_ne (fun q => by
  rcases h with h | h | h
  · exact q3 (by rw [q.1]; exact h)
  · exact q4 (by rw [q.1]; exact h)
  · exact q5 (by rw [q.1]; exact h)), rfl⟩
theorem FrQ.eG {t : Tg} {k : Nat} {v : Int64} {E : Es} {I : Tg → Nat → Int32} (h : t.1 = 7 ∨ t.1 = 10) : FrQ E I (eG E t k v) I := ⟨fun _ _ _ => ⟨rfl, rfl, rfl⟩, fun _ _ _ _ _ => rfl, fun u j q1 q2 q3 q4 => eG_ne (fun q => by
  rcases h with h | h
  · exact q1 (by rw [q.1]; exact h)
  · exact q4 (by rw [q.1]; exact h)), fun _ _ _ _ _ _ _ => rfl, rfl⟩
theorem FrQ.eR {b c : Nat} {v : Option Tg} {E : Es} {I : Tg → Nat → Int32} : FrQ E I (eR E (11, b, c) 2 v) I := ⟨fun _ _ _ => ⟨rfl, rfl, rfl⟩, fun u j q1 q2 q3 => eR_ne (fun q => q3 ⟨by rw [q.1], q.2⟩), fun _ _ _ _ _ _ => rfl, fun _ _ _ _ _ _ _ => rfl, rfl⟩
theorem RowS.fr {E E' : Es} {I I' : Tg → Nat → Int32} {r : Nat} (h : RowS E r) (hF : FrQ E I E' I') : RowS E' r := by
  obtain ⟨f1, f2, -⟩ := hF
  unfold RowS at h ⊢
  have k1 : ∀ b c, eKd E' (7, b, c) = eKd E (7, b, c) ∧ eLn E' (7, b, c) = eLn E (7, b, c) := fun b c => (f1 (7, b, c) (by simp) (by simp)).2
  have k2 : ∀ b c, eKd E' (10, b, c) = eKd E (10, b, c) ∧ eLn E' (10, b, c) = eLn E (10, b, c) := fun b c => (f1 (10, b, c) (by simp) (by simp)).2
  have k3 : ∀ b c k, eRf E' (7, b, c) k = eRf E (7, b, c) k := fun b c k => f2 _ _ (by simp) (by simp) (by simp)
  have k4 : ∀ b c k, eRf E' (10, b, c) k = eRf E (10, b, c) k := fun b c k => f2 _ _ (by simp) (by simp) (by simp)
  rw [(k1 r 0).1, (k1 r 1).1, (k1 r 1).2, (k2 r 0).1, (k2 r 1).1, (k2 r 1).2, (k2 r 2).1, (k2 r 2).2, k3, k3, k3, k3, k4, k4]
  exact h
theorem OutS.fr {E E' : Es} {I I' : Tg → Nat → Int32} {r : Nat} (h : OutS E r) (hF : FrQ E I E' I') : OutS E' r := by
  obtain ⟨f1, f2, -⟩ := hF
  unfold OutS at h ⊢
  rw [(f1 (11, r, 0) (by simp) (by simp)).2.1, (f1 (11, r, 1) (by simp) (by simp)).2.1, (f1 (11, r, 1) (by simp) (by simp)).2.2, f2 (11, r, 0) 0 (by simp) (by simp) (by simp)]
  exact h
theorem TreS.fr {E E' : Es} {I I' : Tg → Nat → Int32} {Z : Nat → Nat} {ax ao : Nat} (h : TreS E Z ax ao) (hF : FrQ E I E' I') : TreS E' Z ax ao := by
  obtain ⟨f1, f2, -⟩ := hF
  unfold TreS at h ⊢
  have k2 : ∀ b c, eKd E' (2, b, c) = eKd E (2, b, c) ∧ eLn E' (2, b, c) = eLn E (2, b, c) := fun b c => (f1 (2, b, c) (by simp) (by simp)).2
  have k3 : ∀ k, eRf E' (2, 0, 0) k = eRf E (2, 0, 0) k := fun k => f2 _ _ (by simp) (by simp) (by simp)
  simp only [(f1 (0, 0, 0) (by simp) (by simp)).1, (f1 (2, 0, 0) (by simp) (by simp)).1, (f1 (19, 0, 0) (by simp) (by simp)).1, (f1 (19, 0, 0) (by simp) (by simp)).2.1, (f1 (19, 0, 0) (by simp) (by simp)).2.2, (k2 _ _).1, (k2 _ _).2, k3]
  exact h
/-- the node above, as a name -/
def upT (v : Int32) : Option Tg := if v < 0 then none else some (12, v.toNatClampNeg, 0)
/-- a node's links, forced and not -/
def lnkN (D : Nat → Nat → Int32) (nl i : Nat) : List Nat := (srt (D 31) nl).filter (fun l => decide (D 28 l = 0 ∧ D 24 l = nI i))
def NodC (E : Es) (I : Tg → Nat → Int32) (D : Nat → Nat → Int32) (nl i : Nat) : Prop := eKd E (12, i, 0) = 109 ∧ I (12, i, 0) 0 = nI i ∧ eRf E (12, i, 0) 1 = upT (D 1 i) ∧ I (12, i, 0) 2 = D 2 i ∧ eRf E (12, i, 0) 3 = some (13, i, 0) ∧ ∃ c, c ≤ 300 ∧ Lst E I 13 i c ((lnkN D nl i).map (fun l => (16, l, 0)))
def CNod (E : Es) (I : Tg → Nat → Int32) (D : Nat → Nat → Int32) (nn nl : Nat) : Prop := (∃ c, c ≤ 300 ∧ Lst E I 3 0 c ((List.range nn).map (fun i => (12, i, 0)))) ∧ (∀ i, i < nn → NodC E I D nl i) ∧ (∀ i, nn ≤ i → eKd E (12, i, 0) = 0 ∧ ∀ c, eKd E (13, i, c) = 0)
def MacC (E : Es) (I : Tg → Nat → Int32) (D : Nat → Nat → Int32) (m : Nat) : Prop := eKd E (14, m, 0) = 108 ∧ eRf E (14, m, 0) 0 = some (12, (D 4 m).toNatClampNeg, 0) ∧ (∀ f, f < 32 → bt (I (14, m, 0) 1) f = decide (f < 8 ∧ D 5 (8 * m + f) ≠ -1)) ∧ (∀ f, f < 32 → bt (I (14, m, 0) 2) f = decide (f < 8 ∧ D 5 (8 * m + f) = 1))
def CMac (E : Es) (I : Tg → Nat → Int32) (D : Nat → Nat → Int32) (nm : Nat) : Prop := (∃ c, c ≤ 300 ∧ Lst E I 20 0 c ((List.range nm).map (fun i => (14, i, 0)))) ∧ (∀ i, i < nm → MacC E I D i) ∧ (∀ i, nm ≤ i → eKd E (14, i, 0) = 0)
def CGrp (E : Es) (I : Tg → Nat → Int32) (D : Nat → Nat → Int32) : Prop := I (4, 0, 0) 2 = D 0 9 ∧ (∀ g m, g < 20 → m < 60 → lb (eLg E (4, 1, 0) g) m = bt (D 6 m) g) ∧ (∀ g, g < 20 → I (4, 2, 0) g = D 8 g)
def SetC (E : Es) (I : Tg → Nat → Int32) (D : Nat → Nat → Int32) (s : Nat) : Prop := eKd E (15, s, 0) = 103 ∧ eRf E (15, s, 0) 0 = some (15, s, 1) ∧ eKd E (15, s, 1) = 2 ∧ eLn E (15, s, 1) = 12 ∧ I (15, s, 0) 1 = D 10 s ∧ ∀ k, k < 12 → I (15, s, 1) k = D 11 (12 * s + k)
def CSet (E : Es) (I : Tg → Nat → Int32) (D : Nat → Nat → Int32) (ns : Nat) : Prop := (∃ c, c ≤ 300 ∧ Lst E I 21 0 c ((List.range ns).map (fun i => (15, i, 0)))) ∧ (∀ i, i < ns → SetC E I D i) ∧ (∀ i, ns ≤ i → ∀ c, eKd E (15, i, c) = 0) ∧ (∀ s, s < 12 → I (2, 1, 0) s = D 13 s)
/-- the class's steps for the model's -/
def cvS (c : Int32) : Int32 := if c = 0 then 1024 else if c = 1 then 1280 else if c = 2 then 768 else if c < 200 then c - 100 else if c < 300 then c + 56 else c + 212
def LnkC (E : Es) (I : Tg → Nat → Int32) (D : Nat → Nat → Int32) (l : Nat) : Prop := eKd E (16, l, 0) = 107 ∧ I (16, l, 0) 0 = nI l ∧ eRf E (16, l, 0) 1 = some (12, (D 24 l).toNatClampNeg, 0) ∧ eRf E (16, l, 0) 2 = some (15, (D 25 l).toNatClampNeg, 0) ∧ I (16, l, 0) 3 = D 26 l ∧ I (16, l, 0) 4 = D 27 l ∧ I (16, l, 0) 6 = D 28 l ∧ eRf E (16, l, 0) 5 = some (17, l, 0) ∧ eKd E (17, l, 0) = 104 ∧ eRf E (17, l, 0) 0 = some (17, l, 1) ∧ eKd E (17, l, 1) = 2 ∧ eLn E (17, l, 1) = (cdl (D 21) (D 29) (D 30) l).length ∧ ∀ i c, (cdl (D 21) (D 29) (D 30) l)[i]? = some c → I (17, l, 1) i = cvS c
def CLnk (E : Es) (I : Tg → Nat → Int32) (D : Nat → Nat → Int32) (nl : Nat) : Prop := (∃ c, c ≤ 300 ∧ Lst E I 22 0 c ((List.range nl).map (fun i => (16, i, 0)))) ∧ (∀ i, i < nl → LnkC E I D i) ∧ (∀ i, nl ≤ i → eKd E (16, i, 0) = 0 ∧ ∀ c, eKd E (17, i, c) = 0)
def CTap (E : Es) (I : Tg → Nat → Int32) (D : Nat → Nat → Int32) : Prop := I (5, 0, 0) 1 = D 0 15 ∧ (∀ k, k < 200 → I (5, 1, 0) k = D 14 k) ∧ I (2, 0, 0) 8 = D 0 19
/-- the lists to work on -/
def CScr (E : Es) (I : Tg → Nat → Int32) : Prop := ∀ r, r < 2 → (∃ c xs, c ≤ 300 ∧ Lst E I 8 r c xs) ∧ ∃ c xs, c ≤ 300 ∧ Lst E I 9 r c xs
def StaC (E : Es) (Z : Nat → Nat) (ax ao : Nat) : Prop := TreS E Z ax ao ∧ GrpS E ∧ TapS E ∧ (∀ r, r < 2 → RowS E r) ∧ (∀ r, r < 2 → OutS E r)
def DatC (E : Es) (I : Tg → Nat → Int32) (D : Nat → Nat → Int32) (nn nm ns nl : Nat) : Prop := CNod E I D nn nl ∧ CMac E I D nm ∧ CGrp E I D ∧ CSet E I D ns ∧ CLnk E I D nl ∧ CTap E I D
theorem StaC.fr {E E' : Es} {I I' : Tg → Nat → Int32} {Z : Nat → Nat} {ax ao : Nat} (h : StaC E Z ax ao) (hF : FrQ E I E' I') : StaC E' Z ax ao := by
  obtain ⟨h1, h2, h3, h4, h5⟩ := h
  have f1 := hF.1
  have f2 := hF.2.1
  refine ⟨h1.fr hF, ?_, ?_, fun r hr => (h4 r hr).fr hF, fun r hr => (h5 r hr).fr hF⟩
  · unfold GrpS at h2 ⊢
    rw [(f1 (4, 0, 0) (by simp) (by simp)).2.1, (f1 (4, 1, 0) (by simp) (by simp)).2.1, (f1 (4, 1, 0) (by simp) (by simp)).2.2, (f1 (4, 2, 0) (by simp) (by simp)).2.1, (f1 (4, 2, 0) (by simp) (by simp)).2.2, f2 (4, 0, 0) 0 (by simp) (by simp) (by simp), f2 (4, 0, 0) 1 (by simp) (by simp) (by simp)]
    exact h2
  · unfold TapS at h3 ⊢
    rw [(f1 (5, 0, 0) (by simp) (by simp)).2.1, (f1 (5, 1, 0) (by simp) (by simp)).2.1, (f1 (5, 1, 0) (by simp) (by simp)).2.2, (f1 (6, 0, 0) (by simp) (by simp)).2.1, (f1 (6, 1, 0) (by simp) (by simp)).2.1, (f1 (6, 1, 0) (by simp) (by simp)).2.2, f2 (5, 0, 0) 0 (by simp) (by simp) (by simp), f2 (6, 0, 0) 0 (by simp) (by simp) (by simp), f2 (6, 0, 0) 7 (by simp) (by simp) (by simp)]
    exact h3
/-- a list of another region is as it was -/
theorem Lst.cg {E E' : Es} {I I' : Tg → Nat → Int32} {a b c : Nat} {xs : List Tg} (h : Lst E I a b c xs) (hk : ∀ x, eKd E' (a, b, x) = eKd E (a, b, x)) (hl : ∀ x, eLn E' (a, b, x) = eLn E (a, b, x)) (hr : ∀ x k, eRf E' (a, b, x) k = eRf E (a, b, x) k) (hi : I' (a, b, 0) 2 = I (a, b, 0) 2) : Lst E' I' a b c xs := by
  unfold Lst at h ⊢
  simp only [hk, hl, hr, hi]
  exact h
theorem DatC.fr {E E' : Es} {I I' : Tg → Nat → Int32} {D : Nat → Nat → Int32} {nn nm ns nl : Nat} (h : DatC E I D nn nm ns nl) (hF : FrQ E I E' I') : DatC E' I' D nn nm ns nl := by
  obtain ⟨f1, f2, f3, f4, -⟩ := hF
  have kk : ∀ a b c, a ≠ 8 → a ≠ 9 → eKd E' (a, b, c) = eKd E (a, b, c) := fun a b c h8 h9 => (f1 (a, b, c) h8 h9).2.1
  have kl : ∀ a b c, a ≠ 8 → a ≠ 9 → eLn E' (a, b, c) = eLn E (a, b, c) := fun a b c h8 h9 => (f1 (a, b, c) h8 h9).2.2
  have kr : ∀ a b c k, a ≠ 8 → a ≠ 9 → a ≠ 11 → eRf E' (a, b, c) k = eRf E (a, b, c) k := fun a b c k h8 h9 h11 => f2 (a, b, c) k h8 h9 (fun q => h11 q.1)
  have ki : ∀ a b c k, a ≠ 8 → a ≠ 9 → a ≠ 10 → a ≠ 11 → (a, b, c) ≠ (2, 2, 0) → I' (a, b, c) k = I (a, b, c) k := fun a b c k h8 h9 h10 h11 hn => f4 (a, b, c) k h8 h9 h10 h11 hn
  have lc : ∀ {a b c xs}, a ≠ 8 → a ≠ 9 → a ≠ 10 → a ≠ 11 → a ≠ 2 → Lst E I a b c xs → Lst E' I' a b c xs := fun h8 h9 h10 h11 h2 hL => hL.cg (fun x => kk _ _ _ h8 h9) (fun x => kl _ _ _ h8 h9) (fun x k => kr _ _ _ _ h8 h9 h11) (ki _ _ _ _ h8 h9 h10 h11 (fun q => h2 (congrArg Prod.fst q)))
  obtain ⟨⟨⟨c1, n0, n1⟩, n2, n3⟩, ⟨⟨c2, m0, m1⟩, m2, m3⟩, ⟨g1, g2, g3⟩, ⟨⟨c3, s0, s1⟩, s2, s3, s4⟩, ⟨⟨c4, l0, l1⟩, l2, l3⟩, t1, t2, t3⟩ := h
  refine ⟨⟨⟨c1, n0, lc (by decide) (by decide) (by decide) (by decide) (by decide) n1⟩, fun i hi => ?_, fun i hi => ?_⟩, ⟨⟨c2, m0, lc (by decide) (by decide) (by decide) (by decide) (by decide) m1⟩, fun i hi => ?_, fun i hi => ?_⟩, ⟨?_, fun g m hg hm => ?_, fun g hg => ?_⟩, ⟨⟨c3, s0, lc (by decide) (by decide) (by decide) (by decide) (by decide) s1⟩, fun i hi => ?_, fun i hi c => ?_, fun s hs => ?_⟩, ⟨⟨c4, l0, lc (by decide) (by decide) (by decide) (by decide) (by decide) l1⟩, fun i hi => ?_, fun i hi => ?_⟩, ?_, fun k hk => ?_, ?_⟩
  · obtain ⟨q1, q2, q3, q4, q5, c, q6, q7⟩ := n2 i hi
    exact ⟨by rw [kk _ _ _ (by decide) (by decide)]; exact q1, by rw [ki _ _ _ _ (by decide) (by decide) (by decide) (by decide) (by simp)]; exact q2, by rw [kr _ _ _ _ (by decide) (by decide) (by decide)]; exact q3, by rw [ki _ _ _ _ (by decide) (by decide) (by decide) (by decide) (by simp)]; exact q4, by rw [kr _ _ _ _ (by decide) (by decide) (by decide)]; exact q5, c, q6, lc (by decide) (by decide) (by decide) (by decide) (by decide) q7⟩
  · refine ⟨by rw [kk _ _ _ (by decide) (by decide)]; exact (n3 i hi).1, fun c => by rw [kk _ _ _ (by decide) (by decide)]; exact (n3 i hi).2 c⟩
  · obtain ⟨q1, q2, q3, q4⟩ := m2 i hi
    exact ⟨by rw [kk _ _ _ (by decide) (by decide)]; exact q1, by rw [kr _ _ _ _ (by decide) (by decide) (by decide)]; exact q2, fun f hf => by rw [ki _ _ _ _ (by decide) (by decide) (by decide) (by decide) (by simp)]; exact q3 f hf, fun f hf => by rw [ki _ _ _ _ (by decide) (by decide) (by decide) (by decide) (by simp)]; exact q4 f hf⟩
  · rw [kk _ _ _ (by decide) (by decide)]; exact m3 i hi
  · rw [ki _ _ _ _ (by decide) (by decide) (by decide) (by decide) (by simp)]; exact g1
  · rw [f3 (4, 1, 0) g (by simp) (by simp) (by simp) (by simp)]; exact g2 g m hg hm
  · rw [ki _ _ _ _ (by decide) (by decide) (by decide) (by decide) (by simp)]; exact g3 g hg
  · obtain ⟨q1, q2, q3, q4, q5, q6⟩ := s2 i hi
    exact ⟨by rw [kk _ _ _ (by decide) (by decide)]; exact q1, by rw [kr _ _ _ _ (by decide) (by decide) (by decide)]; exact q2, by rw [kk _ _ _ (by decide) (by decide)]; exact q3, by rw [kl _ _ _ (by decide) (by decide)]; exact q4, by rw [ki _ _ _ _ (by decide) (by decide) (by decide) (by decide) (by simp)]; exact q5, fun k hk => by rw [ki _ _ _ _ (by decide) (by decide) (by decide) (by decide) (by simp)]; exact q6 k hk⟩
  · rw [kk _ _ _ (by decide) (by decide)]; exact s3 i hi c
  · rw [ki _ _ _ _ (by decide) (by decide) (by decide) (by decide) (by simp)]; exact s4 s hs
  · obtain ⟨q1, q2, q3, q4, q5, q6, q7, q8, q9, q10, q11, q12, q13⟩ := l2 i hi
    exact ⟨by rw [kk _ _ _ (by decide) (by decide)]; exact q1, by rw [ki _ _ _ _ (by decide) (by decide) (by decide) (by decide) (by simp)]; exact q2, by rw [kr _ _ _ _ (by decide) (by decide) (by decide)]; exact q3, by rw [kr _ _ _ _ (by decide) (by decide) (by decide)]; exact q4, by rw [ki _ _ _ _ (by decide) (by decide) (by decide) (by decide) (by simp)]; exact q5, by rw [ki _ _ _ _ (by decide) (by decide) (by decide) (by decide) (by simp)]; exact q6, by rw [ki _ _ _ _ (by decide) (by decide) (by decide) (by decide) (by simp)]; exact q7, by rw [kr _ _ _ _ (by decide) (by decide) (by decide)]; exact q8, by rw [kk _ _ _ (by decide) (by decide)]; exact q9, by rw [kr _ _ _ _ (by decide) (by decide) (by decide)]; exact q10, by rw [kk _ _ _ (by decide) (by decide)]; exact q11, by rw [kl _ _ _ (by decide) (by decide)]; exact q12, fun j c hj => by rw [ki _ _ _ _ (by decide) (by decide) (by decide) (by decide) (by simp)]; exact q13 j c hj⟩
  · refine ⟨by rw [kk _ _ _ (by decide) (by decide)]; exact (l3 i hi).1, fun c => by rw [kk _ _ _ (by decide) (by decide)]; exact (l3 i hi).2 c⟩
  · rw [ki _ _ _ _ (by decide) (by decide) (by decide) (by decide) (by simp)]; exact t1
  · rw [ki _ _ _ _ (by decide) (by decide) (by decide) (by decide) (by simp)]; exact t2 k hk
  · rw [ki _ _ _ _ (by decide) (by decide) (by decide) (by decide) (by simp)]; exact t3
