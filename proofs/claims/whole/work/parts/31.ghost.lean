/-! ===== the pure side: a typed picture of the heap ===== -/
/-- a name of a cell -/
abbrev Tg : Type := Nat × Nat × Nat
/-- address, kind (0: none; 1 + u: an array of kind u; 100 + ci: an object), length, references, longs, the heap's cells, cells made, slots made, the model's code row -/
abbrev Es : Type := (Tg → Nat) × (Tg → Nat) × (Tg → Nat) × (Tg → Nat → Option Tg) × (Tg → Nat → Int64) × Nat × Nat × Nat × Nat
/-- the fixed part, the model's ints, the other ints -/
abbrev Gh : Type := Es × (Nat → Nat → Int32) × (Tg → Nat → Int32)
abbrev eAd (E : Es) : Tg → Nat := E.1
abbrev eKd (E : Es) : Tg → Nat := E.2.1
abbrev eLn (E : Es) : Tg → Nat := E.2.2.1
abbrev eRf (E : Es) : Tg → Nat → Option Tg := E.2.2.2.1
abbrev eLg (E : Es) : Tg → Nat → Int64 := E.2.2.2.2.1
abbrev eHz (E : Es) : Nat := E.2.2.2.2.2.1
abbrev eMc (E : Es) : Nat := E.2.2.2.2.2.2.1
abbrev eMs (E : Es) : Nat := E.2.2.2.2.2.2.2.1
abbrev eCu (E : Es) : Nat := E.2.2.2.2.2.2.2.2
/-- the fields of each of vwCl: 0 int, 1 reference, 2 long -/
def p_ty (ci : Nat) : List Nat := [[], [], [0, 1, 0], [1, 0], [1], [1, 0, 0, 0, 0, 0, 0, 1, 0], [1, 1, 0], [0, 1, 1, 0, 0, 1, 0], [1, 0, 0], [0, 1, 0, 1], [1, 0, 1], [1, 1, 1, 1], [1, 1, 0, 0, 0, 2], [1, 0], [1, 1, 1, 1, 1, 1, 1, 1, 0, 1, 1, 1, 1, 1], [0, 1, 1, 0, 1, 1, 1, 0, 1, 0, 1, 1, 0, 1, 1, 0, 0, 0, 0, 0, 0, 1, 0, 1, 1, 1, 1, 1, 1, 1, 1, 1, 0, 1, 1, 1, 0, 1, 0, 0, 1, 0, 0, 0, 1, 0, 0]].getD ci []
/-- the int at a place -/
abbrev p_im (cu : Nat) (t : Tg) : Prop := t.1 = 1 ∧ ((t.2.1 ≠ 21 ∧ t.2.2 = 0) ∨ (t.2.1 = 21 ∧ t.2.2 = cu))
def p_iv (g : Gh) (t : Tg) (k : Nat) : Int32 := if p_im (eCu g.1) t then g.2.1 t.2.1 k else g.2.2 t k
def p_fv (g : Gh) (t : Tg) (k ty : Nat) : Value := if ty = 0 then .int (p_iv g t k) else if ty = 1 then va_rf ((eRf g.1 t k).map (eAd g.1)) else .long (eLg g.1 t k)
def p_fs (f : Nat → Nat → Value) : Nat → List Nat → List Value
  | _, [] => []
  | k, ty :: r => f k ty :: p_fs f (k + 1) r
def p_ce (g : Gh) (t : Tg) : Ce := if 100 ≤ eKd g.1 t then .inl (eKd g.1 t - 100, p_fs (p_fv g t) 0 (p_ty (eKd g.1 t - 100)))
  else .inr (eKd g.1 t - 1, (eLn g.1 t, if eKd g.1 t = 3 then .inr (.inl (eLg g.1 t)) else if eKd g.1 t = 5 then .inr (.inr (.inr (.inr (fun i => (eRf g.1 t i).map (eAd g.1))))) else .inl (p_iv g t)))
def p_Rep (g : Gh) (h : Hs) : Prop := h.2 = eHz g.1 ∧ (∀ t, eKd g.1 t ≠ 0 → h.1 (eAd g.1 t) = some (p_ce g t)) ∧ (∀ t u, eKd g.1 t ≠ 0 → eKd g.1 u ≠ 0 → eAd g.1 t = eAd g.1 u → t = u) ∧ (∀ q, h.2 ≤ q → h.1 q = none) ∧ (∀ t k u, eKd g.1 t ≠ 0 → eRf g.1 t k = some u → eKd g.1 u ≠ 0 ∨ u = (0, 0, 0)) ∧ eKd g.1 (0, 0, 0) = 0 ∧ (∀ t, eKd g.1 t ≠ 0 → eAd g.1 (0, 0, 0) < eAd g.1 t) ∧ eAd g.1 (0, 0, 0) < eHz g.1
def Wp {α : Type} (x : Mo α) (g : Gh) (Q : α → Gh → Prop) : Prop := ∀ h, p_Rep g h → ∃ a h' c n g', x h = some (a, h', c, n) ∧ p_Rep g' h' ∧ eMc g'.1 = eMc g.1 + c ∧ eMs g'.1 = eMs g.1 + n ∧ Q a g'
theorem p_fs_get (f : Nat → Nat → Value) : ∀ (ts : List Nat) (k0 j : Nat), (p_fs f k0 ts)[j]? = (ts[j]?).map (f (k0 + j)) := by
  intro ts
  induction ts with
  | nil => intro k0 j; rfl
  | cons ty r ih =>
    intro k0 j
    cases j with
    | zero => rfl
    | succ j =>
      rw [show p_fs f k0 (ty :: r) = f k0 ty :: p_fs f (k0 + 1) r from rfl, List.getElem?_cons_succ, List.getElem?_cons_succ, ih]
      rw [show k0 + 1 + j = k0 + (j + 1) by omega]
theorem p_fs_len (f : Nat → Nat → Value) : ∀ (ts : List Nat) (k0 : Nat), (p_fs f k0 ts).length = ts.length := by
  intro ts
  induction ts with
  | nil => intro k0; rfl
  | cons ty r ih => intro k0; rw [show p_fs f k0 (ty :: r) = f k0 ty :: p_fs f (k0 + 1) r from rfl, List.length_cons, List.length_cons, ih]
theorem p_fs_set (f f' : Nat → Nat → Value) (ts : List Nat) (k ty : Nat) (v : Value) (hk : ts[k]? = some ty) (hv : f' k ty = v) (ho : ∀ j ty, j ≠ k → f' j ty = f j ty) : (p_fs f 0 ts).set k v = p_fs f' 0 ts := by
  refine List.ext_getElem? fun j => ?_
  rw [List.getElem?_set, p_fs_get, p_fs_get, p_fs_len, Nat.zero_add]
  have hlt : k < ts.length := (List.getElem?_eq_some_iff.mp hk).1
  by_cases hj : k = j
  · subst hj
    rw [if_pos rfl, if_pos hlt, hk]
    show some v = some (f' k ty)
    rw [hv]
  · rw [if_neg hj]
    cases ts[j]? with
    | none => rfl
    | some y => show some (f j y) = some (f' j y); rw [ho j y (fun e => hj e.symm)]
/-- cells with the same parts are the same -/
theorem p_ce_congr {g g' : Gh} {t : Tg} (hk : eKd g'.1 t = eKd g.1 t) (hl : eLn g'.1 t = eLn g.1 t) (hi : ∀ k, p_iv g' t k = p_iv g t k) (hr : ∀ k, (eRf g'.1 t k).map (eAd g'.1) = (eRf g.1 t k).map (eAd g.1)) (hg : ∀ k, eLg g'.1 t k = eLg g.1 t k) : p_ce g' t = p_ce g t := by
  have hf : p_fv g' t = p_fv g t := by
    funext k ty
    unfold p_fv
    rw [hi, hr, hg]
  have hi' : p_iv g' t = p_iv g t := funext hi
  have hg' : eLg g'.1 t = eLg g.1 t := funext hg
  have hr' : (fun i => (eRf g'.1 t i).map (eAd g'.1)) = (fun i => (eRf g.1 t i).map (eAd g.1)) := funext hr
  unfold p_ce
  rw [hf, hk, hl, hi', hg', hr']
/-- one cell is written -/
theorem p_Rep.su {g g' : Gh} {h : Hs} (r : p_Rep g h) {t : Tg} (ht : eKd g.1 t ≠ 0) (hA : eAd g'.1 = eAd g.1) (hK : eKd g'.1 = eKd g.1) (hH : eHz g'.1 = eHz g.1) (hL : eLn g'.1 = eLn g.1) (hi : ∀ u k, u ≠ t → p_iv g' u k = p_iv g u k) (hr : ∀ u k, u ≠ t → eRf g'.1 u k = eRf g.1 u k) (hg : ∀ u k, u ≠ t → eLg g'.1 u k = eLg g.1 u k) (hc : ∀ k u, eRf g'.1 t k = some u → eKd g.1 u ≠ 0 ∨ u = (0, 0, 0)) : p_Rep g' (va_up h.1 (eAd g.1 t) (some (p_ce g' t)), h.2) := by
  obtain ⟨r1, r2, r3, r4, r5, r6, r7, r8⟩ := r
  refine ⟨by rw [hH]; exact r1, fun u hu => ?_, fun u v hu hv e => ?_, fun q hq => ?_, fun u k v hu hv => ?_, by rw [hK]; exact r6, fun u hu => ?_, by rw [hA, hH]; exact r8⟩
  · rw [hK] at hu
    rw [hA]
    by_cases hut : u = t
    · subst hut
      show (if eAd g.1 u = eAd g.1 u then _ else _) = _
      rw [if_pos rfl]
    · show (if eAd g.1 u = eAd g.1 t then _ else h.1 (eAd g.1 u)) = _
      rw [if_neg (fun e => hut (r3 u t hu ht e)), r2 u hu]
      rw [p_ce_congr (g := g) (g' := g') (by rw [hK]) (by rw [hL]) (fun k => hi u k hut) (fun k => by rw [hr u k hut, hA]) (fun k => hg u k hut)]
  · rw [hK] at hu hv
    rw [hA] at e
    exact r3 u v hu hv e
  · show (if q = eAd g.1 t then _ else h.1 q) = none
    rw [if_neg (fun e => by
      have h1 := r4 q hq
      rw [e, r2 t ht] at h1
      cases h1)]
    exact r4 q hq
  · rw [hK] at hu ⊢
    by_cases hut : u = t
    · subst hut
      exact hc k v hv
    · rw [hr u k hut] at hv
      exact r5 u k v hu hv
  · rw [hK] at hu
    rw [hA]
    exact r7 u hu
/-- updates -/
def us (I : Tg → Nat → Int32) (t : Tg) (k : Nat) (v : Int32) : Tg → Nat → Int32 := fun u j => if u = t ∧ j = k then v else I u j
def ds (D : Nat → Nat → Int32) (i k : Nat) (v : Int32) : Nat → Nat → Int32 := fun u j => if u = i ∧ j = k then v else D u j
def eR (E : Es) (t : Tg) (k : Nat) (v : Option Tg) : Es := (E.1, E.2.1, E.2.2.1, fun u j => if u = t ∧ j = k then v else E.2.2.2.1 u j, E.2.2.2.2)
def eG (E : Es) (t : Tg) (k : Nat) (v : Int64) : Es := (E.1, E.2.1, E.2.2.1, E.2.2.2.1, fun u j => if u = t ∧ j = k then v else E.2.2.2.2.1 u j, E.2.2.2.2.2)
def eRs (E : Es) (t : Tg) (f : Nat → Option Tg) : Es := (E.1, E.2.1, E.2.2.1, fun u j => if u = t then f j else E.2.2.2.1 u j, E.2.2.2.2)
def uI (I : Tg → Nat → Int32) (t : Tg) (f : Nat → Int32) : Tg → Nat → Int32 := fun u j => if u = t then f j else I u j
/-- a new cell -/
def eNew (E : Es) (t : Tg) (kd ln sl : Nat) : Es := (fun u => if u = t then E.2.2.2.2.2.1 else E.1 u, fun u => if u = t then kd else E.2.1 u, fun u => if u = t then ln else E.2.2.1 u, fun u j => if u = t then none else E.2.2.2.1 u j, fun u j => if u = t then 0 else E.2.2.2.2.1 u j, E.2.2.2.2.2.1 + 1, E.2.2.2.2.2.2.1 + 1, E.2.2.2.2.2.2.2.1 + sl, E.2.2.2.2.2.2.2.2)
theorem p_Rep.sn {g g' : Gh} {h : Hs} (r : p_Rep g h) {t : Tg} {kd ln sl : Nat} (ht : eKd g.1 t = 0) (ht0 : t ≠ (0, 0, 0)) (hE : g'.1 = eNew g.1 t kd ln sl) (hkd : kd ≠ 0) (hi : ∀ u k, u ≠ t → p_iv g' u k = p_iv g u k) : p_Rep g' (va_up h.1 h.2 (some (p_ce g' t)), h.2 + 1) := by
  obtain ⟨r1, r2, r3, r4, r5, r6, r7, r8⟩ := r
  have kA : ∀ u, u ≠ t → eAd g'.1 u = eAd g.1 u := fun u hu => by rw [hE]; exact if_neg hu
  have kAt : eAd g'.1 t = h.2 := by rw [hE, r1]; exact if_pos rfl
  have kK : ∀ u, u ≠ t → eKd g'.1 u = eKd g.1 u := fun u hu => by rw [hE]; exact if_neg hu
  have kR : ∀ u k, u ≠ t → eRf g'.1 u k = eRf g.1 u k := fun u k hu => by rw [hE]; exact if_neg hu
  have kRt : ∀ k, eRf g'.1 t k = none := fun k => by rw [hE]; exact if_pos rfl
  have kL : ∀ u, u ≠ t → eLn g'.1 u = eLn g.1 u := fun u hu => by rw [hE]; exact if_neg hu
  have kG : ∀ u k, u ≠ t → eLg g'.1 u k = eLg g.1 u k := fun u k hu => by rw [hE]; exact if_neg hu
  have fr : ∀ u, eKd g.1 u ≠ 0 → eAd g.1 u ≠ h.2 := fun u hu e => by
    have h1 := r2 u hu
    rw [e, r4 h.2 (Nat.le_refl _)] at h1
    cases h1
  have lv : ∀ u, u ≠ t → eKd g'.1 u ≠ 0 → eKd g.1 u ≠ 0 := fun u hu h1 => by rwa [kK u hu] at h1
  refine ⟨by rw [hE, r1]; rfl, fun u hu => ?_, fun u v hu hv e => ?_, fun q hq => ?_, fun u k v hu hv => ?_, by rw [kK _ (fun e => ht0 e.symm)]; exact r6, fun u hu => ?_, ?_⟩
  · by_cases hut : u = t
    · subst hut
      rw [kAt]
      show (if h.2 = h.2 then _ else _) = _
      rw [if_pos rfl]
    · have hu' := lv u hut hu
      rw [kA u hut]
      show (if eAd g.1 u = h.2 then _ else h.1 (eAd g.1 u)) = _
      rw [if_neg (fr u hu'), r2 u hu']
      rw [p_ce_congr (g := g) (g' := g') (kK u hut) (kL u hut) (fun k => hi u k hut) (fun k => by
        rw [kR u k hut]
        cases hv : eRf g.1 u k with
        | none => rfl
        | some v =>
          show some (eAd g'.1 v) = some (eAd g.1 v)
          rw [kA v (fun e => by
            subst e
            rcases r5 u k v hu' hv with h1 | h1
            · exact h1 ht
            · exact ht0 h1)]) (fun k => kG u k hut)]
  · by_cases hut : u = t
    · by_cases hvt : v = t
      · rw [hut, hvt]
      · subst hut
        rw [kAt, kA v hvt] at e
        exact absurd e.symm (fr v (lv v hvt hv))
    · by_cases hvt : v = t
      · subst hvt
        rw [kAt, kA u hut] at e
        exact absurd e (fr u (lv u hut hu))
      · rw [kA u hut, kA v hvt] at e
        exact r3 u v (lv u hut hu) (lv v hvt hv) e
  · show (if q = h.2 then _ else h.1 q) = none
    have hq : h.2 + 1 ≤ q := hq
    rw [if_neg (by omega)]
    exact r4 q (by omega)
  · by_cases hut : u = t
    · subst hut
      rw [kRt k] at hv
      cases hv
    · rw [kR u k hut] at hv
      rcases r5 u k v (lv u hut hu) hv with h1 | h1
      · by_cases hvt : v = t
        · subst hvt; exact absurd ht h1
        · rw [kK v hvt]; exact .inl h1
      · exact .inr h1
  · rw [kA _ (fun e => ht0 e.symm)]
    by_cases hut : u = t
    · subst hut
      rw [kAt, r1]
      exact r8
    · rw [kA u hut]
      exact r7 u (lv u hut hu)
  · rw [kA _ (fun e => ht0 e.symm), hE]
    show _ < g.1.2.2.2.2.2.1 + 1
    exact Nat.lt_succ_of_lt r8
