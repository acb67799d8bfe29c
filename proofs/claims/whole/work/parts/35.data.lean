/-! ===== what the model's rows say ===== -/
theorem ds_ap (D : Nat → Nat → Int32) (i k : Nat) (v : Int32) (u j : Nat) : ds D i k v u j = if u = i ∧ j = k then v else D u j := rfl
theorem us_ap (I : Tg → Nat → Int32) (t : Tg) (k : Nat) (v : Int32) (u : Tg) (j : Nat) : us I t k v u j = if u = t ∧ j = k then v else I u j := rfl
theorem ds_row {D : Nat → Nat → Int32} {i k : Nat} {v : Int32} {u : Nat} (h : u ≠ i) : ds D i k v u = D u := funext fun j => if_neg (fun e => h e.1)
theorem ds_ds (D : Nat → Nat → Int32) (i k : Nat) (a b : Int32) : ds (ds D i k a) i k b = ds D i k b := by
  funext u j
  unfold ds
  by_cases h : u = i ∧ j = k
  · rw [if_pos h, if_pos h]
  · rw [if_neg h, if_neg h, if_neg h]
theorem ds_cm (D : Nat → Nat → Int32) {i k i2 k2 : Nat} (a b : Int32) (h : ¬ (i = i2 ∧ k = k2)) : ds (ds D i k a) i2 k2 b = ds (ds D i2 k2 b) i k a := by
  funext u j
  unfold ds
  by_cases h1 : u = i ∧ j = k
  · by_cases h2 : u = i2 ∧ j = k2
    · exact absurd ⟨h1.1.symm.trans h2.1, h1.2.symm.trans h2.2⟩ h
    · rw [if_neg h2, if_pos h1, if_pos h1]
  · by_cases h2 : u = i2 ∧ j = k2
    · rw [if_pos h2, if_neg h1, if_pos h2]
    · rw [if_neg h2, if_neg h1, if_neg h1, if_neg h2]
theorem ds_id {D : Nat → Nat → Int32} {i k : Nat} {v : Int32} (h : D i k = v) : ds D i k v = D := by
  funext u j
  unfold ds
  by_cases h1 : u = i ∧ j = k
  · rw [if_pos h1, h1.1, h1.2, h]
  · rw [if_neg h1]
/-- the way up from a node -/
def Chn (ab : Nat → Int32) (nn : Nat) : List Nat → Int32 → Prop
  | [], v => v = -1
  | k :: r, v => v = nI k ∧ k < nn ∧ Chn ab nn r (ab k)
theorem nI_ne_m1 {k : Nat} (h : k < 2 ^ 31) : nI k ≠ -1 := fun e => by
  have := nI_pos h
  rw [e] at this
  exact this (by decide)
theorem chn_det {ab : Nat → Int32} {nn : Nat} (hn : nn ≤ 60) : ∀ (w w' : List Nat) (v : Int32), Chn ab nn w v → Chn ab nn w' v → w = w' := by
  intro w
  induction w with
  | nil =>
    intro w' v h h'
    cases w' with
    | nil => rfl
    | cons k r => exact absurd (h'.1.symm.trans h) (nI_ne_m1 (by have := h'.2.1; omega))
  | cons k r ih =>
    intro w' v h h'
    cases w' with
    | nil => exact absurd (h.1.symm.trans h') (nI_ne_m1 (by have := h.2.1; omega))
    | cons k' r' =>
      have e : k = k' := (nI_eq (by have := h.2.1; omega) (by have := h'.2.1; omega)).mp (h.1.symm.trans h'.1)
      subst e
      rw [ih r' _ h.2.2 h'.2.2]
theorem chn_suf {ab : Nat → Int32} {nn : Nat} : ∀ (a : List Nat) {k : Nat} {b : List Nat} {v : Int32}, Chn ab nn (a ++ k :: b) v → Chn ab nn (k :: b) (nI k) := by
  intro a
  induction a with
  | nil => intro k b v h; exact ⟨rfl, h.2⟩
  | cons x a ih => intro k b v h; exact ih h.2.2
theorem chn_lt {ab : Nat → Int32} {nn : Nat} : ∀ (w : List Nat) {v : Int32}, Chn ab nn w v → ∀ k ∈ w, k < nn := by
  intro w
  induction w with
  | nil => intro v h k hk; cases hk
  | cons x w ih =>
    intro v h k hk
    rcases List.mem_cons.mp hk with rfl | hk
    · exact h.2.1
    · exact ih h.2.2 k hk
theorem chn_nodup {ab : Nat → Int32} {nn : Nat} (hn : nn ≤ 60) : ∀ (w : List Nat) {v : Int32}, Chn ab nn w v → w.Nodup := by
  intro w
  induction w with
  | nil => intro v h; exact List.nodup_nil
  | cons k r ih =>
    intro v h
    refine List.nodup_cons.mpr ⟨fun hm => ?_, ih h.2.2⟩
    obtain ⟨a, b, rfl⟩ := List.append_of_mem hm
    have h1 := chn_suf a h.2.2
    have h2 := chn_det hn _ _ _ h1 (show Chn ab nn (k :: (a ++ k :: b)) (nI k) from ⟨rfl, h.2⟩)
    have h3 := congrArg List.length h2
    simp only [List.length_cons, List.length_append] at h3
    omega
/-- pigeons -/
theorem nd_len : ∀ (n : Nat) (l : List Nat), l.Nodup → (∀ x ∈ l, x < n) → l.length ≤ n := by
  intro n
  induction n with
  | zero =>
    intro l _ h
    cases l with
    | nil => exact Nat.le_refl _
    | cons x r => exact absurd (h x List.mem_cons_self) (Nat.not_lt_zero _)
  | succ n ih =>
    intro l hd h
    have h1 := ih (l.erase n) (hd.erase n) (fun x hx => by
      have hx2 := (hd.mem_erase_iff).mp hx
      have := h x hx2.2
      have := hx2.1
      omega)
    have h2 : l.length - 1 ≤ (l.erase n).length := by
      by_cases hm : n ∈ l
      · rw [List.length_erase_of_mem hm]; exact Nat.le_refl _
      · rw [List.erase_of_not_mem hm]; omega
    omega
theorem chn_len {ab : Nat → Int32} {nn : Nat} (hn : nn ≤ 60) {w : List Nat} {v : Int32} (h : Chn ab nn w v) : w.length ≤ nn := nd_len nn w (chn_nodup hn w h) (chn_lt w h)
/-- the way as a list made -/
def wy (ab : Nat → Int32) : Nat → Int32 → List Nat
  | 0, _ => []
  | f + 1, v => if v < 0 then [] else v.toNatClampNeg :: wy ab f (ab v.toNatClampNeg)
theorem chn_wy {ab : Nat → Int32} {nn : Nat} (hn : nn ≤ 60) : ∀ (w : List Nat) (f : Nat) {v : Int32}, Chn ab nn w v → w.length < f → wy ab f v = w := by
  intro w
  induction w with
  | nil =>
    intro f v h hf
    cases f with
    | zero => exact absurd hf (Nat.not_lt_zero _)
    | succ f =>
      have h : v = -1 := h
      subst h
      show (if (-1 : Int32) < 0 then [] else _) = []
      rw [if_pos (by decide)]
  | cons k r ih =>
    intro f v h hf
    cases f with
    | zero => exact absurd hf (Nat.not_lt_zero _)
    | succ f =>
      obtain ⟨rfl, hk, h2⟩ := h
      show (if nI k < 0 then [] else _) = _
      rw [if_neg (nI_pos (by omega)), nI_clamp (by omega), ih f h2 (by rw [List.length_cons] at hf; omega)]
/-- the links of a node, in their order -/
def srt (so : Nat → Int32) (nl : Nat) : List Nat := (List.range' 0 nl).map (fun k => (so k).toNatClampNeg)
def lat (so nd fo en : Nat → Int32) (nl n : Nat) (f : Int32) : List Nat := (srt so nl).filter (fun l => decide (en l = 0 ∧ nd l = nI n ∧ fo l = f))
/-- from a node up to the first one that is blocked -/
def opn (bl : Nat → Int32) : List Nat → List Nat
  | [] => []
  | n :: r => if bl n = 0 then n :: opn bl r else [n]
def rowA (bl : Nat → Int32) (la : Nat → Int32 → List Nat) (w : List Nat) : List Nat := (opn bl w).reverse.flatMap (fun n => la n 0) ++ w.flatMap (fun n => la n 1)
/-- what a row tells -/
def ost (law : Int32) (s : List Int32 × Option Nat) (p : Int32 × Nat) : List Int32 × Option Nat :=
  if law = 2 then (if p.1 ∈ s.1 then s.1 else s.1 ++ [p.1], some p.2)
  else match s.1 with
    | [] => ([p.1], some p.2)
    | v :: _ => if law = 0 ∨ p.1 < v then ([p.1], some p.2) else s
def oc (law : Int32) (ps : List (Int32 × Nat)) : List Int32 × Option Nat := ps.foldl (ost law) ([], none)
/-- a filter's steps on a pile -/
def evAnd : List Bool → List Bool
  | b :: a :: s => (a && b) :: s
  | s => s
def evOr : List Bool → List Bool
  | b :: a :: s => (a || b) :: s
  | s => s
def evNot : List Bool → List Bool
  | a :: s => (!a) :: s
  | s => s
def evS (atm : Int32 → Bool) (c : Int32) (st : List Bool) : List Bool := if c = 0 then evAnd st else if c = 1 then evOr st else if c = 2 then evNot st else atm c :: st
def evC (atm : Int32 → Bool) : List Int32 → List Bool → List Bool
  | [], st => st
  | c :: r, st => evC atm r (evS atm c st)
/-- the steps keep the pile from height n to n' -/
def wfC (ng nn : Nat) : List Int32 → Nat → Nat → Prop
  | [], n, n' => n = n'
  | c :: r, n, n' => ((c = 0 ∨ c = 1) ∧ 2 ≤ n ∧ wfC ng nn r (n - 1) n') ∨ (c = 2 ∧ 1 ≤ n ∧ wfC ng nn r n n') ∨ ((∃ v, (c = nI (100 + v) ∧ v < ng ∨ c = nI (200 + v) ∧ v < 8 ∨ c = nI (300 + v) ∧ v < nn)) ∧ n < 60 ∧ wfC ng nn r (n + 1) n')
def atmV (mem : Nat → Bool) (yes : Int32) (w : List Nat) (c : Int32) : Bool := if c < 200 then mem (c.toNatClampNeg % 100) else if c < 300 then bt yes (c.toNatClampNeg % 100) else decide (c.toNatClampNeg % 100 ∈ w)
def hdB : List Bool → Bool
  | [] => true
  | b :: _ => b
def hld (mem : Nat → Bool) (yes : Int32) (w : List Nat) (cs : List Int32) : Bool := hdB (evC (atmV mem yes w) cs [])
/-- the steps of a link -/
def cdl (cd fr to : Nat → Int32) (l : Nat) : List Int32 := (List.range ((to l).toNatClampNeg - (fr l).toNatClampNeg)).map (fun i => cd ((fr l).toNatClampNeg + i))
/-- members: of the fewest groups for which it holds -/
def MemP (wi ig : Nat → Int32) (g m : Nat) : Prop := ∀ S : Nat → Prop, (∀ g, bt (ig m) g = true → S g) → (∀ g o, g < 20 → bt (wi g) o = true → S o → S g) → S g
noncomputable def memB (wi ig : Nat → Int32) (g m : Nat) : Bool := @decide (MemP wi ig g m) (Classical.propDecidable _)
/-- what is known as yes -/
def yesO (fa : Nat → Int32) (m : Nat) : Nat → Int32
  | 0 => 0
  | f + 1 => yesO fa m f ||| (if fa (8 * m + f) = 1 then (1 : Int32) <<< (nI f &&& 31) else 0)
/-- what isn't known -/
def unkO (fa : Nat → Int32) (m : Nat) : Nat → Int32
  | 0 => 0
  | f + 1 => unkO fa m f ||| (if fa (8 * m + f) = -1 then (1 : Int32) <<< (nI f &&& 31) else 0)
/-- what holds of the model's rows, part by part -/
def DTree (D : Nat → Nat → Int32) (nn : Nat) : Prop := (1 ≤ nn ∧ nn ≤ 60) ∧ D 0 3 = nI nn ∧ (∀ i, i < nn → ∃ w, Chn (D 1) nn w (nI i)) ∧ (∀ i, D 2 i = 0 ∨ D 2 i = 1) ∧ (∀ i, nn ≤ i → D 2 i = 0)
def DMach (D : Nat → Nat → Int32) (nn nm : Nat) : Prop := nm ≤ 60 ∧ D 0 7 = nI nm ∧ (∀ m, m < nm → ∃ i, i < nn ∧ D 4 m = nI i) ∧ (∀ m f, m < nm → f < 8 → D 5 (8 * m + f) = -1 ∨ D 5 (8 * m + f) = 0 ∨ D 5 (8 * m + f) = 1)
def DGrp (D : Nat → Nat → Int32) (nm ng : Nat) : Prop := ng ≤ 20 ∧ D 0 9 = nI ng ∧ (∀ m g, ng ≤ g → bt (D 6 m) g = false) ∧ (∀ m, nm ≤ m → D 6 m = 0) ∧ (∀ g o, ng ≤ o → bt (D 8 g) o = false) ∧ (∀ g, ng ≤ g → D 8 g = 0)
def DSet (D : Nat → Nat → Int32) (ns : Nat) : Prop := ns ≤ 40 ∧ D 0 12 = nI ns ∧ (∀ s i, 12 ≤ i → bt (D 10 s) i = false) ∧ (∀ s, ns ≤ s → D 10 s = 0) ∧ (∀ k, 12 * ns ≤ k → D 11 k = 0) ∧ (∀ s, D 13 s = 0 ∨ D 13 s = 1 ∨ D 13 s = 2)
def LnkOk (D : Nat → Nat → Int32) (nn ng ns nc l : Nat) : Prop := (∃ n, n < nn ∧ D 24 l = nI n) ∧ (∃ s, s < ns ∧ D 25 l = nI s) ∧ (∃ o, o < 100 ∧ D 26 l = nI o) ∧ (D 27 l = 0 ∨ D 27 l = 1) ∧ (D 28 l = 0 ∨ D 28 l = 1) ∧ ∃ fr to n', D 29 l = nI fr ∧ D 30 l = nI to ∧ fr ≤ to ∧ to ≤ nc ∧ n' ≤ 1 ∧ wfC ng nn (cdl (D 21) (D 29) (D 30) l) 0 n'
def DLnk (cap : Nat) (D : Nat → Nat → Int32) (nn ng ns nl nc : Nat) : Prop := nl ≤ 100 ∧ D 0 32 = nI nl ∧ (D 0 22 = nI nc ∧ nc ≤ 200 * nl ∧ nc ≤ cap) ∧ (∀ l, l < nl → LnkOk D nn ng ns nc l) ∧ (∀ l, nl ≤ l → D 28 l = 0) ∧ (∀ k, k < nl → ∃ l, l < nl ∧ D 31 k = nI l) ∧ (srt (D 31) nl).Nodup ∧ (srt (D 31) nl).Pairwise (fun a b => (D 26 a).toNatClampNeg ≤ (D 26 b).toNatClampNeg)
def DTap (D : Nat → Nat → Int32) (tp : Nat) : Prop := tp ≤ 200 ∧ D 0 15 = nI tp
/-- a part of the rows may have changed -/
def FrL (rs ks : List Nat) (D D' : Nat → Nat → Int32) : Prop := (∀ j, j ≠ 0 → j ∉ rs → D' j = D j) ∧ (∀ k, k ∉ ks → D' 0 k = D 0 k)
theorem FrL.rf {rs ks : List Nat} {D : Nat → Nat → Int32} : FrL rs ks D D := ⟨fun _ _ _ => rfl, fun _ _ => rfl⟩
theorem FrL.tr {rs ks rs' ks' : List Nat} {D D' D'' : Nat → Nat → Int32} (h : FrL rs ks D D') (h2 : FrL rs' ks' D' D'') : FrL (rs ++ rs') (ks ++ ks') D D'' := ⟨fun j h0 hj => by
  rw [List.mem_append, not_or] at hj
  rw [h2.1 j h0 hj.2, h.1 j h0 hj.1], fun k hk => by
  rw [List.mem_append, not_or] at hk
  rw [h2.2 k hk.2, h.2 k hk.1]⟩
theorem FrL.wk {rs ks rs' ks' : List Nat} {D D' : Nat → Nat → Int32} (h : FrL rs ks D D') (h1 : ∀ j ∈ rs, j ∈ rs') (h2 : ∀ j ∈ ks, j ∈ ks') : FrL rs' ks' D D' := ⟨fun j h0 hj => h.1 j h0 (fun q => hj (h1 j q)), fun k hk => h.2 k (fun q => hk (h2 k q))⟩
theorem FrL.row {rs ks : List Nat} {D D' : Nat → Nat → Int32} {i k : Nat} {v : Int32} (h : FrL rs ks D D') (hi : i ∈ rs) (h0 : i ≠ 0) : FrL rs ks D (ds D' i k v) := ⟨fun j hj0 hj => by
  rw [ds_row (show j ≠ i from fun e => hj (by rw [e]; exact hi)), h.1 j hj0 hj], fun j hj => by rw [ds_ne (fun e => h0 e.1.symm), h.2 j hj]⟩
theorem FrL.sc {rs ks : List Nat} {D D' : Nat → Nat → Int32} {k : Nat} {v : Int32} (h : FrL rs ks D D') (hi : k ∈ ks) : FrL rs ks D (ds D' 0 k v) := ⟨fun j hj0 hj => by rw [ds_row hj0, h.1 j hj0 hj], fun j hj => by
  rw [ds_ne (show ¬ (0 = 0 ∧ j = k) from fun e => hj (by rw [e.2]; exact hi)), h.2 j hj]⟩
