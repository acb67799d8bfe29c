/-! ===== what holds at the law's entry ===== -/
theorem en_tb {args : Array Value} {s : State} (hts : ∀ w ∈ lw_tbl, w.before args s = true) : ∀ w ∈ TB, w.before args s = true := fun w hw => hts w (List.mem_filter.mp hw).1
theorem en_arr {args : Array Value} {s : State} {ty : FieldType} (h : (Cond.arrayClass ty).before args s = true) : ∃ cA, ArrOfT s cA ty ∧ s.vm.findClass ("[" ++ ty.toString) = some cA := by
  obtain ⟨cA, kA, comp, h1, h2, h3⟩ := Cond.arrayClass_spec h
  exact ⟨cA, fun n z => ⟨fun k h => (by cases h), kA, h2, comp, h3⟩, h1⟩
theorem en_obj {args : Array Value} {s : State} {C : String} (h : (Cond.arrayOver (.object C)).before args s = true) : ∃ cA, ArrOfT s cA (.object C) ∧ va_RA s cA (.object C) := by
  obtain ⟨comp, c, k, h1, h2, h3, h4, h5⟩ := Cond.arrayOver_spec h
  exact ⟨c, fun n z => ⟨fun k h => (by cases h), k, h3, comp, h4⟩, k, comp, h3, h4, h1, h5⟩
theorem en_str {args : Array Value} {s : State} {t : Term} (h : (Cond.exactly t "java/lang/String").before args s = true) : ∃ a : Nat, t.eval args s none [] s = some (.ref a) := by
  obtain ⟨a, c, cA, kA, q1, -⟩ := Cond.exactly_spec (args := args) (first := s) (o := none) (s := s) (idx := []) (t := t) (cls := "java/lang/String") h
  exact ⟨a, q1⟩
theorem en_same {args : Array Value} {s : State} {t u : Term} {a b : Nat} (h : (Cond.eq t u).before args s = true) (ht : t.eval args s none [] s = some (.ref a)) (hu : u.eval args s none [] s = some (.ref b)) : b = a := by
  simp only [Cond.before, Cond.holds, Cond.value, ht, hu] at h
  by_cases e : a = b
  · exact e.symm
  · simp [e] at h
theorem en_inJ0 : ∀ w ∈ u_ws RJ0 TJ0 4, w ∈ lw_tbl := by decide +kernel
theorem en_inJ4 : ∀ w ∈ u_ws RJ4 TJ4 4, w ∈ lw_tbl := by decide +kernel
set_option maxHeartbeats 4000000 in
set_option maxRecDepth 100000 in
theorem en_cls {args : Array Value} {s : State} (hts : ∀ w ∈ lw_tbl, w.before args s = true) : ∃ D : va_G, ∀ (c : Nat) (q : vw_C), vwCl[c]? = some q → u_Kn s q.1 q.2.1 q.2.2 (D.1 c) (D.2 c) := by
  have htb := en_tb hts
  obtain ⟨c0, i0, k0⟩ := u_known (C := RJ0) (T := TJ0) (N := 4) (n := 4) hts en_inJ0 (hts (.instantiable RJ0 4) (by decide +kernel))
  obtain ⟨c1, i1, k1⟩ := u_known (C := RJ4) (T := TJ4) (N := 4) (n := 4) hts en_inJ4 (hts (.instantiable RJ4 4) (by decide +kernel))
  obtain ⟨c2, i2, k2⟩ := u_known (C := RJx4a65c) (T := TJx4a65c) (N := 3) (n := 3) htb inT_Jx4a65c (hts (.instantiable RJx4a65c 3) (by decide +kernel))
  obtain ⟨c3, i3, k3⟩ := u_known (C := RX0) (T := TX0) (N := 2) (n := 2) htb inT_X0 (hts (.instantiable RX0 2) (by decide +kernel))
  obtain ⟨c4, i4, k4⟩ := u_known (C := RX1) (T := TX1) (N := 1) (n := 1) htb inT_X1 (hts (.instantiable RX1 1) (by decide +kernel))
  obtain ⟨c5, i5, k5⟩ := u_known (C := RX2) (T := TX2) (N := 9) (n := 9) htb inT_X2 (hts (.instantiable RX2 9) (by decide +kernel))
  obtain ⟨c6, i6, k6⟩ := u_known (C := RX3) (T := TX3) (N := 3) (n := 3) htb inT_X3 (hts (.instantiable RX3 3) (by decide +kernel))
  obtain ⟨c7, i7, k7⟩ := u_known (C := RX4) (T := TX4) (N := 7) (n := 7) htb inT_X4 (hts (.instantiable RX4 7) (by decide +kernel))
  obtain ⟨c8, i8, k8⟩ := u_known (C := RX5) (T := TX5) (N := 3) (n := 3) htb inT_X5 (hts (.instantiable RX5 3) (by decide +kernel))
  obtain ⟨c9, i9, k9⟩ := u_known (C := RX6) (T := TX6) (N := 4) (n := 4) htb inT_X6 (hts (.instantiable RX6 4) (by decide +kernel))
  obtain ⟨c10, i10, k10⟩ := u_known (C := RX7) (T := TX7) (N := 3) (n := 3) htb inT_X7 (hts (.instantiable RX7 3) (by decide +kernel))
  obtain ⟨c11, i11, k11⟩ := u_known (C := RX8) (T := TX8) (N := 4) (n := 4) htb inT_X8 (hts (.instantiable RX8 4) (by decide +kernel))
  obtain ⟨c12, i12, k12⟩ := u_known (C := RX9) (T := TX9) (N := 6) (n := 6) htb inT_X9 (hts (.instantiable RX9 6) (by decide +kernel))
  obtain ⟨c13, i13, k13⟩ := u_known (C := RX10) (T := TX10) (N := 2) (n := 2) htb inT_X10 (hts (.instantiable RX10 2) (by decide +kernel))
  obtain ⟨c14, i14, k14⟩ := u_known (C := RX11) (T := TX11) (N := 14) (n := 14) htb inT_X11 (hts (.instantiable RX11 14) (by decide +kernel))
  obtain ⟨c15, i15, k15⟩ := u_known (C := RX12) (T := TX12) (N := 47) (n := 47) htb inT_X12 (hts (.instantiable RX12 47) (by decide +kernel))
  refine ⟨(fun k => ([c0, c1, c2, c3, c4, c5, c6, c7, c8, c9, c10, c11, c12, c13, c14, c15] : List ClassId).getD k c0, fun k => ([i0, i1, i2, i3, i4, i5, i6, i7, i8, i9, i10, i11, i12, i13, i14, i15] : List (Nat → Nat)).getD k i0), ?_⟩
  intro c q hq
  match c, hq with
  | 0, hq => cases hq; exact k0
  | 1, hq => cases hq; exact k1
  | 2, hq => cases hq; exact k2
  | 3, hq => cases hq; exact k3
  | 4, hq => cases hq; exact k4
  | 5, hq => cases hq; exact k5
  | 6, hq => cases hq; exact k6
  | 7, hq => cases hq; exact k7
  | 8, hq => cases hq; exact k8
  | 9, hq => cases hq; exact k9
  | 10, hq => cases hq; exact k10
  | 11, hq => cases hq; exact k11
  | 12, hq => cases hq; exact k12
  | 13, hq => cases hq; exact k13
  | 14, hq => cases hq; exact k14
  | 15, hq => cases hq; exact k15
  | c + 16, hq => simp [vwCl] at hq
theorem en_arrs {args : Array Value} {s : State} (hts : ∀ w ∈ lw_tbl, w.before args s = true) : ∃ cy : Nat → ClassId, ∀ (k : Nat) (q : ClassId × FieldType), (tysA cy)[k]? = some q → ArrOfT s q.1 q.2 ∧ va_RA s q.1 q.2 := by
  obtain ⟨c0, a0, b0⟩ := en_arr (hts (.arrayClass .byte) (by decide +kernel))
  obtain ⟨c1, a1, b1⟩ := en_arr (hts (.arrayClass .int) (by decide +kernel))
  obtain ⟨c2, a2, b2⟩ := en_arr (hts (.arrayClass .long) (by decide +kernel))
  obtain ⟨c3, a3, b3⟩ := en_arr (hts (.arrayClass .boolean) (by decide +kernel))
  obtain ⟨c4, a4, b4⟩ := en_obj (hts (.arrayOver (.object "java/lang/Object")) (by decide +kernel))
  refine ⟨fun k => ([c0, c1, c2, c3, c4] : List ClassId).getD k c0, ?_⟩
  intro k q hq
  match k, hq with
  | 0, hq => cases hq; exact ⟨a0, b0⟩
  | 1, hq => cases hq; exact ⟨a1, b1⟩
  | 2, hq => cases hq; exact ⟨a2, b2⟩
  | 3, hq => cases hq; exact ⟨a3, b3⟩
  | 4, hq => cases hq; exact ⟨a4, b4⟩
  | k + 5, hq => simp [tysA] at hq
theorem en_nw : ∀ w ∈ nwL, w ∈ lw_tbl ∧ w.onTables = true := by decide +kernel
/-- the texts' places -/
def enT (i : Nat) : Term := .string "PolicyTree$FilterReader" ([96, 98, 103, 105, 86, 74].getD i 0)
set_option maxHeartbeats 4000000 in
set_option maxRecDepth 100000 in
theorem en_txt {args : Array Value} {s : State} {A : Nat → Prop} (h : (Jvm.Cond.and given_1 narrow_1).before args s = true) (hA : ∀ a : Nat, a < s.heap.size → ¬ A a) : ∃ adK adV : Nat → Nat, vk_S 6 wLen wByt adK adV A s s.heap ∧ ∀ i : Nat, i < 6 → (enT i).eval args s none [] s = some (.ref (adK i)) := by
  have hs := flat_of_before _ h
  refine vk_Sof (tm := enT) ?_ ?_ ?_ ?_ ?_ ?_ ?_ hA
  · decide
  · intro i hi
    match i, hi with
    | 0, _ => exact hs _ (by decide +kernel)
    | 1, _ => exact hs _ (by decide +kernel)
    | 2, _ => exact hs _ (by decide +kernel)
    | 3, _ => exact hs _ (by decide +kernel)
    | 4, _ => exact hs _ (by decide +kernel)
    | 5, _ => exact hs _ (by decide +kernel)
    | i + 6, h => exact absurd h (by omega)
  · intro i hi
    match i, hi with
    | 0, _ => exact hs _ (by decide +kernel)
    | 1, _ => exact hs _ (by decide +kernel)
    | 2, _ => exact hs _ (by decide +kernel)
    | 3, _ => exact hs _ (by decide +kernel)
    | 4, _ => exact hs _ (by decide +kernel)
    | 5, _ => exact hs _ (by decide +kernel)
    | i + 6, h => exact absurd h (by omega)
  · intro i hi
    match i, hi with
    | 0, _ => exact hs _ (by decide +kernel)
    | 1, _ => exact hs _ (by decide +kernel)
    | 2, _ => exact hs _ (by decide +kernel)
    | 3, _ => exact hs _ (by decide +kernel)
    | 4, _ => exact hs _ (by decide +kernel)
    | 5, _ => exact hs _ (by decide +kernel)
    | i + 6, h => exact absurd h (by omega)
  · intro i hi
    match i, hi with
    | 0, _ => exact hs _ (by decide +kernel)
    | 1, _ => exact hs _ (by decide +kernel)
    | 2, _ => exact hs _ (by decide +kernel)
    | 3, _ => exact hs _ (by decide +kernel)
    | 4, _ => exact hs _ (by decide +kernel)
    | 5, _ => exact hs _ (by decide +kernel)
    | i + 6, h => exact absurd h (by omega)
  · intro i hi j hj
    match i, hi with
    | 0, _ =>
      match j, hj with
      | 0, _ => exact hs _ (by decide +kernel)
      | 1, _ => exact hs _ (by decide +kernel)
      | 2, _ => exact hs _ (by decide +kernel)
      | j + 3, h => exact absurd h (by show ¬ (j + 3 < 3); omega)
    | 1, _ =>
      match j, hj with
      | 0, _ => exact hs _ (by decide +kernel)
      | 1, _ => exact hs _ (by decide +kernel)
      | 2, _ => exact hs _ (by decide +kernel)
      | 3, _ => exact hs _ (by decide +kernel)
      | 4, _ => exact hs _ (by decide +kernel)
      | j + 5, h => exact absurd h (by show ¬ (j + 5 < 5); omega)
    | 2, _ =>
      match j, hj with
      | 0, _ => exact hs _ (by decide +kernel)
      | 1, _ => exact hs _ (by decide +kernel)
      | 2, _ => exact hs _ (by decide +kernel)
      | 3, _ => exact hs _ (by decide +kernel)
      | j + 4, h => exact absurd h (by show ¬ (j + 4 < 4); omega)
    | 3, _ =>
      match j, hj with
      | 0, _ => exact hs _ (by decide +kernel)
      | 1, _ => exact hs _ (by decide +kernel)
      | 2, _ => exact hs _ (by decide +kernel)
      | 3, _ => exact hs _ (by decide +kernel)
      | j + 4, h => exact absurd h (by show ¬ (j + 4 < 4); omega)
    | 4, _ =>
      match j, hj with
      | 0, _ => exact hs _ (by decide +kernel)
      | 1, _ => exact hs _ (by decide +kernel)
      | 2, _ => exact hs _ (by decide +kernel)
      | j + 3, h => exact absurd h (by show ¬ (j + 3 < 3); omega)
    | 5, _ =>
      match j, hj with
      | 0, _ => exact hs _ (by decide +kernel)
      | 1, _ => exact hs _ (by decide +kernel)
      | j + 2, h => exact absurd h (by show ¬ (j + 2 < 2); omega)
    | i + 6, h => exact absurd h (by omega)
  · intro i j hi hj hij
    match i, hi with
    | 0, _ =>
      match j, hj with
      | 0, _ => exact absurd rfl hij
      | 1, _ => exact Or.inl (hs _ (by decide +kernel))
      | 2, _ => exact Or.inl (hs _ (by decide +kernel))
      | 3, _ => exact Or.inl (hs _ (by decide +kernel))
      | 4, _ => exact Or.inl (hs _ (by decide +kernel))
      | 5, _ => exact Or.inl (hs _ (by decide +kernel))
      | j + 6, h => exact absurd h (by omega)
    | 1, _ =>
      match j, hj with
      | 0, _ => exact Or.inr (hs _ (by decide +kernel))
      | 1, _ => exact absurd rfl hij
      | 2, _ => exact Or.inl (hs _ (by decide +kernel))
      | 3, _ => exact Or.inl (hs _ (by decide +kernel))
      | 4, _ => exact Or.inl (hs _ (by decide +kernel))
      | 5, _ => exact Or.inl (hs _ (by decide +kernel))
      | j + 6, h => exact absurd h (by omega)
    | 2, _ =>
      match j, hj with
      | 0, _ => exact Or.inr (hs _ (by decide +kernel))
      | 1, _ => exact Or.inr (hs _ (by decide +kernel))
      | 2, _ => exact absurd rfl hij
      | 3, _ => exact Or.inl (hs _ (by decide +kernel))
      | 4, _ => exact Or.inl (hs _ (by decide +kernel))
      | 5, _ => exact Or.inl (hs _ (by decide +kernel))
      | j + 6, h => exact absurd h (by omega)
    | 3, _ =>
      match j, hj with
      | 0, _ => exact Or.inr (hs _ (by decide +kernel))
      | 1, _ => exact Or.inr (hs _ (by decide +kernel))
      | 2, _ => exact Or.inr (hs _ (by decide +kernel))
      | 3, _ => exact absurd rfl hij
      | 4, _ => exact Or.inl (hs _ (by decide +kernel))
      | 5, _ => exact Or.inl (hs _ (by decide +kernel))
      | j + 6, h => exact absurd h (by omega)
    | 4, _ =>
      match j, hj with
      | 0, _ => exact Or.inr (hs _ (by decide +kernel))
      | 1, _ => exact Or.inr (hs _ (by decide +kernel))
      | 2, _ => exact Or.inr (hs _ (by decide +kernel))
      | 3, _ => exact Or.inr (hs _ (by decide +kernel))
      | 4, _ => exact absurd rfl hij
      | 5, _ => exact Or.inl (hs _ (by decide +kernel))
      | j + 6, h => exact absurd h (by omega)
    | 5, _ =>
      match j, hj with
      | 0, _ => exact Or.inr (hs _ (by decide +kernel))
      | 1, _ => exact Or.inr (hs _ (by decide +kernel))
      | 2, _ => exact Or.inr (hs _ (by decide +kernel))
      | 3, _ => exact Or.inr (hs _ (by decide +kernel))
      | 4, _ => exact Or.inr (hs _ (by decide +kernel))
      | 5, _ => exact absurd rfl hij
      | j + 6, h => exact absurd h (by omega)
    | i + 6, h => exact absurd h (by omega)
set_option maxHeartbeats 4000000 in
set_option maxRecDepth 100000 in
theorem en_ZS {args : Array Value} {s : State} {A : Nat → Prop} (hts : ∀ w ∈ lw_tbl, w.before args s = true) (h : (Jvm.Cond.and given_1 narrow_1).before args s = true) (hA : ∀ a : Nat, a < s.heap.size → ¬ A a) : ∃ Z : Nat → Nat, ZS Z A s s.heap := by
  have hs := flat_of_before _ h
  obtain ⟨adK, adV, hS, hT⟩ := en_txt h hA
  obtain ⟨z0, e0, t0⟩ := va_Tof (tm := .static "java/util/ArrayList" "DEFAULTCAPACITY_EMPTY_ELEMENTDATA" "[Ljava/lang/Object;") (ty := .object "java/lang/Object") (N := 0) (f := fun _ => .null) (A := A) (by decide) (hs _ (by decide +kernel)) (va_eqt (hs _ (by decide +kernel))) (fun j hj => absurd hj (Nat.not_lt_zero j)) hA
  obtain ⟨z1, e1, t1⟩ := va_Tof (tm := .static "PolicyTree$Standing" "GUESSES" "[J") (ty := .long) (N := 6) (f := fun j => .long (gu j)) (A := A) (by decide) (hs _ (by decide +kernel)) (va_eqt (hs _ (by decide +kernel))) (fun j hj => by
    match j, hj with
    | 0, _ => exact va_eqtl (hs _ (by decide +kernel))
    | 1, _ => exact va_eqtl (hs _ (by decide +kernel))
    | 2, _ => exact va_eqtl (hs _ (by decide +kernel))
    | 3, _ => exact va_eqtl (hs _ (by decide +kernel))
    | 4, _ => exact va_eqtl (hs _ (by decide +kernel))
    | 5, _ => exact va_eqtl (hs _ (by decide +kernel))
    | j + 6, h => exact absurd h (by omega)) hA
  obtain ⟨z2, m2⟩ := va_Mi.of (C := "[Ljava/lang/Object;") (hs _ (by decide +kernel))
  obtain ⟨a30, x30⟩ := en_str (t := (Term.string "PolicyTree" 257)) (hs _ (by decide +kernel))
  obtain ⟨a31, x31⟩ := en_str (t := (Term.string "PolicyTree" 264)) (hs _ (by decide +kernel))
  obtain ⟨a32, x32⟩ := en_str (t := (Term.string "PolicyTree" 260)) (hs _ (by decide +kernel))
  obtain ⟨a33, x33⟩ := en_str (t := (Term.string "PolicyTree" 132)) (hs _ (by decide +kernel))
  obtain ⟨b0, y0⟩ := en_str (t := (Term.string "PolicyTreeModel" 187)) (hs _ (by decide +kernel))
  have q0 : b0 = adK 0 := en_same (t := enT 0) (hs _ (by decide +kernel)) (hT 0 (by decide)) y0
  rw [q0] at y0
  obtain ⟨b1, y1⟩ := en_str (t := (Term.string "PolicyTreeModel" 196)) (hs _ (by decide +kernel))
  have q1 : b1 = adK 1 := en_same (t := enT 1) (hs _ (by decide +kernel)) (hT 1 (by decide)) y1
  rw [q1] at y1
  obtain ⟨b2, y2⟩ := en_str (t := (Term.string "PolicyTreeModel" 201)) (hs _ (by decide +kernel))
  have q2 : b2 = adK 2 := en_same (t := enT 2) (hs _ (by decide +kernel)) (hT 2 (by decide)) y2
  rw [q2] at y2
  obtain ⟨b3, y3⟩ := en_str (t := (Term.string "PolicyTreeModel" 203)) (hs _ (by decide +kernel))
  have q3 : b3 = adK 3 := en_same (t := enT 3) (hs _ (by decide +kernel)) (hT 3 (by decide)) y3
  rw [q3] at y3
  obtain ⟨b4, y4⟩ := en_str (t := (Term.string "PolicyTreeModel" 178)) (hs _ (by decide +kernel))
  have q4 : b4 = adK 4 := en_same (t := enT 4) (hs _ (by decide +kernel)) (hT 4 (by decide)) y4
  rw [q4] at y4
  obtain ⟨b5, y5⟩ := en_str (t := (Term.string "PolicyTreeModel" 166)) (hs _ (by decide +kernel))
  have q5 : b5 = adK 5 := en_same (t := enT 5) (hs _ (by decide +kernel)) (hT 5 (by decide)) y5
  rw [q5] at y5
  obtain ⟨f3, f4, hf⟩ : ∃ f3 f4 : Nat, va_Z "jdk/internal/util/Preconditions" "SIOOBE_FORMATTER" "Ljava/util/function/BiFunction;" (va_rf (if f4 = 0 then none else some f3)) A s s.heap := by
    rcases va_Zqof (C := "jdk/internal/util/Preconditions") (n := "SIOOBE_FORMATTER") (d := "Ljava/util/function/BiFunction;") (hts _ (by decide +kernel)) (hts _ (by decide +kernel)) (hs _ (by decide +kernel)) hA with hz | ⟨t, hz⟩
    · exact ⟨0, 0, hz⟩
    · exact ⟨t, 1, hz⟩
  let Z : Nat → Nat := fun n => if n = 0 then z0 else if n = 1 then z1 else if n = 2 then z2 else if n = 3 then f3 else if n = 4 then f4 else if n = 40 then a30 else if n = 41 then a31 else if n = 42 then a32 else if n = 43 then a33 else if n < 50 then adK (n - 10) else adV (n - 50)
  have hS' : vk_S 6 wLen wByt (fun i => Z (10 + i)) (fun i => Z (50 + i)) A s s.heap := by
    have g1 : ∀ i, i < 6 → Z (10 + i) = adK i := fun i hi => by
      match i, hi with
      | 0, _ => rfl
      | 1, _ => rfl
      | 2, _ => rfl
      | 3, _ => rfl
      | 4, _ => rfl
      | 5, _ => rfl
      | i + 6, h => exact absurd h (by omega)
    have g2 : ∀ i, i < 6 → Z (50 + i) = adV i := fun i hi => by
      match i, hi with
      | 0, _ => rfl
      | 1, _ => rfl
      | 2, _ => rfl
      | 3, _ => rfl
      | 4, _ => rfl
      | 5, _ => rfl
      | i + 6, h => exact absurd h (by omega)
    refine ⟨fun i hi => ?_, fun i j hi hj e => ?_⟩
    · have := hS.1 i hi
      rw [← g1 i hi, ← g2 i hi] at this
      exact this
    · have e : Z (10 + i) = Z (10 + j) := e
      rw [g1 i hi, g1 j hj] at e
      exact hS.2 i j hi hj e
  refine ⟨Z, fun w hw => va_Nw.of (en_nw w hw).2 (hts w (en_nw w hw).1), ⟨va_Zof (hts _ (by decide +kernel)) (hts _ (by decide +kernel)) e0 hA, t0⟩, ⟨va_Zof (hts _ (by decide +kernel)) (hts _ (by decide +kernel)) e1 hA, t1⟩, ⟨m2, va_Dc.of (hts _ (by decide +kernel)), va_AO.of (hts _ (by decide +kernel))⟩, ⟨va_Zof (hts _ (by decide +kernel)) (hts _ (by decide +kernel)) (va_eqt (hs _ (by decide +kernel))) hA, hS'⟩, ?_, hf, ⟨vx_Zqof (hts _ (by decide +kernel)) (hts _ (by decide +kernel)) (hs _ (by decide +kernel)) hA, vx_Zqof (hts _ (by decide +kernel)) (hts _ (by decide +kernel)) (hs _ (by decide +kernel)) hA⟩, va_Nc.of (hs _ (by decide +kernel)), va_Nc.of (hs _ (by decide +kernel)), va_Nc.of (hs _ (by decide +kernel))⟩
  intro x hx
  unfold wRef at hx
  rcases List.mem_cons.mp hx with rfl | hx
  · exact vk_R.of (hts (.stringRef "PolicyTree$FilterReader" 96 "not") (by decide +kernel)) (hT 0 (by decide))
  rcases List.mem_cons.mp hx with rfl | hx
  · exact vk_R.of (hts (.stringRef "PolicyTree$FilterReader" 98 "group") (by decide +kernel)) (hT 1 (by decide))
  rcases List.mem_cons.mp hx with rfl | hx
  · exact vk_R.of (hts (.stringRef "PolicyTree$FilterReader" 103 "fact") (by decide +kernel)) (hT 2 (by decide))
  rcases List.mem_cons.mp hx with rfl | hx
  · exact vk_R.of (hts (.stringRef "PolicyTree$FilterReader" 105 "node") (by decide +kernel)) (hT 3 (by decide))
  rcases List.mem_cons.mp hx with rfl | hx
  · exact vk_R.of (hts (.stringRef "PolicyTree$FilterReader" 86 "and") (by decide +kernel)) (hT 4 (by decide))
  rcases List.mem_cons.mp hx with rfl | hx
  · exact vk_R.of (hts (.stringRef "PolicyTree$FilterReader" 74 "or") (by decide +kernel)) (hT 5 (by decide))
  rcases List.mem_cons.mp hx with rfl | hx
  · exact vk_R.of (hts (.stringRef "PolicyTreeModel" 187 "not") (by decide +kernel)) (y0)
  rcases List.mem_cons.mp hx with rfl | hx
  · exact vk_R.of (hts (.stringRef "PolicyTreeModel" 196 "group") (by decide +kernel)) (y1)
  rcases List.mem_cons.mp hx with rfl | hx
  · exact vk_R.of (hts (.stringRef "PolicyTreeModel" 201 "fact") (by decide +kernel)) (y2)
  rcases List.mem_cons.mp hx with rfl | hx
  · exact vk_R.of (hts (.stringRef "PolicyTreeModel" 203 "node") (by decide +kernel)) (y3)
  rcases List.mem_cons.mp hx with rfl | hx
  · exact vk_R.of (hts (.stringRef "PolicyTreeModel" 178 "and") (by decide +kernel)) (y4)
  rcases List.mem_cons.mp hx with rfl | hx
  · exact vk_R.of (hts (.stringRef "PolicyTreeModel" 166 "or") (by decide +kernel)) (y5)
  rcases List.mem_cons.mp hx with rfl | hx
  · exact vk_R.of (hts (.stringRef "PolicyTree" 257 "none has this number") (by decide +kernel)) (x30)
  rcases List.mem_cons.mp hx with rfl | hx
  · exact vk_R.of (hts (.stringRef "PolicyTree" 264 "there are as many as may be") (by decide +kernel)) (x31)
  rcases List.mem_cons.mp hx with rfl | hx
  · exact vk_R.of (hts (.stringRef "PolicyTree" 260 "no such choice") (by decide +kernel)) (x32)
  rcases List.mem_cons.mp hx with rfl | hx
  · exact vk_R.of (hts (.stringRef "PolicyTree" 132 "a fact is 1, 0 or -1") (by decide +kernel)) (x33)
  cases hx
theorem en_inj {A : Nat → Prop} {s : State} {H : Heap} {ty : FieldType} {a n1 n2 : Nat} {f1 f2 : Nat → Value} (h1 : va_T ty a n1 f1 A s H) (h2 : va_T ty a n2 f2 A s H) : Int32.ofNat n1 = Int32.ofNat n2 ∧ (0 < n1 → 0 < n2 → f1 0 = f2 0) := by
  obtain ⟨c1, a1, a2, a3, a4, a5, a6, a7⟩ := h1
  obtain ⟨c2, b1, b2, b3, b4, b5, b6, b7⟩ := h2
  cases a1.symm.trans b1
  refine ⟨a5.symm.trans b5, fun p1 p2 => ?_⟩
  exact Option.some.inj ((a6 0 p1).symm.trans (b6 0 p2))
theorem en_zok {Z : Nat → Nat} {s : State} (h : ZS Z (fun q : Nat => s.heap.size ≤ q) s s.heap) : ZOk Z s.heap.size := by
  obtain ⟨h1, ⟨h2, h3⟩, ⟨h4, h5⟩, ⟨h6, h7, h8⟩, ⟨h9, h10⟩, h11, h12, ⟨h13, h14⟩, h15, h16, h17⟩ := h
  refine ⟨?_, h10.2, fun i j hi hj e => ?_⟩
  · obtain ⟨c1, a1, a2, a3, a4, a5, a6, a7⟩ := h3
    exact Nat.not_le.mp a7
  · have t1 := (h10.1 i hi).2.2.2
    have t2 := (h10.1 j hj).2.2.2
    have e : Z (50 + i) = Z (50 + j) := e
    dsimp only at t1 t2
    rw [e] at t1
    obtain ⟨g1, g2⟩ := en_inj t1 t2
    have k : ∀ i, i < 6 → ∀ j, j < 6 → Int32.ofNat (wLen.getD i 0) = Int32.ofNat (wLen.getD j 0) → (wByt.getD i []).getD 0 0 = (wByt.getD j []).getD 0 0 → i = j := by decide
    have k0 : ∀ i, i < 6 → 0 < wLen.getD i 0 := by decide
    exact k i hi j hj g1 (Value.int.inj (g2 (k0 i hi) (k0 j hj)))
