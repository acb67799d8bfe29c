/-! ===== the law's own walk: from every heap of which PHI holds ===== -/
/-- the program that does nothing, where PHI holds; a, b: the room that is left -/
noncomputable def kB (R : Room) (Φ : Hs → Nat → Nat → Prop) (a b : Nat) : Mo Unit := fun h => @ite _ (Φ h (R.cells - a) (R.slots - b) ∧ a ≤ R.cells ∧ b ≤ R.slots) (Classical.propDecidable _) (some ((), h, a, b)) none
theorem kB_some {R : Room} {Φ : Hs → Nat → Nat → Prop} {a b : Nat} {h h' : Hs} {r : Unit} {c n : Nat} (e : kB R Φ a b h = some (r, h', c, n)) : h' = h ∧ c = a ∧ n = b ∧ a ≤ R.cells ∧ b ≤ R.slots ∧ Φ h (R.cells - a) (R.slots - b) := by
  unfold kB at e
  split at e
  · rename_i hc
    cases e
    exact ⟨rfl, rfl, rfl, hc.2.1, hc.2.2, hc.1⟩
  · cases e
theorem kB_of {R : Room} {Φ : Hs → Nat → Nat → Prop} {a b c n : Nat} {h : Hs} (hΦ : Φ h c n) (ha : c + a = R.cells) (hb : n + b = R.slots) : kB R Φ a b h = some ((), h, a, b) := by
  unfold kB
  have e1 : R.cells - a = c := by omega
  have e2 : R.slots - b = n := by omega
  rw [if_pos ⟨by rw [e1, e2]; exact hΦ, by omega, by omega⟩]
/-- the judgement of the law's walk -/
def SimB (X : Cg) (nL : Nat) (Q : State → Prop) (pc : Nat) (lv : List (Nat × Value)) (st : List Value) (Φ : Hs → Nat → Nat → Prop) : Prop := ∀ a b : Nat, Sim X nL (fun (_ : Unit) (_ : Hs) => Q) pc lv st (kB (xR X) Φ a b)
section LB
variable {X : Cg} {nL : Nat} {Q : State → Prop} {pc : Nat} {lv : List (Nat × Value)} {st stk : List Value} {cc : ByteArray} {own : String} {Φ : Hs → Nat → Nat → Prop}
theorem sb_use {p : Program} {l : Launch} {e : Env} {R : Room} {s : State} {m : MethodId} {args : Array Value} {below : List Frame} {meth : Method} {c : Code} {D : va_G} {cy : Nat → ClassId} {A : Nat → Prop} {Z : Nat → Nat} (k : SimB (p, l, e, R, s, m, args, below, meth, c, D, cy, A, Z) nL Q pc lv st Φ) {h : Hs} {c0 n0 : Nat} (hΦ : Φ h c0 n0) (hc : c0 ≤ R.cells) (hn : n0 ≤ R.slots) {H : Heap} {locs : List Loc} {ls : Array Slot} (hH : HW D cy A h H) (hS : va_S A s.heap H locs) (hl : lv_has ls nL lv) : W p l e R s m args below meth c H locs c0 n0 Q (F0 m pc ls st) :=
  k (R.cells - c0) (R.slots - n0) h () h c0 n0 (R.cells - c0) (R.slots - n0) (kB_of hΦ (by show c0 + (R.cells - c0) = R.cells; omega) (by show n0 + (R.slots - n0) = R.slots; omega)) (by omega) (by omega) H locs ls hH hS hl
theorem sb_mk {p : Program} {l : Launch} {e : Env} {R : Room} {s : State} {m : MethodId} {args : Array Value} {below : List Frame} {meth : Method} {c : Code} {D : va_G} {cy : Nat → ClassId} {A : Nat → Prop} {Z : Nat → Nat} (k : ∀ (h : Hs) (c0 n0 : Nat), Φ h c0 n0 → c0 ≤ R.cells → n0 ≤ R.slots → ∀ (H : Heap) (locs : List Loc) (ls : Array Slot), HW D cy A h H → va_S A s.heap H locs → lv_has ls nL lv → W p l e R s m args below meth c H locs c0 n0 Q (F0 m pc ls st)) : SimB (p, l, e, R, s, m, args, below, meth, c, D, cy, A, Z) nL Q pc lv st Φ := by
  intro a b h r h' c0 n0 c1 n1 hk e1 e2 H locs ls hH hS hl
  obtain ⟨rfl, rfl, rfl, g1, g2, hΦ⟩ := kB_some hk
  have w1 : R.cells - c1 = c0 := by omega
  have w2 : R.slots - n1 = n0 := by omega
  have hΦ : Φ h' (R.cells - c1) (R.slots - n1) := hΦ
  rw [w1, w2] at hΦ
  exact k h' c0 n0 hΦ (by omega) (by omega) H locs ls hH hS hl
/-- a weaker PHI -/
theorem sb_imp {Ψ : Hs → Nat → Nat → Prop} (h : ∀ g c n, Φ g c n → Ψ g c n) (k : SimB X nL Q pc lv st Ψ) : SimB X nL Q pc lv st Φ := by
  obtain ⟨p, l, e, R, s, m, args, below, meth, c, D, cy, A, Z⟩ := X
  exact sb_mk fun g c0 n0 hΦ hc hn H locs ls hH hS hl => sb_use k (h g c0 n0 hΦ) hc hn hH hS hl
/-- an effect g, then on: by the row of the effect -/
theorem sb_run {β : Type} {pc' : Nat} {st' : β → List Value} {lv' : β → List (Nat × Value)} {g : Mo β} {Ψ : β → Hs → Nat → Nat → Prop}
    (row : ∀ K : β → Mo Unit, (∀ v, Sim X nL (fun (_ : Unit) (_ : Hs) => Q) pc' (lv' v) (st' v) (K v)) → Sim X nL (fun (_ : Unit) (_ : Hs) => Q) pc lv stk (mb g K))
    (hΦ : ∀ h c0 n0, Φ h c0 n0 → ∃ v h1 c n, g h = some (v, h1, c, n) ∧ Ψ v h1 (c0 + c) (n0 + n) ∧ c0 + c ≤ (xR X).cells ∧ n0 + n ≤ (xR X).slots)
    (k : ∀ v, SimB X nL Q pc' (lv' v) (st' v) (Ψ v)) : SimB X nL Q pc lv stk Φ := by
  obtain ⟨p, l, e, R, s, m, args, below, meth, c, D, cy, A, Z⟩ := X
  refine sb_mk fun h c0 n0 hp hc hn H locs ls hH hS hl => ?_
  obtain ⟨v, h1, c1, n1, e1, e2, e3, e4⟩ := hΦ h c0 n0 hp
  have e3 : c0 + c1 ≤ R.cells := e3
  have e4 : n0 + n1 ≤ R.slots := e4
  have hk : mb g (fun v => kB R (Ψ v) (R.cells - (c0 + c1)) (R.slots - (n0 + n1))) h = some ((), h1, c1 + (R.cells - (c0 + c1)), n1 + (R.slots - (n0 + n1))) := by
    have e5 : kB R (Ψ v) (R.cells - (c0 + c1)) (R.slots - (n0 + n1)) h1 = some ((), h1, R.cells - (c0 + c1), R.slots - (n0 + n1)) := kB_of e2 (by omega) (by omega)
    unfold mb
    simp only [e1, e5]
  exact row (fun v => kB R (Ψ v) (R.cells - (c0 + c1)) (R.slots - (n0 + n1))) (fun v => k v _ _) h () h1 c0 n0 _ _ hk (by omega) (by omega) H locs ls hH hS hl
/-- branches, with what is known in each -/
theorem sb_icmp_eq (cx : Cx X cc own nL) {x y : Int32} {off : Int} {tgt : Nat} (hd : decode cc pc = .ok (.if_icmp .eq off, 3)) (ht : (pc : Int) + off = (tgt : Int)) (kt : x = y → SimB X nL Q tgt lv st Φ) (kf : ¬ x = y → SimB X nL Q (pc + 3) lv st Φ) : SimB X nL Q pc lv (.int y :: .int x :: st) Φ := by
  intro a b
  by_cases h : x = y
  · have := sm_icmp_eq (k1 := kB (xR X) Φ a b) (k2 := mf) (x := x) (y := y) (off := off) (tgt := tgt) cx hd ht (kt h a b) sm_mf
    rwa [if_pos h] at this
  · have := sm_icmp_eq (k1 := mf) (k2 := kB (xR X) Φ a b) (x := x) (y := y) (off := off) (tgt := tgt) cx hd ht sm_mf (kf h a b)
    rwa [if_neg h] at this
theorem sb_icmp_gt (cx : Cx X cc own nL) {x y : Int32} {off : Int} {tgt : Nat} (hd : decode cc pc = .ok (.if_icmp .gt off, 3)) (ht : (pc : Int) + off = (tgt : Int)) (kt : y < x → SimB X nL Q tgt lv st Φ) (kf : ¬ y < x → SimB X nL Q (pc + 3) lv st Φ) : SimB X nL Q pc lv (.int y :: .int x :: st) Φ := by
  intro a b
  by_cases h : y < x
  · have := sm_icmp_gt (k1 := kB (xR X) Φ a b) (k2 := mf) (x := x) (y := y) (off := off) (tgt := tgt) cx hd ht (kt h a b) sm_mf
    rwa [if_pos h] at this
  · have := sm_icmp_gt (k1 := mf) (k2 := kB (xR X) Φ a b) (x := x) (y := y) (off := off) (tgt := tgt) cx hd ht sm_mf (kf h a b)
    rwa [if_neg h] at this
theorem sb_if_eq (cx : Cx X cc own nL) {x : Int32} {off : Int} {tgt : Nat} (hd : decode cc pc = .ok (.ifCond .eq off, 3)) (ht : (pc : Int) + off = (tgt : Int)) (kt : x = 0 → SimB X nL Q tgt lv st Φ) (kf : ¬ x = 0 → SimB X nL Q (pc + 3) lv st Φ) : SimB X nL Q pc lv (.int x :: st) Φ := by
  intro a b
  by_cases h : x = 0
  · have := sm_if_eq (k1 := kB (xR X) Φ a b) (k2 := mf) (x := x) (off := off) (tgt := tgt) cx hd ht (kt h a b) sm_mf
    rwa [if_pos h] at this
  · have := sm_if_eq (k1 := mf) (k2 := kB (xR X) Φ a b) (x := x) (off := off) (tgt := tgt) cx hd ht sm_mf (kf h a b)
    rwa [if_neg h] at this
theorem sb_if_ne (cx : Cx X cc own nL) {x : Int32} {off : Int} {tgt : Nat} (hd : decode cc pc = .ok (.ifCond .ne off, 3)) (ht : (pc : Int) + off = (tgt : Int)) (kt : ¬ x = 0 → SimB X nL Q tgt lv st Φ) (kf : x = 0 → SimB X nL Q (pc + 3) lv st Φ) : SimB X nL Q pc lv (.int x :: st) Φ := by
  intro a b
  by_cases h : x = 0
  · have := sm_if_ne (k1 := kB (xR X) Φ a b) (k2 := mf) (x := x) (off := off) (tgt := tgt) cx hd ht sm_mf (kf h a b)
    rwa [if_pos h] at this
  · have := sm_if_ne (k1 := mf) (k2 := kB (xR X) Φ a b) (x := x) (off := off) (tgt := tgt) cx hd ht (kt h a b) sm_mf
    rwa [if_neg h] at this
/-- x != 0, as a truth value -/
def bz (x : Int32) : Int32 := if x = 0 then 0 else 1
theorem sb_bool (cx : Cx X cc own nL) {x : Int32} (d0 : decode cc pc = .ok (.ifCond .eq 7, 3)) (d1 : decode cc (pc + 3) = .ok (.iconst 1, 1)) (d2 : decode cc (pc + 4) = .ok (.goto 4, 3)) (d3 : decode cc (pc + 7) = .ok (.iconst 0, 1)) (k : SimB X nL Q (pc + 8) lv (.int (bz x) :: st) Φ) : SimB X nL Q pc lv (.int x :: st) Φ := by
  refine sb_if_eq (tgt := pc + 7) cx d0 (by omega) (fun h => ?_) (fun h => ?_)
  · intro a b
    refine sm_iconst (v := 0) cx d3 (by decide) ?_
    have := k a b
    rwa [show bz x = 0 from if_pos h] at this
  · intro a b
    refine sm_iconst (v := 1) cx d1 (by decide) ?_
    refine sm_goto (tgt := pc + 8) cx d2 (by omega) ?_
    have := k a b
    rwa [show bz x = 1 from if_neg h] at this
def bzL (x : Int32) : Int64 := if x = 0 then 0 else 1
theorem sb_boolL (cx : Cx X cc own nL) {x : Int32} (d0 : decode cc pc = .ok (.ifCond .eq 7, 3)) (d1 : decode cc (pc + 3) = .ok (.lconst 1, 1)) (d2 : decode cc (pc + 4) = .ok (.goto 4, 3)) (d3 : decode cc (pc + 7) = .ok (.lconst 0, 1)) (k : SimB X nL Q (pc + 8) lv (.long (bzL x) :: st) Φ) : SimB X nL Q pc lv (.int x :: st) Φ := by
  refine sb_if_eq (tgt := pc + 7) cx d0 (by omega) (fun h => ?_) (fun h => ?_)
  · intro a b
    refine sm_lconst (v := 0) cx d3 (by decide) ?_
    have := k a b
    rwa [show bzL x = 0 from if_pos h] at this
  · intro a b
    refine sm_lconst (v := 1) cx d1 (by decide) ?_
    refine sm_goto (tgt := pc + 8) cx d2 (by omega) ?_
    have := k a b
    rwa [show bzL x = 1 from if_neg h] at this
/-- where PHI never holds -/
theorem sb_no (h : ∀ g c n, ¬ Φ g c n) : SimB X nL Q pc lv st Φ := by
  obtain ⟨p, l, e, R, s, m, args, below, meth, c, D, cy, A, Z⟩ := X
  exact sb_mk fun g c0 n0 hΦ => absurd hΦ (h g c0 n0)
/-- a part of PHI that doesn't speak of the heap -/
theorem sb_and {P : Prop} {Ψ : Hs → Nat → Nat → Prop} (k : P → SimB X nL Q pc lv st Ψ) : SimB X nL Q pc lv st (fun h c n => P ∧ Ψ h c n) := by
  by_cases hP : P
  · exact sb_imp (fun _ _ _ h => h.2) (k hP)
  · exact sb_no (fun _ _ _ h => hP h.1)
theorem sb_ex {β : Type} {Ψ : β → Hs → Nat → Nat → Prop} (k : ∀ v, SimB X nL Q pc lv st (Ψ v)) : SimB X nL Q pc lv st (fun h c n => ∃ v, Ψ v h c n) := by
  obtain ⟨p, l, e, R, s, m, args, below, meth, c, D, cy, A, Z⟩ := X
  exact sb_mk fun g c0 n0 ⟨v, hv⟩ hc hn H locs ls hH hS hl => sb_use (k v) hv hc hn hH hS hl
/-- the script -/
abbrev xS (X : Cg) : State := X.2.2.2.2.1
abbrev xA (X : Cg) : Nat → Prop := X.2.2.2.2.2.2.2.2.2.2.2.2.1
theorem sm_sld {α : Type} {Fi : α → Hs → State → Prop} {k : Mo α} (cx : Cx X cc own nL) {b L : Nat} {xs : Nat → Int32} (hX : va_X b L xs (xS X) (xS X).heap) (hbl : b < (xS X).heap.size) (hbA : ¬ xA X b) {i : Int32} (hin : vp_in i L) (hd : decode cc pc = .ok (.iaload, 1)) (kk : Sim X nL Fi (pc + 1) lv (.int (xs i.toNatClampNeg) :: st) k) : Sim X nL Fi pc lv (.int i :: va_rf (some b) :: st) k := by
  obtain ⟨p, l, e, R, s, m, args, below, meth, c, D, cy, A, Z⟩ := X
  obtain ⟨hx, hb, hml, hown, hts, hK, hA, hlk, hz⟩ := cx
  intro h z h' c0 n0 c1 n1 hk e1 e2 H locs ls hH hS hl
  exact va_sld hx hb hX hbl hbA hS hin hd (kk h z h' c0 n0 c1 n1 hk e1 e2 H locs ls hH hS hl)
theorem sm_slen {α : Type} {Fi : α → Hs → State → Prop} {k : Mo α} (cx : Cx X cc own nL) {b L : Nat} {xs : Nat → Int32} (hX : va_X b L xs (xS X) (xS X).heap) (hbl : b < (xS X).heap.size) (hbA : ¬ xA X b) (hd : decode cc pc = .ok (.arraylength, 1)) (kk : Sim X nL Fi (pc + 1) lv (.int (Int32.ofNat L) :: st) k) : Sim X nL Fi pc lv (va_rf (some b) :: st) k := by
  obtain ⟨p, l, e, R, s, m, args, below, meth, c, D, cy, A, Z⟩ := X
  obtain ⟨hx, hb, hml, hown, hts, hK, hA, hlk, hz⟩ := cx
  intro h z h' c0 n0 c1 n1 hk e1 e2 H locs ls hH hS hl
  exact va_slen hx hb hX hbl hbA hS hd (kk h z h' c0 n0 c1 n1 hk e1 e2 H locs ls hH hS hl)
/-- a helper's call: behind it how many cells there are isn't known -/
def CalW (own : String) (i : Nat) (y : MethodName) (bytes : ByteArray) (maxL : Nat) (ret : Option FieldType) (hh : List (Nat × Nat × Nat × Nat)) (n : Nat) : Prop := (Cond.methodLink own i y ∈ TB ∧ Cond.static y ∈ TB ∧ Cond.initialized y.cls ∈ TB ∧ Cond.codeWith y bytes maxL ret hh ∈ TB) ∧ y.cls ≠ "java/lang/invoke/MethodHandle" ∧ y.cls ≠ "java/lang/invoke/VarHandle" ∧ (parseMethodDescriptor y.desc).map (fun d => d.parameters.length) = some n
theorem wd_W {own : String} {i maxL : Nat} {y : MethodName} {bytes : ByteArray} {ret : Option FieldType} {hh : List (Nat × Nat × Nat × Nat)} (h1 : Cond.methodLink own i y ∈ TB) (h2 : Cond.static y ∈ TB) (h4 : Cond.initialized y.cls ∈ TB) (h5 : Cond.codeWith y bytes maxL ret hh ∈ TB) : GoodIn TB (va_wsS own i y (Cond.codeWith y bytes maxL ret hh :: TB)) := by
  intro w hw
  have g : ∀ w ∈ TB, w ∈ TB ∧ ((w.onTables && w.keeps) = true ∨ ∃ ty, w = .arrayClass ty) := fun w h => ⟨h, good_of_word (tb_good _ h).2⟩
  rcases List.mem_append.mp hw with hw | hw
  · rcases List.mem_cons.mp hw with rfl | hw
    · exact g _ h1
    rcases List.mem_cons.mp hw with rfl | hw
    · exact g _ h2
    rcases List.mem_cons.mp hw with rfl | hw
    · exact g _ h4
    cases hw
  · rcases List.mem_cons.mp hw with rfl | hw
    · exact g _ h5
    · exact g _ hw
theorem sb_help {β : Type} (cx : Cx X cc own nL) (htr : (xL X).stackTraces = false) {i : Nat} {y : MethodName} {bytes : ByteArray} {maxL : Nat} {ret : Option FieldType} {hh : List (Nat × Nat × Nat × Nat)} {fr lo : Nat} (As : List Value) {toV : β → Option Value} {f : Mo β} {Ψ : β → Hs → Nat → Nat → Prop} (hW : CalW own i y bytes maxL ret hh As.length)
    (hM : CtH y bytes maxL ret hh fr lo (xZ X) As toV f) (hfr : fr + 1 ≤ (xR X).frames) (hlo : 8 + (maxL + 11) + lo ≤ (xR X).locals) (hst : stk = As.reverse ++ st) (hcat : (st.map fun v => v.category).sum ≤ 8) (hd : decode cc pc = .ok (.invokestatic i, 3))
    (hΦ : ∀ h c0 n0, Φ h c0 n0 → ∃ v h1 c n, f h = some (v, h1, c, n) ∧ (∀ sz, (∀ q, sz ≤ q → h1.1 q = none) → Ψ v (h1.1, sz) (c0 + c) (n0 + n)) ∧ c0 + c ≤ (xR X).cells ∧ n0 + n ≤ (xR X).slots)
    (k : ∀ v, SimB X nL Q (pc + 3) lv ((toV v).toList ++ st) (Ψ v)) : SimB X nL Q pc lv stk Φ := by
  obtain ⟨p, l, e, R, s, m, args, below, meth, c, D, cy, A, Z⟩ := X
  obtain ⟨hx, hb, hml, hown, hts, hK, hA, hlk, hz⟩ := cx
  refine sb_mk fun h c0 n0 hp hc hn H locs ls hH hS hl => ?_
  obtain ⟨v, h1, c1, n1, e1, e2, e3, e4⟩ := hΦ h c0 n0 hp
  have M := hM l htr D cy A h v h1 c1 n1 e1
  have run := vx_runSW (As := As) (rest := st) (g := F0 m pc ls stk) (H := H) (locs := locs) (cells := c0) (slots := n0) (p := p) (e := e) (below := below) (meth := meth) ⟨hx, hb, hml, hown, hts⟩ M (vx_cwSW As.length hts (wd_W hW.1.1 hW.1.2.1 hW.1.2.2.1 hW.1.2.2.2) rfl rfl rfl hW.2 ⟨hfr, hlo⟩) ⟨fb_pre, fun U hU hWm => ⟨rfl, pre_at hK hA hz hS hH hU hWm⟩⟩ rfl rfl hl.1 hst (lv_room hcat) hd ⟨e3, e4⟩
  intro T hT Y
  obtain ⟨v', st₀, t, T', L, g0, Y', hL, g1, g2, ⟨hv, ⟨sz, hHx⟩, hz1, hk1⟩, stp⟩ := run T hT Y
  cases hv
  rw [g0] at hz1 hk1
  obtain ⟨t2, a1, b1⟩ := sb_use (k v) (e2 sz (fun q hq => by
    cases hv : h1.1 q with
    | none => rfl
    | some x => exact absurd (Nat.lt_of_lt_of_le ((hHx.2 q x hv).1.lt) (Nat.le_trans (Nat.le_of_eq hHx.1) hq)) (Nat.lt_irrefl q))) e3 e4 (H := T'.heap) (locs := locs ++ L) (by rw [g1]; exact hHx)
    ⟨Nat.le_trans hS.1 (by rw [g1]; exact hz1), fun q q1 q2 => by rw [g1, hk1 q (Nat.lt_of_lt_of_le q1 hS.1) q2]; exact hS.2.1 q q1 q2, fun q hq => by
      rcases List.mem_append.mp hq with h | h
      · exact hS.2.2 q h
      · exact hL q h⟩ hl T' rfl Y'
  exact ⟨t2, stp t2 a1, b1⟩
end LB
