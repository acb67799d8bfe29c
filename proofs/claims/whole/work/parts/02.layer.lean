/-! ===== the functional heap: what each address holds; how many cells there are; programs over it, with what they make ===== -/
/-- an object (its class's number in vwCl, its fields) or an array (its kind: 0 byte, 1 int, 2 long, 3 boolean, 4 Object; from 10 on: not to be written) -/
abbrev Ce : Type := (Nat × List Value) ⊕ (Nat × vp_A)
abbrev Hs : Type := (Nat → Option Ce) × Nat
abbrev Mo (α : Type) : Type := Hs → Option (α × Hs × Nat × Nat)
def mp {α : Type} (a : α) : Mo α := fun h => some (a, h, 0, 0)
def mf {α : Type} : Mo α := fun _ => none
def mb {α β : Type} (x : Mo α) (f : α → Mo β) : Mo β := fun h => match x h with
  | none => none
  | some (a, h1, c, n) => match f a h1 with
    | none => none
    | some (b, h2, c2, n2) => some (b, h2, c + c2, n + n2)
theorem mb_some {α β : Type} {x : Mo α} {f : α → Mo β} {h h2 : Hs} {b : β} {c n : Nat} (e : mb x f h = some (b, h2, c, n)) : ∃ a h1 c1 n1 c2 n2, x h = some (a, h1, c1, n1) ∧ f a h1 = some (b, h2, c2, n2) ∧ c = c1 + c2 ∧ n = n1 + n2 := by
  unfold mb at e
  split at e
  · cases e
  · rename_i a h1 c1 n1 e1
    split at e
    · cases e
    · rename_i b' h2' c2 n2 e2
      cases e
      exact ⟨a, h1, c1, n1, c2, n2, e1, e2, rfl, rfl⟩
/-- the object r, of class ci -/
def ob (ci : Nat) (r : Option Nat) (h : Hs) : Option (Nat × List Value) := match r with
  | none => none
  | some a => match h.1 a with
    | some (.inl (c, fs)) => if c = ci then some (a, fs) else none
    | _ => none
def gI (ci k : Nat) (r : Option Nat) : Mo Int32 := fun h => match ob ci r h with
  | none => none
  | some (_, fs) => match fs[k]? with
    | some (.int x) => some (x, h, 0, 0)
    | _ => none
def gL (ci k : Nat) (r : Option Nat) : Mo Int64 := fun h => match ob ci r h with
  | none => none
  | some (_, fs) => match fs[k]? with
    | some (.long x) => some (x, h, 0, 0)
    | _ => none
def gR (ci k : Nat) (r : Option Nat) : Mo (Option Nat) := fun h => match ob ci r h with
  | none => none
  | some (_, fs) => match fs[k]? with
    | some (.ref a) => some (some a, h, 0, 0)
    | some .null => some (none, h, 0, 0)
    | _ => none
/-- a field is written: of a class whose objects may be written -/
def pV (ci k : Nat) (r : Option Nat) (v : Value) : Mo Unit := fun h => match ob ci r h with
  | none => none
  | some (a, fs) => if k < fs.length ∧ ci ≠ 0 then some ((), (va_up h.1 a (some (.inl (ci, fs.set k v))), h.2), 0, 0) else none
/-- a receiver: an object of class ci -/
def mo {α : Type} (ci : Nat) (r : Option Nat) (x : Mo α) : Mo α := fun h => match ob ci r h with
  | none => none
  | some _ => x h
/-- arrays -/
def ar (t : Nat) (r : Option Nat) (h : Hs) : Option (Nat × Nat × vp_A) := match r with
  | none => none
  | some a => match h.1 a with
    | some (.inr (u, x)) => if u % 10 = t then some (a, u, x) else none
    | _ => none
def aI (t : Nat) (r : Option Nat) (i : Int32) : Mo Int32 := fun h => match ar t r h with
  | some (_, _, (n, .inl f)) => if i < 0 ∨ n ≤ i.toNatClampNeg then none else some (f i.toNatClampNeg, h, 0, 0)
  | _ => none
def aL (r : Option Nat) (i : Int32) : Mo Int64 := fun h => match ar 2 r h with
  | some (_, _, (n, .inr (.inl f))) => if i < 0 ∨ n ≤ i.toNatClampNeg then none else some (f i.toNatClampNeg, h, 0, 0)
  | _ => none
def aR (r : Option Nat) (i : Int32) : Mo (Option Nat) := fun h => match ar 4 r h with
  | some (_, _, (n, .inr (.inr (.inr (.inr f))))) => if i < 0 ∨ n ≤ i.toNatClampNeg then none else some (f i.toNatClampNeg, h, 0, 0)
  | _ => none
def aN (t : Nat) (r : Option Nat) : Mo Int32 := fun h => match ar t r h with
  | some (_, _, (n, _)) => some (Int32.ofNat n, h, 0, 0)
  | _ => none
/-- what an array of kind t keeps of an int -/
def kp (t : Nat) (x : Int32) : Int32 := if t = 0 then vp_nar .byte x else if t = 3 then x &&& 1 else x
def sI (t : Nat) (r : Option Nat) (i x : Int32) : Mo Unit := fun h => match ar t r h with
  | some (a, u, (n, .inl f)) => if i < 0 ∨ n ≤ i.toNatClampNeg ∨ u ≠ t then none else some ((), (va_up h.1 a (some (.inr (t, (n, .inl (upd f i.toNatClampNeg (kp t x)))))), h.2), 0, 0)
  | _ => none
def sL (r : Option Nat) (i : Int32) (x : Int64) : Mo Unit := fun h => match ar 2 r h with
  | some (a, u, (n, .inr (.inl f))) => if i < 0 ∨ n ≤ i.toNatClampNeg ∨ u ≠ 2 then none else some ((), (va_up h.1 a (some (.inr (2, (n, .inr (.inl (vp_updL f i.toNatClampNeg x)))))), h.2), 0, 0)
  | _ => none
/-- a reference is stored: null, or an object of a class of vwCl -/
def sR (r : Option Nat) (i : Int32) (v : Option Nat) : Mo Unit := fun h => match ar 4 r h with
  | some (a, u, (n, .inr (.inr (.inr (.inr f))))) => if i < 0 ∨ n ≤ i.toNatClampNeg ∨ u ≠ 4 then none else
    match v with
    | none => some ((), (va_up h.1 a (some (.inr (4, (n, .inr (.inr (.inr (.inr (va_up f i.toNatClampNeg none)))))))), h.2), 0, 0)
    | some b => match h.1 b with
      | some (.inl _) => some ((), (va_up h.1 a (some (.inr (4, (n, .inr (.inr (.inr (.inr (va_up f i.toNatClampNeg (some b))))))))), h.2), 0, 0)
      | _ => none
  | _ => none
def nO (ci : Nat) (fs : List Value) : Mo (Option Nat) := fun h => some (some h.2, (va_up h.1 h.2 (some (.inl (ci, fs))), h.2 + 1), 1, fs.length)
/-- a fresh array's contents -/
def z0 (t : Nat) : ((Nat → Int32) ⊕ (Nat → Int64) ⊕ (Nat → UInt32) ⊕ (Nat → UInt64) ⊕ (Nat → Option Nat)) := if t = 2 then .inr (.inl (fun _ => 0)) else if t = 4 then .inr (.inr (.inr (.inr (fun _ => none)))) else .inl (fun _ => 0)
def nA (t : Nat) (i : Int32) : Mo (Option Nat) := fun h => if i < 0 ∨ 1000000 < i.toNatClampNeg then none else some (some h.2, (va_up h.1 h.2 (some (.inr (t, (i.toNatClampNeg, z0 t)))), h.2 + 1), 1, i.toNatClampNeg)
/-! ===== the heap of the machine ===== -/
def ce_e (cy : Nat → ClassId) (x : Ce) : va_E := match x with
  | .inl o => .inr o
  | .inr a => .inl (cy (a.1 % 10), a.2)
def ce_w (x : Ce) : Bool := match x with
  | .inl o => decide (o.1 ≠ 0)
  | .inr a => decide (a.1 < 10)
abbrev tysA (cy : Nat → ClassId) : List (ClassId × FieldType) := [(cy 0, .byte), (cy 1, .int), (cy 2, .long), (cy 3, .boolean), (cy 4, .object "java/lang/Object")]
def HW (D : va_G) (cy : Nat → ClassId) (A : Nat → Prop) (h : Hs) (H : Heap) : Prop := H.size = h.2 ∧ ∀ (q : Nat) (x : Ce), h.1 q = some x → va_at D vwCl (q, ce_e cy x) H ∧ (ce_w x = true → A q)
theorem HW.put {D : va_G} {cy : Nat → ClassId} {A : Nat → Prop} {h : Hs} {H H1 : Heap} {a : Nat} {y : Ce} (w : HW D cy A h H) (ha : A a) (e : va_at D vwCl (a, ce_e cy y) H1) (z : H1.size = H.size) (oq : ∀ q, q ≠ a → H1[q]? = H[q]?) : HW D cy A (va_up h.1 a (some y), h.2) H1 := by
  refine ⟨z.trans w.1, fun q x hq => ?_⟩
  by_cases hqa : q = a
  · subst hqa
    rw [show (va_up h.1 q (some y), h.2).1 q = some y from va_up_self ..] at hq
    cases hq
    exact ⟨e, fun _ => ha⟩
  · rw [show (va_up h.1 a (some y), h.2).1 q = h.1 q from va_up_ne _ _ hqa] at hq
    exact ⟨(w.2 q x hq).1.kept (oq q hqa), (w.2 q x hq).2⟩
theorem HW.push {D : va_G} {cy : Nat → ClassId} {A : Nat → Prop} {h : Hs} {H H1 : Heap} {y : Ce} (w : HW D cy A h H) (ha : A H.size) (e : va_at D vwCl (H.size, ce_e cy y) H1) (z : H1.size = H.size + 1) (oq : ∀ q, q < H.size → H1[q]? = H[q]?) : HW D cy A (va_up h.1 h.2 (some y), h.2 + 1) H1 := by
  have hz := w.1
  refine ⟨by rw [z, hz], fun q x hq => ?_⟩
  by_cases hqa : q = h.2
  · subst hqa
    rw [show (va_up h.1 h.2 (some y), h.2 + 1).1 h.2 = some y from va_up_self ..] at hq
    cases hq
    rw [← hz]
    exact ⟨e, fun _ => ha⟩
  · rw [show (va_up h.1 h.2 (some y), h.2 + 1).1 q = h.1 q from va_up_ne _ _ hqa] at hq
    exact ⟨(w.2 q x hq).1.kept (oq q (w.2 q x hq).1.lt), (w.2 q x hq).2⟩
/-! ===== what stays as it was: words of the tables that aren't good ones, static fields, texts ===== -/
def nwOk : Cond → Bool
  | .methodLinkNest .. => true
  | .castable .. => true
  | .declares x => decide (x.cls ≠ "java/lang/invoke/MethodHandle" ∧ x.cls ≠ "java/lang/invoke/VarHandle")
  | _ => false
theorem nw_warm {w : Cond} (hw : nwOk w = true) {s U : State} (hW : s.WarmedH U.vm) (h : va_Nw w s) : va_Nw w U := by
  unfold nwOk at hw
  split at hw
  · exact va_Nw.warmM hW h
  · exact va_Nw.warmC hW h
  · exact va_Nw.warmD hW h
  · cases hw
def nwL : List Cond := [.methodLinkNest "PolicyTree" 21 ⟨"PolicyTree$Groups", "<init>", "()V"⟩ "PolicyTree", .methodLinkNest "PolicyTree" 38 ⟨"PolicyTree$Tape", "<init>", "()V"⟩ "PolicyTree", .methodLinkNest "PolicyTree" 58 ⟨"PolicyTree$Row", "<init>", "()V"⟩ "PolicyTree", .methodLinkNest "PolicyTree$Row" 27 ⟨"PolicyTree$Standing", "<init>", "()V"⟩ "PolicyTree", .methodLinkNest "PolicyTree" 68 ⟨"PolicyTree$Outcome", "<init>", "()V"⟩ "PolicyTree", .methodLinkNest "PolicyTree" 159 ⟨"PolicyTree$Bundle", "<init>", "()V"⟩ "PolicyTree", .castable "java/lang/String" "java/lang/Object", .castable "java/lang/StringBuilder" "java/lang/Object", .castable "java/util/ArrayList" "java/lang/Object", .castable "PolicyTree$Bundle" "java/lang/Object", .castable "PolicyTree$Filter" "java/lang/Object", .castable "PolicyTree$FilterReader" "java/lang/Object", .castable "PolicyTree$Groups" "java/lang/Object", .castable "PolicyTree$Link" "java/lang/Object", .castable "PolicyTree$Machine" "java/lang/Object", .castable "PolicyTree$Node" "java/lang/Object", .castable "PolicyTree$Outcome" "java/lang/Object", .castable "PolicyTree$Row" "java/lang/Object", .castable "PolicyTree$Standing" "java/lang/Object", .castable "PolicyTree$Tape" "java/lang/Object", .castable "PolicyTree" "java/lang/Object", .castable "PolicyTreeModel" "java/lang/Object", .castable "java/lang/IndexOutOfBoundsException" "java/lang/IndexOutOfBoundsException", .castable "java/lang/IllegalArgumentException" "java/lang/IllegalArgumentException", .castable "java/lang/IllegalStateException" "java/lang/IllegalStateException", .declares ⟨"java/lang/RuntimeException", "<init>", "(Ljava/lang/String;)V"⟩, .declares ⟨"java/lang/Exception", "<init>", "(Ljava/lang/String;)V"⟩, .declares ⟨"java/lang/Throwable", "<init>", "(Ljava/lang/String;)V"⟩]
theorem nwL_ok : ∀ w ∈ nwL, nwOk w = true := by decide
/-- what the guesses are -/
def gu (j : Nat) : Int64 := [-6148914691236517206, -3689348814741910324, -1085102592571150096, -71777214294589696, -281470681808896, -4294967296].getD j 0
/-- the six words, their lengths and bytes -/
def wLen : List Nat := [3, 5, 4, 4, 3, 2]
def wByt : List (List Int32) := [[110, 111, 116], [103, 114, 111, 117, 112], [102, 97, 99, 116], [110, 111, 100, 101], [97, 110, 100], [111, 114]]
/-- where the texts stand: class, entry, text, its number -/
def wRef : List (String × Nat × String × Nat) := [("PolicyTree$FilterReader", 96, "not", 0), ("PolicyTree$FilterReader", 98, "group", 1), ("PolicyTree$FilterReader", 103, "fact", 2), ("PolicyTree$FilterReader", 105, "node", 3), ("PolicyTree$FilterReader", 86, "and", 4), ("PolicyTree$FilterReader", 74, "or", 5), ("PolicyTreeModel", 187, "not", 0), ("PolicyTreeModel", 196, "group", 1), ("PolicyTreeModel", 201, "fact", 2), ("PolicyTreeModel", 203, "node", 3), ("PolicyTreeModel", 178, "and", 4), ("PolicyTreeModel", 166, "or", 5), ("PolicyTree", 257, "none has this number", 30), ("PolicyTree", 264, "there are as many as may be", 31), ("PolicyTree", 260, "no such choice", 32), ("PolicyTree", 132, "a fact is 1, 0 or -1", 33)]
/-- a reference of which nothing more is known -/
def zF (Z : Nat → Nat) : Option Nat := if Z 4 = 0 then none else some (Z 3)
/-- Z 0: the empty list's array; Z 1: the guesses; Z 2: the class object of Object[]; Z 10 ..: texts; Z 50 ..: their bytes -/
def ZS (Z : Nat → Nat) (A : Nat → Prop) (U : State) (H : Heap) : Prop :=
  (∀ w ∈ nwL, va_Nw w U) ∧
  (va_Z "java/util/ArrayList" "DEFAULTCAPACITY_EMPTY_ELEMENTDATA" "[Ljava/lang/Object;" (.ref (Z 0)) A U H ∧ va_T (.object "java/lang/Object") (Z 0) 0 (fun _ => .null) A U H) ∧
  (va_Z "PolicyTree$Standing" "GUESSES" "[J" (.ref (Z 1)) A U H ∧ va_T .long (Z 1) 6 (fun j => .long (gu j)) A U H) ∧
  (va_Mi "[Ljava/lang/Object;" (Z 2) U ∧ va_Dc U ∧ va_AO "java/lang/Object" U) ∧
  (va_Z "java/lang/String" "COMPACT_STRINGS" "Z" (.int 1) A U H ∧ vk_S 6 wLen wByt (fun i => Z (10 + i)) (fun i => Z (50 + i)) A U H) ∧
  (∀ x ∈ wRef, vk_R x.1 x.2.1 x.2.2.1 (Z (10 + x.2.2.2)) U) ∧
  va_Z "jdk/internal/util/Preconditions" "SIOOBE_FORMATTER" "Ljava/util/function/BiFunction;" (va_rf (zF Z)) A U H ∧
  (vx_Zq Bundle.tN "UNASSIGNED_STACK" Bundle.steD A U H ∧ vx_Zq Bundle.tN "SUPPRESSED_SENTINEL" Bundle.listD A U H) ∧
  (va_Nc eS eI U ∧ va_Nc eA eI U ∧ va_Nc eS eA U)
theorem ZS.moved {Z : Nat → Nat} {A : Nat → Prop} {s U : State} {H : Heap} (hW : s.WarmedH U.vm) (h : ZS Z A s H) : ZS Z A U H := by
  obtain ⟨h1, ⟨h2, h3⟩, ⟨h4, h5⟩, ⟨h6, h7, h8⟩, ⟨h9, h10⟩, h11, h12, ⟨h13, h14⟩, h15, h16, h17⟩ := h
  have ha := hW.alike
  exact ⟨fun w hw => nw_warm (nwL_ok w hw) hW (h1 w hw), ⟨h2.moved ha, h3.moved ha⟩, ⟨h4.moved ha, h5.moved ha⟩, ⟨h6.moved ha, h7.moved ha, h8.moved ha⟩, ⟨h9.moved ha, h10.moved ha⟩, fun x hx => (h11 x hx).warm hW, h12.moved ha, ⟨h13.moved ha, h14.moved ha⟩, h15.moved ha, h16.moved ha, h17.moved ha⟩
theorem ZS.kept {Z : Nat → Nat} {A : Nat → Prop} {U : State} {H H1 : Heap} (h : ZS Z A U H) (hq : ∀ a : Nat, a < H.size → ¬ A a → H1[a]? = H[a]?) : ZS Z A U H1 := by
  obtain ⟨h1, ⟨h2, h3⟩, ⟨h4, h5⟩, ⟨h6, h7, h8⟩, ⟨h9, h10⟩, h11, h12, ⟨h13, h14⟩, h15, h16, h17⟩ := h
  exact ⟨h1, ⟨h2.kept hq, h3.kept hq⟩, ⟨h4.kept hq, h5.kept hq⟩, ⟨h6, h7, h8⟩, ⟨h9.kept hq, h10.kept hq⟩, h11, h12.kept hq, ⟨h13.kept hq, h14.kept hq⟩, h15, h16, h17⟩
/-! ===== the judgement ===== -/
/-- where a walk is: program, launch, environment, room, state, method, arguments, frames below, its method and code; the tables' numbers; which cells are ours -/
abbrev Cg : Type := Program × Launch × Env × Room × State × MethodId × Array Value × List Frame × Method × Code × va_G × (Nat → ClassId) × (Nat → Prop) × (Nat → Nat)
def Cx (X : Cg) (cc : ByteArray) (own : String) (nL : Nat) : Prop := match X with
  | (p, _, _, _, s, m, args, _, meth, c, D, cy, A, Z) => p.tables.exec = Jvm.exec ∧ c.code = cc ∧ c.maxLocals = nL ∧ s.vm.findClass own = some m.cls ∧ (∀ w ∈ TB, w.before args s = true) ∧ va_K D vwCl (tysA cy) s ∧ (∀ q, s.heap.size ≤ q → A q) ∧ meth.locks = false ∧ ZS Z A s s.heap
def Sim {α : Type} (X : Cg) (nL : Nat) (Fi : α → Hs → State → Prop) (pc : Nat) (lv : List (Nat × Value)) (st : List Value) (k : Mo α) : Prop := match X with
  | (p, l, e, R, s, m, args, below, meth, c, D, cy, A, _) => ∀ (h : Hs) (r : α) (h' : Hs) (c0 n0 c1 n1 : Nat), k h = some (r, h', c1, n1) → c0 + c1 = R.cells → n0 + n1 = R.slots → ∀ (H : Heap) (locs : List Loc) (ls : Array Slot), HW D cy A h H → va_S A s.heap H locs → lv_has ls nL lv → W p l e R s m args below meth c H locs c0 n0 (Fi r h') (F0 m pc ls st)
theorem rf_cat (r : Option Nat) : (va_rf r).category = 1 := by cases r <;> rfl
section LY
variable {α : Type} {X : Cg} {nL : Nat} {Fi : α → Hs → State → Prop} {pc : Nat} {lv : List (Nat × Value)} {st : List Value} {k : Mo α} {cc : ByteArray} {own : String}
theorem sm_iconst (cx : Cx X cc own nL) {n : Int} {v : Int32} (hd : decode cc pc = .ok (.iconst n, 1)) (hv : Int32.ofInt n = v) (kk : Sim X nL Fi (pc + 1) lv (.int v :: st) k) : Sim X nL Fi pc lv st k := by
  obtain ⟨p, l, e, R, s, m, args, below, meth, c, D, cy, A, Z⟩ := X
  obtain ⟨hx, hb, hml, hown, hts, hK, hA, hlk, hz⟩ := cx
  intro h r h' c0 n0 c1 n1 hk e1 e2 H locs ls hH hS hl
  exact lv_iconst hx hb hd hv (kk h r h' c0 n0 c1 n1 hk e1 e2 H locs ls hH hS hl)
theorem sm_bipush (cx : Cx X cc own nL) {n : Int} {v : Int32} (hd : decode cc pc = .ok (.bipush n, 2)) (hv : (Int8.ofInt n).toInt32 = v) (kk : Sim X nL Fi (pc + 2) lv (.int v :: st) k) : Sim X nL Fi pc lv st k := by
  obtain ⟨p, l, e, R, s, m, args, below, meth, c, D, cy, A, Z⟩ := X
  obtain ⟨hx, hb, hml, hown, hts, hK, hA, hlk, hz⟩ := cx
  intro h r h' c0 n0 c1 n1 hk e1 e2 H locs ls hH hS hl
  exact lv_bipush hx hb hd hv (kk h r h' c0 n0 c1 n1 hk e1 e2 H locs ls hH hS hl)
theorem sm_sipush (cx : Cx X cc own nL) {n : Int} {v : Int32} (hd : decode cc pc = .ok (.sipush n, 3)) (hv : (Int16.ofInt n).toInt32 = v) (kk : Sim X nL Fi (pc + 3) lv (.int v :: st) k) : Sim X nL Fi pc lv st k := by
  obtain ⟨p, l, e, R, s, m, args, below, meth, c, D, cy, A, Z⟩ := X
  obtain ⟨hx, hb, hml, hown, hts, hK, hA, hlk, hz⟩ := cx
  intro h r h' c0 n0 c1 n1 hk e1 e2 H locs ls hH hS hl
  exact lv_sipush hx hb hd hv (kk h r h' c0 n0 c1 n1 hk e1 e2 H locs ls hH hS hl)
theorem sm_lconst (cx : Cx X cc own nL) {n : Fin 2} {v : Int64} (hd : decode cc pc = .ok (.lconst n, 1)) (hv : Int64.ofNat (n : Nat) = v) (kk : Sim X nL Fi (pc + 1) lv (.long v :: st) k) : Sim X nL Fi pc lv st k := by
  obtain ⟨p, l, e, R, s, m, args, below, meth, c, D, cy, A, Z⟩ := X
  obtain ⟨hx, hb, hml, hown, hts, hK, hA, hlk, hz⟩ := cx
  intro h r h' c0 n0 c1 n1 hk e1 e2 H locs ls hH hS hl
  exact lv_lconst hx hb hd hv (kk h r h' c0 n0 c1 n1 hk e1 e2 H locs ls hH hS hl)
theorem sm_ldc (cx : Cx X cc own nL) {i : Nat} {v : Int32} (hd : decode cc pc = .ok (.ldc i, 2)) (hw : Cond.constant own i v ∈ TB) (kk : Sim X nL Fi (pc + 2) lv (.int v :: st) k) : Sim X nL Fi pc lv st k := by
  obtain ⟨p, l, e, R, s, m, args, below, meth, c, D, cy, A, Z⟩ := X
  obtain ⟨hx, hb, hml, hown, hts, hK, hA, hlk, hz⟩ := cx
  intro h r h' c0 n0 c1 n1 hk e1 e2 H locs ls hH hS hl
  exact lv_ldc hx hb hown (hts _ hw) hd (kk h r h' c0 n0 c1 n1 hk e1 e2 H locs ls hH hS hl)
theorem sm_ldcw (cx : Cx X cc own nL) {i : Nat} {v : Int32} (hd : decode cc pc = .ok (.ldc_w i, 3)) (hw : Cond.constant own i v ∈ TB) (kk : Sim X nL Fi (pc + 3) lv (.int v :: st) k) : Sim X nL Fi pc lv st k := by
  obtain ⟨p, l, e, R, s, m, args, below, meth, c, D, cy, A, Z⟩ := X
  obtain ⟨hx, hb, hml, hown, hts, hK, hA, hlk, hz⟩ := cx
  intro h r h' c0 n0 c1 n1 hk e1 e2 H locs ls hH hS hl
  exact lv_ldcw hx hb hown (hts _ hw) hd (kk h r h' c0 n0 c1 n1 hk e1 e2 H locs ls hH hS hl)
theorem sm_ldc2 (cx : Cx X cc own nL) {i : Nat} {v : Int64} (hd : decode cc pc = .ok (.ldc2_w i, 3)) (hw : Cond.constantLong own i v ∈ TB) (kk : Sim X nL Fi (pc + 3) lv (.long v :: st) k) : Sim X nL Fi pc lv st k := by
  obtain ⟨p, l, e, R, s, m, args, below, meth, c, D, cy, A, Z⟩ := X
  obtain ⟨hx, hb, hml, hown, hts, hK, hA, hlk, hz⟩ := cx
  intro h r h' c0 n0 c1 n1 hk e1 e2 H locs ls hH hS hl
  exact lv_ldc2 hx hb hown (hts _ hw) hd (kk h r h' c0 n0 c1 n1 hk e1 e2 H locs ls hH hS hl)
theorem sm_null (cx : Cx X cc own nL) (hd : decode cc pc = .ok (.aconst_null, 1)) (kk : Sim X nL Fi (pc + 1) lv (va_rf none :: st) k) : Sim X nL Fi pc lv st k := by
  obtain ⟨p, l, e, R, s, m, args, below, meth, c, D, cy, A, Z⟩ := X
  obtain ⟨hx, hb, hml, hown, hts, hK, hA, hlk, hz⟩ := cx
  intro h r h' c0 n0 c1 n1 hk e1 e2 H locs ls hH hS hl
  exact lv_null hx hb hd (kk h r h' c0 n0 c1 n1 hk e1 e2 H locs ls hH hS hl)
theorem sm_iload_n (cx : Cx X cc own nL) {j : Fin 4} {i : Nat} {x : Int32} (q : Nat) (hd : decode cc pc = .ok (.iload_n j, 1)) (hi : (j : Nat) = i) (hq : lv[q]? = some (i, .int x)) (kk : Sim X nL Fi (pc + 1) lv (.int x :: st) k) : Sim X nL Fi pc lv st k := by
  obtain ⟨p, l, e, R, s, m, args, below, meth, c, D, cy, A, Z⟩ := X
  obtain ⟨hx, hb, hml, hown, hts, hK, hA, hlk, hz⟩ := cx
  intro h r h' c0 n0 c1 n1 hk e1 e2 H locs ls hH hS hl
  exact lv_iload_n hx hb hd hi (lv_at hl q hq) (kk h r h' c0 n0 c1 n1 hk e1 e2 H locs ls hH hS hl)
theorem sm_iload (cx : Cx X cc own nL) {i : Nat} {x : Int32} (q : Nat) (hd : decode cc pc = .ok (.iload i, 2)) (hq : lv[q]? = some (i, .int x)) (kk : Sim X nL Fi (pc + 2) lv (.int x :: st) k) : Sim X nL Fi pc lv st k := by
  obtain ⟨p, l, e, R, s, m, args, below, meth, c, D, cy, A, Z⟩ := X
  obtain ⟨hx, hb, hml, hown, hts, hK, hA, hlk, hz⟩ := cx
  intro h r h' c0 n0 c1 n1 hk e1 e2 H locs ls hH hS hl
  exact lv_iload hx hb hd (lv_at hl q hq) (kk h r h' c0 n0 c1 n1 hk e1 e2 H locs ls hH hS hl)
theorem sm_lload_n (cx : Cx X cc own nL) {j : Fin 4} {i : Nat} {x : Int64} (q : Nat) (hd : decode cc pc = .ok (.lload_n j, 1)) (hi : (j : Nat) = i) (hq : lv[q]? = some (i, .long x)) (kk : Sim X nL Fi (pc + 1) lv (.long x :: st) k) : Sim X nL Fi pc lv st k := by
  obtain ⟨p, l, e, R, s, m, args, below, meth, c, D, cy, A, Z⟩ := X
  obtain ⟨hx, hb, hml, hown, hts, hK, hA, hlk, hz⟩ := cx
  intro h r h' c0 n0 c1 n1 hk e1 e2 H locs ls hH hS hl
  exact lv_lload_n hx hb hd hi (lv_at hl q hq) (kk h r h' c0 n0 c1 n1 hk e1 e2 H locs ls hH hS hl)
theorem sm_lload (cx : Cx X cc own nL) {i : Nat} {x : Int64} (q : Nat) (hd : decode cc pc = .ok (.lload i, 2)) (hq : lv[q]? = some (i, .long x)) (kk : Sim X nL Fi (pc + 2) lv (.long x :: st) k) : Sim X nL Fi pc lv st k := by
  obtain ⟨p, l, e, R, s, m, args, below, meth, c, D, cy, A, Z⟩ := X
  obtain ⟨hx, hb, hml, hown, hts, hK, hA, hlk, hz⟩ := cx
  intro h r h' c0 n0 c1 n1 hk e1 e2 H locs ls hH hS hl
  exact lv_lload hx hb hd (lv_at hl q hq) (kk h r h' c0 n0 c1 n1 hk e1 e2 H locs ls hH hS hl)
theorem sm_aload_n (cx : Cx X cc own nL) {j : Fin 4} {i : Nat} {x : Option Nat} (q : Nat) (hd : decode cc pc = .ok (.aload_n j, 1)) (hi : (j : Nat) = i) (hq : lv[q]? = some (i, va_rf x)) (kk : Sim X nL Fi (pc + 1) lv (va_rf x :: st) k) : Sim X nL Fi pc lv st k := by
  obtain ⟨p, l, e, R, s, m, args, below, meth, c, D, cy, A, Z⟩ := X
  obtain ⟨hx, hb, hml, hown, hts, hK, hA, hlk, hz⟩ := cx
  intro h r h' c0 n0 c1 n1 hk e1 e2 H locs ls hH hS hl
  have hr := kk h r h' c0 n0 c1 n1 hk e1 e2 H locs ls hH hS hl
  cases x with
  | none => exact lv_aload_nN hx hb hd hi (lv_at hl q hq) hr
  | some a => exact lv_aload_n hx hb hd hi (lv_at hl q hq) hr
theorem sm_aload (cx : Cx X cc own nL) {i : Nat} {x : Option Nat} (q : Nat) (hd : decode cc pc = .ok (.aload i, 2)) (hq : lv[q]? = some (i, va_rf x)) (kk : Sim X nL Fi (pc + 2) lv (va_rf x :: st) k) : Sim X nL Fi pc lv st k := by
  obtain ⟨p, l, e, R, s, m, args, below, meth, c, D, cy, A, Z⟩ := X
  obtain ⟨hx, hb, hml, hown, hts, hK, hA, hlk, hz⟩ := cx
  intro h r h' c0 n0 c1 n1 hk e1 e2 H locs ls hH hS hl
  have hr := kk h r h' c0 n0 c1 n1 hk e1 e2 H locs ls hH hS hl
  cases x with
  | none => exact lv_aloadN hx hb hd (lv_at hl q hq) hr
  | some a => exact lv_aload hx hb hd (lv_at hl q hq) hr
theorem nc0 : ∀ q ∈ ([] : List (Nat × Value)), q.2.category = 1 := fun _ h => nomatch h
theorem nc1 {i : Nat} {v : Value} (h : v.category = 1) : ∀ q ∈ [(i, v)], q.2.category = 1 := fun q hq => by
  rw [List.mem_singleton.mp hq]; exact h
theorem cat_le (st : List Value) (h : st.length ≤ 4) : (st.map fun v => v.category).sum ≤ 8 := by
  have key : ∀ st : List Value, (st.map fun v => v.category).sum ≤ 2 * st.length := by
    intro st
    induction st with
    | nil => simp
    | cons v t ih =>
      have := lv_cat v
      simp only [List.map_cons, List.sum_cons, List.length_cons]
      omega
  have := key st
  omega
theorem flt1 {i : Nat} {lv pv : List (Nat × Value)} (hp : lv.filter (fun q => q.1 + 1 == i) = pv) (hc : ∀ q ∈ pv, q.2.category = 1) : lv.filter (fun q => !(q.1 == i) && !(q.1 + 1 == i && q.2.category == 2)) = lv.filter (fun q => !(q.1 == i)) := by
  apply List.filter_congr
  intro q hq
  by_cases h : q.1 + 1 = i
  · have := hc q (by rw [← hp]; exact List.mem_filter.mpr ⟨hq, by simp [h]⟩)
    simp [this]
  · simp [h]
theorem flt2 {i : Nat} {lv pv : List (Nat × Value)} (hp : lv.filter (fun q => q.1 + 1 == i) = pv) (hc : ∀ q ∈ pv, q.2.category = 1) : lv.filter (fun q => !(q.1 == i) && (!(q.1 == i + 1) && !(q.1 + 1 == i && q.2.category == 2))) = lv.filter (fun q => !(q.1 == i) && !(q.1 == i + 1)) := by
  apply List.filter_congr
  intro q hq
  by_cases h : q.1 + 1 = i
  · have := hc q (by rw [← hp]; exact List.mem_filter.mpr ⟨hq, by simp [h]⟩)
    simp [this]
  · have hb : (q.1 + 1 == i) = false := beq_eq_false_iff_ne.mpr h
    rw [hb]
    simp
theorem sm_istore_n (cx : Cx X cc own nL) {j : Fin 4} {i : Nat} {x : Int32} (lv' : List (Nat × Value)) {pv : List (Nat × Value)} (hd : decode cc pc = .ok (.istore_n j, 1)) (hi : (j : Nat) = i) (hn : i < nL) (hp : lv.filter (fun q => q.1 + 1 == i) = pv) (hpc : ∀ q ∈ pv, q.2.category = 1) (hl' : (i, Value.int x) :: lv.filter (fun q => !(q.1 == i)) = lv') (kk : Sim X nL Fi (pc + 1) lv' st k) : Sim X nL Fi pc lv (Value.int x :: st) k := by
  obtain ⟨p, l, e, R, s, m, args, below, meth, c, D, cy, A, Z⟩ := X
  obtain ⟨hx, hb, hml, hown, hts, hK, hA, hlk, hz⟩ := cx
  intro h r h' c0 n0 c1 n1 hk e1 e2 H locs ls hH hS hl
  rw [← flt1 hp hpc] at hl'
  exact lv_istore_n hx hb hd hi hl hn hl' (fun ls hl => kk h r h' c0 n0 c1 n1 hk e1 e2 H locs ls hH hS hl)
theorem sm_istore (cx : Cx X cc own nL) {i : Nat} {x : Int32} (lv' : List (Nat × Value)) {pv : List (Nat × Value)} (hd : decode cc pc = .ok (.istore i, 2)) (hn : i < nL) (hp : lv.filter (fun q => q.1 + 1 == i) = pv) (hpc : ∀ q ∈ pv, q.2.category = 1) (hl' : (i, Value.int x) :: lv.filter (fun q => !(q.1 == i)) = lv') (kk : Sim X nL Fi (pc + 2) lv' st k) : Sim X nL Fi pc lv (Value.int x :: st) k := by
  obtain ⟨p, l, e, R, s, m, args, below, meth, c, D, cy, A, Z⟩ := X
  obtain ⟨hx, hb, hml, hown, hts, hK, hA, hlk, hz⟩ := cx
  intro h r h' c0 n0 c1 n1 hk e1 e2 H locs ls hH hS hl
  rw [← flt1 hp hpc] at hl'
  exact lv_istore hx hb hd hl hn hl' (fun ls hl => kk h r h' c0 n0 c1 n1 hk e1 e2 H locs ls hH hS hl)
theorem sm_lstore_n (cx : Cx X cc own nL) {j : Fin 4} {i : Nat} {x : Int64} (lv' : List (Nat × Value)) {pv : List (Nat × Value)} (hd : decode cc pc = .ok (.lstore_n j, 1)) (hi : (j : Nat) = i) (hn : i + 1 < nL) (hp : lv.filter (fun q => q.1 + 1 == i) = pv) (hpc : ∀ q ∈ pv, q.2.category = 1) (hl' : (i, Value.long x) :: lv.filter (fun q => !(q.1 == i) && !(q.1 == i + 1)) = lv') (kk : Sim X nL Fi (pc + 1) lv' st k) : Sim X nL Fi pc lv (Value.long x :: st) k := by
  obtain ⟨p, l, e, R, s, m, args, below, meth, c, D, cy, A, Z⟩ := X
  obtain ⟨hx, hb, hml, hown, hts, hK, hA, hlk, hz⟩ := cx
  intro h r h' c0 n0 c1 n1 hk e1 e2 H locs ls hH hS hl
  rw [← flt2 hp hpc] at hl'
  exact lv_lstore_n hx hb hd hi hl hn hl' (fun ls hl => kk h r h' c0 n0 c1 n1 hk e1 e2 H locs ls hH hS hl)
theorem sm_lstore (cx : Cx X cc own nL) {i : Nat} {x : Int64} (lv' : List (Nat × Value)) {pv : List (Nat × Value)} (hd : decode cc pc = .ok (.lstore i, 2)) (hn : i + 1 < nL) (hp : lv.filter (fun q => q.1 + 1 == i) = pv) (hpc : ∀ q ∈ pv, q.2.category = 1) (hl' : (i, Value.long x) :: lv.filter (fun q => !(q.1 == i) && !(q.1 == i + 1)) = lv') (kk : Sim X nL Fi (pc + 2) lv' st k) : Sim X nL Fi pc lv (Value.long x :: st) k := by
  obtain ⟨p, l, e, R, s, m, args, below, meth, c, D, cy, A, Z⟩ := X
  obtain ⟨hx, hb, hml, hown, hts, hK, hA, hlk, hz⟩ := cx
  intro h r h' c0 n0 c1 n1 hk e1 e2 H locs ls hH hS hl
  rw [← flt2 hp hpc] at hl'
  exact lv_lstore hx hb hd hl hn hl' (fun ls hl => kk h r h' c0 n0 c1 n1 hk e1 e2 H locs ls hH hS hl)
theorem sm_astore_n (cx : Cx X cc own nL) {j : Fin 4} {i : Nat} {x : Option Nat} (lv' : List (Nat × Value)) {pv : List (Nat × Value)} (hd : decode cc pc = .ok (.astore_n j, 1)) (hi : (j : Nat) = i) (hn : i < nL) (hp : lv.filter (fun q => q.1 + 1 == i) = pv) (hpc : ∀ q ∈ pv, q.2.category = 1) (hl' : (i, va_rf x) :: lv.filter (fun q => !(q.1 == i)) = lv') (kk : Sim X nL Fi (pc + 1) lv' st k) : Sim X nL Fi pc lv (va_rf x :: st) k := by
  obtain ⟨p, l, e, R, s, m, args, below, meth, c, D, cy, A, Z⟩ := X
  obtain ⟨hx, hb, hml, hown, hts, hK, hA, hlk, hz⟩ := cx
  intro h r h' c0 n0 c1 n1 hk e1 e2 H locs ls hH hS hl
  rw [← flt1 hp hpc] at hl'
  cases x with
  | none => exact lv_astore_nN hx hb hd hi hl hn hl' (fun ls hl => kk h r h' c0 n0 c1 n1 hk e1 e2 H locs ls hH hS hl)
  | some a => exact lv_astore_n hx hb hd hi hl hn hl' (fun ls hl => kk h r h' c0 n0 c1 n1 hk e1 e2 H locs ls hH hS hl)
theorem sm_astore (cx : Cx X cc own nL) {i : Nat} {x : Option Nat} (lv' : List (Nat × Value)) {pv : List (Nat × Value)} (hd : decode cc pc = .ok (.astore i, 2)) (hn : i < nL) (hp : lv.filter (fun q => q.1 + 1 == i) = pv) (hpc : ∀ q ∈ pv, q.2.category = 1) (hl' : (i, va_rf x) :: lv.filter (fun q => !(q.1 == i)) = lv') (kk : Sim X nL Fi (pc + 2) lv' st k) : Sim X nL Fi pc lv (va_rf x :: st) k := by
  obtain ⟨p, l, e, R, s, m, args, below, meth, c, D, cy, A, Z⟩ := X
  obtain ⟨hx, hb, hml, hown, hts, hK, hA, hlk, hz⟩ := cx
  intro h r h' c0 n0 c1 n1 hk e1 e2 H locs ls hH hS hl
  rw [← flt1 hp hpc] at hl'
  cases x with
  | none => exact lv_astoreN hx hb hd hl hn hl' (fun ls hl => kk h r h' c0 n0 c1 n1 hk e1 e2 H locs ls hH hS hl)
  | some a => exact lv_astore hx hb hd hl hn hl' (fun ls hl => kk h r h' c0 n0 c1 n1 hk e1 e2 H locs ls hH hS hl)
theorem sm_iinc (cx : Cx X cc own nL) {i : Nat} {n : Int} {x v : Int32} (q : Nat) (lv' : List (Nat × Value)) {pv : List (Nat × Value)} (hd : decode cc pc = .ok (.iinc i n, 3)) (hq : lv[q]? = some (i, .int x)) (hv : x + Int32.ofInt n = v) (hn : i < nL) (hp : lv.filter (fun q => q.1 + 1 == i) = pv) (hpc : ∀ q ∈ pv, q.2.category = 1) (hl' : (i, Value.int v) :: lv.filter (fun q => !(q.1 == i)) = lv') (kk : Sim X nL Fi (pc + 3) lv' st k) : Sim X nL Fi pc lv st k := by
  obtain ⟨p, l, e, R, s, m, args, below, meth, c, D, cy, A, Z⟩ := X
  obtain ⟨hx, hb, hml, hown, hts, hK, hA, hlk, hz⟩ := cx
  intro h r h' c0 n0 c1 n1 hk e1 e2 H locs ls hH hS hl
  rw [← flt1 hp hpc] at hl'
  exact lv_iinc hx hb hd hl hq hv hn hl' (fun ls hl => kk h r h' c0 n0 c1 n1 hk e1 e2 H locs ls hH hS hl)
theorem sm_iadd (cx : Cx X cc own nL) {x y : Int32} (hd : decode cc pc = .ok (.iadd, 1)) (kk : Sim X nL Fi (pc + 1) lv (.int (x + y) :: st) k) : Sim X nL Fi pc lv (.int y :: .int x :: st) k := by
  obtain ⟨p, l, e, R, s, m, args, below, meth, c, D, cy, A, Z⟩ := X
  obtain ⟨hx, hb, hml, hown, hts, hK, hA, hlk, hz⟩ := cx
  intro h r h' c0 n0 c1 n1 hk e1 e2 H locs ls hH hS hl
  exact lv_iadd hx hb hd (kk h r h' c0 n0 c1 n1 hk e1 e2 H locs ls hH hS hl)
theorem sm_isub (cx : Cx X cc own nL) {x y : Int32} (hd : decode cc pc = .ok (.isub, 1)) (kk : Sim X nL Fi (pc + 1) lv (.int (x - y) :: st) k) : Sim X nL Fi pc lv (.int y :: .int x :: st) k := by
  obtain ⟨p, l, e, R, s, m, args, below, meth, c, D, cy, A, Z⟩ := X
  obtain ⟨hx, hb, hml, hown, hts, hK, hA, hlk, hz⟩ := cx
  intro h r h' c0 n0 c1 n1 hk e1 e2 H locs ls hH hS hl
  exact lv_isub hx hb hd (kk h r h' c0 n0 c1 n1 hk e1 e2 H locs ls hH hS hl)
theorem sm_imul (cx : Cx X cc own nL) {x y : Int32} (hd : decode cc pc = .ok (.imul, 1)) (kk : Sim X nL Fi (pc + 1) lv (.int (x * y) :: st) k) : Sim X nL Fi pc lv (.int y :: .int x :: st) k := by
  obtain ⟨p, l, e, R, s, m, args, below, meth, c, D, cy, A, Z⟩ := X
  obtain ⟨hx, hb, hml, hown, hts, hK, hA, hlk, hz⟩ := cx
  intro h r h' c0 n0 c1 n1 hk e1 e2 H locs ls hH hS hl
  exact lv_imul hx hb hd (kk h r h' c0 n0 c1 n1 hk e1 e2 H locs ls hH hS hl)
theorem sm_iand (cx : Cx X cc own nL) {x y : Int32} (hd : decode cc pc = .ok (.iand, 1)) (kk : Sim X nL Fi (pc + 1) lv (.int (x &&& y) :: st) k) : Sim X nL Fi pc lv (.int y :: .int x :: st) k := by
  obtain ⟨p, l, e, R, s, m, args, below, meth, c, D, cy, A, Z⟩ := X
  obtain ⟨hx, hb, hml, hown, hts, hK, hA, hlk, hz⟩ := cx
  intro h r h' c0 n0 c1 n1 hk e1 e2 H locs ls hH hS hl
  exact lv_iand hx hb hd (kk h r h' c0 n0 c1 n1 hk e1 e2 H locs ls hH hS hl)
theorem sm_ior (cx : Cx X cc own nL) {x y : Int32} (hd : decode cc pc = .ok (.ior, 1)) (kk : Sim X nL Fi (pc + 1) lv (.int (x ||| y) :: st) k) : Sim X nL Fi pc lv (.int y :: .int x :: st) k := by
  obtain ⟨p, l, e, R, s, m, args, below, meth, c, D, cy, A, Z⟩ := X
  obtain ⟨hx, hb, hml, hown, hts, hK, hA, hlk, hz⟩ := cx
  intro h r h' c0 n0 c1 n1 hk e1 e2 H locs ls hH hS hl
  exact lv_ior hx hb hd (kk h r h' c0 n0 c1 n1 hk e1 e2 H locs ls hH hS hl)
theorem sm_ixor (cx : Cx X cc own nL) {x y : Int32} (hd : decode cc pc = .ok (.ixor, 1)) (kk : Sim X nL Fi (pc + 1) lv (.int (x ^^^ y) :: st) k) : Sim X nL Fi pc lv (.int y :: .int x :: st) k := by
  obtain ⟨p, l, e, R, s, m, args, below, meth, c, D, cy, A, Z⟩ := X
  obtain ⟨hx, hb, hml, hown, hts, hK, hA, hlk, hz⟩ := cx
  intro h r h' c0 n0 c1 n1 hk e1 e2 H locs ls hH hS hl
  exact lv_ixor hx hb hd (kk h r h' c0 n0 c1 n1 hk e1 e2 H locs ls hH hS hl)
theorem sm_ladd (cx : Cx X cc own nL) {x y : Int64} (hd : decode cc pc = .ok (.ladd, 1)) (kk : Sim X nL Fi (pc + 1) lv (.long (x + y) :: st) k) : Sim X nL Fi pc lv (.long y :: .long x :: st) k := by
  obtain ⟨p, l, e, R, s, m, args, below, meth, c, D, cy, A, Z⟩ := X
  obtain ⟨hx, hb, hml, hown, hts, hK, hA, hlk, hz⟩ := cx
  intro h r h' c0 n0 c1 n1 hk e1 e2 H locs ls hH hS hl
  exact lv_ladd hx hb hd (kk h r h' c0 n0 c1 n1 hk e1 e2 H locs ls hH hS hl)
theorem sm_lsub (cx : Cx X cc own nL) {x y : Int64} (hd : decode cc pc = .ok (.lsub, 1)) (kk : Sim X nL Fi (pc + 1) lv (.long (x - y) :: st) k) : Sim X nL Fi pc lv (.long y :: .long x :: st) k := by
  obtain ⟨p, l, e, R, s, m, args, below, meth, c, D, cy, A, Z⟩ := X
  obtain ⟨hx, hb, hml, hown, hts, hK, hA, hlk, hz⟩ := cx
  intro h r h' c0 n0 c1 n1 hk e1 e2 H locs ls hH hS hl
  exact lv_lsub hx hb hd (kk h r h' c0 n0 c1 n1 hk e1 e2 H locs ls hH hS hl)
theorem sm_lmul (cx : Cx X cc own nL) {x y : Int64} (hd : decode cc pc = .ok (.lmul, 1)) (kk : Sim X nL Fi (pc + 1) lv (.long (x * y) :: st) k) : Sim X nL Fi pc lv (.long y :: .long x :: st) k := by
  obtain ⟨p, l, e, R, s, m, args, below, meth, c, D, cy, A, Z⟩ := X
  obtain ⟨hx, hb, hml, hown, hts, hK, hA, hlk, hz⟩ := cx
  intro h r h' c0 n0 c1 n1 hk e1 e2 H locs ls hH hS hl
  exact lv_lmul hx hb hd (kk h r h' c0 n0 c1 n1 hk e1 e2 H locs ls hH hS hl)
theorem sm_land (cx : Cx X cc own nL) {x y : Int64} (hd : decode cc pc = .ok (.land, 1)) (kk : Sim X nL Fi (pc + 1) lv (.long (x &&& y) :: st) k) : Sim X nL Fi pc lv (.long y :: .long x :: st) k := by
  obtain ⟨p, l, e, R, s, m, args, below, meth, c, D, cy, A, Z⟩ := X
  obtain ⟨hx, hb, hml, hown, hts, hK, hA, hlk, hz⟩ := cx
  intro h r h' c0 n0 c1 n1 hk e1 e2 H locs ls hH hS hl
  exact lv_land hx hb hd (kk h r h' c0 n0 c1 n1 hk e1 e2 H locs ls hH hS hl)
theorem sm_lor (cx : Cx X cc own nL) {x y : Int64} (hd : decode cc pc = .ok (.lor, 1)) (kk : Sim X nL Fi (pc + 1) lv (.long (x ||| y) :: st) k) : Sim X nL Fi pc lv (.long y :: .long x :: st) k := by
  obtain ⟨p, l, e, R, s, m, args, below, meth, c, D, cy, A, Z⟩ := X
  obtain ⟨hx, hb, hml, hown, hts, hK, hA, hlk, hz⟩ := cx
  intro h r h' c0 n0 c1 n1 hk e1 e2 H locs ls hH hS hl
  exact lv_lor hx hb hd (kk h r h' c0 n0 c1 n1 hk e1 e2 H locs ls hH hS hl)
theorem sm_lxor (cx : Cx X cc own nL) {x y : Int64} (hd : decode cc pc = .ok (.lxor, 1)) (kk : Sim X nL Fi (pc + 1) lv (.long (x ^^^ y) :: st) k) : Sim X nL Fi pc lv (.long y :: .long x :: st) k := by
  obtain ⟨p, l, e, R, s, m, args, below, meth, c, D, cy, A, Z⟩ := X
  obtain ⟨hx, hb, hml, hown, hts, hK, hA, hlk, hz⟩ := cx
  intro h r h' c0 n0 c1 n1 hk e1 e2 H locs ls hH hS hl
  exact lv_lxor hx hb hd (kk h r h' c0 n0 c1 n1 hk e1 e2 H locs ls hH hS hl)
theorem sm_idiv (cx : Cx X cc own nL) {x y : Int32} (hd : decode cc pc = .ok (.idiv, 1)) (hne : ¬ y = 0) (kk : Sim X nL Fi (pc + 1) lv (.int (x / y) :: st) k) : Sim X nL Fi pc lv (.int y :: .int x :: st) k := by
  obtain ⟨p, l, e, R, s, m, args, below, meth, c, D, cy, A, Z⟩ := X
  obtain ⟨hx, hb, hml, hown, hts, hK, hA, hlk, hz⟩ := cx
  intro h r h' c0 n0 c1 n1 hk e1 e2 H locs ls hH hS hl
  exact lv_idiv hx hb hd hne (kk h r h' c0 n0 c1 n1 hk e1 e2 H locs ls hH hS hl)
theorem sm_irem (cx : Cx X cc own nL) {x y : Int32} (hd : decode cc pc = .ok (.irem, 1)) (hne : ¬ y = 0) (kk : Sim X nL Fi (pc + 1) lv (.int (x - x / y * y) :: st) k) : Sim X nL Fi pc lv (.int y :: .int x :: st) k := by
  obtain ⟨p, l, e, R, s, m, args, below, meth, c, D, cy, A, Z⟩ := X
  obtain ⟨hx, hb, hml, hown, hts, hK, hA, hlk, hz⟩ := cx
  intro h r h' c0 n0 c1 n1 hk e1 e2 H locs ls hH hS hl
  exact lv_irem hx hb hd hne (kk h r h' c0 n0 c1 n1 hk e1 e2 H locs ls hH hS hl)
theorem sm_ineg (cx : Cx X cc own nL) {x : Int32} (hd : decode cc pc = .ok (.ineg, 1)) (kk : Sim X nL Fi (pc + 1) lv (.int (-x) :: st) k) : Sim X nL Fi pc lv (.int x :: st) k := by
  obtain ⟨p, l, e, R, s, m, args, below, meth, c, D, cy, A, Z⟩ := X
  obtain ⟨hx, hb, hml, hown, hts, hK, hA, hlk, hz⟩ := cx
  intro h r h' c0 n0 c1 n1 hk e1 e2 H locs ls hH hS hl
  exact lv_ineg hx hb hd (kk h r h' c0 n0 c1 n1 hk e1 e2 H locs ls hH hS hl)
def jSh (x y : Int32) : Int32 := (x.toUInt32 >>> (y.toUInt32 &&& Int32.toUInt32 31)).toInt32
def jSL (x : Int64) (y : Int32) : Int64 := (x.toUInt64 >>> (y.toInt64.toUInt64 &&& Int64.toUInt64 63)).toInt64
def jLL (x : Int64) (y : Int32) : Int64 := x <<< (y.toInt64 &&& 63)
theorem sm_ishl (cx : Cx X cc own nL) {x y : Int32} (hd : decode cc pc = .ok (.ishl, 1)) (kk : Sim X nL Fi (pc + 1) lv (.int (x <<< (y &&& 31)) :: st) k) : Sim X nL Fi pc lv (.int y :: .int x :: st) k := by
  obtain ⟨p, l, e, R, s, m, args, below, meth, c, D, cy, A, Z⟩ := X
  obtain ⟨hx, hb, hml, hown, hts, hK, hA, hlk, hz⟩ := cx
  intro h r h' c0 n0 c1 n1 hk e1 e2 H locs ls hH hS hl
  exact lv_ishl hx hb hd (kk h r h' c0 n0 c1 n1 hk e1 e2 H locs ls hH hS hl)
theorem sm_ishr (cx : Cx X cc own nL) {x y : Int32} (hd : decode cc pc = .ok (.ishr, 1)) (kk : Sim X nL Fi (pc + 1) lv (.int (x >>> (y &&& 31)) :: st) k) : Sim X nL Fi pc lv (.int y :: .int x :: st) k := by
  obtain ⟨p, l, e, R, s, m, args, below, meth, c, D, cy, A, Z⟩ := X
  obtain ⟨hx, hb, hml, hown, hts, hK, hA, hlk, hz⟩ := cx
  intro h r h' c0 n0 c1 n1 hk e1 e2 H locs ls hH hS hl
  exact lv_ishr hx hb hd (kk h r h' c0 n0 c1 n1 hk e1 e2 H locs ls hH hS hl)
theorem sm_iushr (cx : Cx X cc own nL) {x y : Int32} (hd : decode cc pc = .ok (.iushr, 1)) (kk : Sim X nL Fi (pc + 1) lv (.int (jSh x y) :: st) k) : Sim X nL Fi pc lv (.int y :: .int x :: st) k := by
  obtain ⟨p, l, e, R, s, m, args, below, meth, c, D, cy, A, Z⟩ := X
  obtain ⟨hx, hb, hml, hown, hts, hK, hA, hlk, hz⟩ := cx
  intro h r h' c0 n0 c1 n1 hk e1 e2 H locs ls hH hS hl
  exact lv_iushr hx hb hd rfl (kk h r h' c0 n0 c1 n1 hk e1 e2 H locs ls hH hS hl)
theorem sm_lushr (cx : Cx X cc own nL) {x : Int64} {y : Int32} (hd : decode cc pc = .ok (.lushr, 1)) (kk : Sim X nL Fi (pc + 1) lv (.long (jSL x y) :: st) k) : Sim X nL Fi pc lv (.int y :: .long x :: st) k := by
  obtain ⟨p, l, e, R, s, m, args, below, meth, c, D, cy, A, Z⟩ := X
  obtain ⟨hx, hb, hml, hown, hts, hK, hA, hlk, hz⟩ := cx
  intro h r h' c0 n0 c1 n1 hk e1 e2 H locs ls hH hS hl
  exact lv_lushr hx hb hd rfl (kk h r h' c0 n0 c1 n1 hk e1 e2 H locs ls hH hS hl)
theorem sm_lshl (cx : Cx X cc own nL) {x : Int64} {y : Int32} (hd : decode cc pc = .ok (.lshl, 1)) (kk : Sim X nL Fi (pc + 1) lv (.long (jLL x y) :: st) k) : Sim X nL Fi pc lv (.int y :: .long x :: st) k := by
  obtain ⟨p, l, e, R, s, m, args, below, meth, c, D, cy, A, Z⟩ := X
  obtain ⟨hx, hb, hml, hown, hts, hK, hA, hlk, hz⟩ := cx
  intro h r h' c0 n0 c1 n1 hk e1 e2 H locs ls hH hS hl
  exact lv_lshl hx hb hd rfl (kk h r h' c0 n0 c1 n1 hk e1 e2 H locs ls hH hS hl)
theorem sm_i2l (cx : Cx X cc own nL) {x : Int32} (hd : decode cc pc = .ok (.i2l, 1)) (kk : Sim X nL Fi (pc + 1) lv (.long x.toInt64 :: st) k) : Sim X nL Fi pc lv (.int x :: st) k := by
  obtain ⟨p, l, e, R, s, m, args, below, meth, c, D, cy, A, Z⟩ := X
  obtain ⟨hx, hb, hml, hown, hts, hK, hA, hlk, hz⟩ := cx
  intro h r h' c0 n0 c1 n1 hk e1 e2 H locs ls hH hS hl
  exact lv_i2l hx hb hd rfl (kk h r h' c0 n0 c1 n1 hk e1 e2 H locs ls hH hS hl)
theorem sm_l2i (cx : Cx X cc own nL) {x : Int64} (hd : decode cc pc = .ok (.l2i, 1)) (kk : Sim X nL Fi (pc + 1) lv (.int x.toInt32 :: st) k) : Sim X nL Fi pc lv (.long x :: st) k := by
  obtain ⟨p, l, e, R, s, m, args, below, meth, c, D, cy, A, Z⟩ := X
  obtain ⟨hx, hb, hml, hown, hts, hK, hA, hlk, hz⟩ := cx
  intro h r h' c0 n0 c1 n1 hk e1 e2 H locs ls hH hS hl
  exact lv_l2i hx hb hd rfl (kk h r h' c0 n0 c1 n1 hk e1 e2 H locs ls hH hS hl)
theorem sm_i2b (cx : Cx X cc own nL) {x : Int32} (hd : decode cc pc = .ok (.i2b, 1)) (kk : Sim X nL Fi (pc + 1) lv (.int x.toInt8.toInt32 :: st) k) : Sim X nL Fi pc lv (.int x :: st) k := by
  obtain ⟨p, l, e, R, s, m, args, below, meth, c, D, cy, A, Z⟩ := X
  obtain ⟨hx, hb, hml, hown, hts, hK, hA, hlk, hz⟩ := cx
  intro h r h' c0 n0 c1 n1 hk e1 e2 H locs ls hH hS hl
  exact lv_i2b hx hb hd rfl (kk h r h' c0 n0 c1 n1 hk e1 e2 H locs ls hH hS hl)
theorem sm_i2c (cx : Cx X cc own nL) {x : Int32} (hd : decode cc pc = .ok (.i2c, 1)) (kk : Sim X nL Fi (pc + 1) lv (.int (x.toUInt32 % 65536).toInt32 :: st) k) : Sim X nL Fi pc lv (.int x :: st) k := by
  obtain ⟨p, l, e, R, s, m, args, below, meth, c, D, cy, A, Z⟩ := X
  obtain ⟨hx, hb, hml, hown, hts, hK, hA, hlk, hz⟩ := cx
  intro h r h' c0 n0 c1 n1 hk e1 e2 H locs ls hH hS hl
  exact lv_i2c hx hb hd rfl (kk h r h' c0 n0 c1 n1 hk e1 e2 H locs ls hH hS hl)
theorem sm_lcmp (cx : Cx X cc own nL) {x y : Int64} (hd : decode cc pc = .ok (.lcmp, 1)) (kk : Sim X nL Fi (pc + 1) lv (.int (lg_cmp x y) :: st) k) : Sim X nL Fi pc lv (.long y :: .long x :: st) k := by
  obtain ⟨p, l, e, R, s, m, args, below, meth, c, D, cy, A, Z⟩ := X
  obtain ⟨hx, hb, hml, hown, hts, hK, hA, hlk, hz⟩ := cx
  intro h r h' c0 n0 c1 n1 hk e1 e2 H locs ls hH hS hl
  exact W.lcmp hx hb hd (kk h r h' c0 n0 c1 n1 hk e1 e2 H locs ls hH hS hl)
theorem sm_dup (cx : Cx X cc own nL) {v : Value} (hd : decode cc pc = .ok (.dup, 1)) (hc : v.category = 1) (kk : Sim X nL Fi (pc + 1) lv (v :: v :: st) k) : Sim X nL Fi pc lv (v :: st) k := by
  obtain ⟨p, l, e, R, s, m, args, below, meth, c, D, cy, A, Z⟩ := X
  obtain ⟨hx, hb, hml, hown, hts, hK, hA, hlk, hz⟩ := cx
  intro h r h' c0 n0 c1 n1 hk e1 e2 H locs ls hH hS hl
  exact lv_dup hx hb hd hc (kk h r h' c0 n0 c1 n1 hk e1 e2 H locs ls hH hS hl)
theorem sm_pop (cx : Cx X cc own nL) {v : Value} (hd : decode cc pc = .ok (.pop, 1)) (hc : v.category = 1) (kk : Sim X nL Fi (pc + 1) lv st k) : Sim X nL Fi pc lv (v :: st) k := by
  obtain ⟨p, l, e, R, s, m, args, below, meth, c, D, cy, A, Z⟩ := X
  obtain ⟨hx, hb, hml, hown, hts, hK, hA, hlk, hz⟩ := cx
  intro h r h' c0 n0 c1 n1 hk e1 e2 H locs ls hH hS hl
  exact lv_pop hx hb hd hc (kk h r h' c0 n0 c1 n1 hk e1 e2 H locs ls hH hS hl)
theorem sm_dupx1 (cx : Cx X cc own nL) {v w : Value} (hd : decode cc pc = .ok (.dup_x1, 1)) (hc : v.category = 1) (hw : w.category = 1) (kk : Sim X nL Fi (pc + 1) lv (v :: w :: v :: st) k) : Sim X nL Fi pc lv (v :: w :: st) k := by
  obtain ⟨p, l, e, R, s, m, args, below, meth, c, D, cy, A, Z⟩ := X
  obtain ⟨hx, hb, hml, hown, hts, hK, hA, hlk, hz⟩ := cx
  intro h r h' c0 n0 c1 n1 hk e1 e2 H locs ls hH hS hl
  exact lv_dup_x1 hx hb hd hc hw (kk h r h' c0 n0 c1 n1 hk e1 e2 H locs ls hH hS hl)
theorem sm_dup2 (cx : Cx X cc own nL) {v w : Value} (hd : decode cc pc = .ok (.dup2, 1)) (hc : v.category = 1) (hw : w.category = 1) (kk : Sim X nL Fi (pc + 1) lv (v :: w :: v :: w :: st) k) : Sim X nL Fi pc lv (v :: w :: st) k := by
  obtain ⟨p, l, e, R, s, m, args, below, meth, c, D, cy, A, Z⟩ := X
  obtain ⟨hx, hb, hml, hown, hts, hK, hA, hlk, hz⟩ := cx
  intro h r h' c0 n0 c1 n1 hk e1 e2 H locs ls hH hS hl
  exact lv_dup2_11 hx hb hd hc hw (kk h r h' c0 n0 c1 n1 hk e1 e2 H locs ls hH hS hl)
theorem sm_goto (cx : Cx X cc own nL) {off : Int} {tgt : Nat} (hd : decode cc pc = .ok (.goto off, 3)) (ht : (pc : Int) + off = (tgt : Int)) (kk : Sim X nL Fi tgt lv st k) : Sim X nL Fi pc lv st k := by
  obtain ⟨p, l, e, R, s, m, args, below, meth, c, D, cy, A, Z⟩ := X
  obtain ⟨hx, hb, hml, hown, hts, hK, hA, hlk, hz⟩ := cx
  intro h r h' c0 n0 c1 n1 hk e1 e2 H locs ls hH hS hl
  exact lv_goto hx hb hd ht (kk h r h' c0 n0 c1 n1 hk e1 e2 H locs ls hH hS hl)
/-- fewer locals are spoken of -/
theorem sm_lv (ks : List Nat) {lv' : List (Nat × Value)} (hp : lv_pick lv ks = lv') (kk : Sim X nL Fi pc lv' st k) : Sim X nL Fi pc lv st k := by
  obtain ⟨p, l, e, R, s, m, args, below, meth, c, D, cy, A, Z⟩ := X
  intro h r h' c0 n0 c1 n1 hk e1 e2 H locs ls hH hS hl
  exact kk h r h' c0 n0 c1 n1 hk e1 e2 H locs ls hH hS (lv_sub hl ks hp)
theorem sm_mf : Sim X nL Fi pc lv st mf := by
  obtain ⟨p, l, e, R, s, m, args, below, meth, c, D, cy, A, Z⟩ := X
  intro h r h' c0 n0 c1 n1 hk
  cases hk
theorem sm_eq {k' : Mo α} (he : k = k') (kk : Sim X nL Fi pc lv st k') : Sim X nL Fi pc lv st k := he ▸ kk
theorem sm_if_ne (cx : Cx X cc own nL) {x : Int32} {off : Int} {tgt : Nat} {k1 k2 : Mo α} (hd : decode cc pc = .ok (.ifCond .ne off, 3)) (ht : (pc : Int) + off = (tgt : Int)) (kt : Sim X nL Fi tgt lv st k2) (kf : Sim X nL Fi (pc + 3) lv st k1) : Sim X nL Fi pc lv (.int x :: st) (if x = 0 then k1 else k2) := by
  obtain ⟨p, l, e, R, s, m, args, below, meth, c, D, cy, A, Z⟩ := X
  obtain ⟨hx, hb, hml, hown, hts, hK, hA, hlk, hz⟩ := cx
  intro h r h' c0 n0 c1 n1 hk e1 e2 H locs ls hH hS hl
  refine lv_if_ne hx hb hd ht (fun hc => ?_) (fun hc => ?_)
  · rw [if_neg hc] at hk
    exact kt h r h' c0 n0 c1 n1 hk e1 e2 H locs ls hH hS hl
  · first | rw [if_pos hc] at hk | rw [if_pos (Decidable.not_not.mp hc)] at hk
    exact kf h r h' c0 n0 c1 n1 hk e1 e2 H locs ls hH hS hl
theorem sm_icmp_ne (cx : Cx X cc own nL) {x y : Int32} {off : Int} {tgt : Nat} {k1 k2 : Mo α} (hd : decode cc pc = .ok (.if_icmp .ne off, 3)) (ht : (pc : Int) + off = (tgt : Int)) (kt : Sim X nL Fi tgt lv st k2) (kf : Sim X nL Fi (pc + 3) lv st k1) : Sim X nL Fi pc lv (.int y :: .int x :: st) (if x = y then k1 else k2) := by
  obtain ⟨p, l, e, R, s, m, args, below, meth, c, D, cy, A, Z⟩ := X
  obtain ⟨hx, hb, hml, hown, hts, hK, hA, hlk, hz⟩ := cx
  intro h r h' c0 n0 c1 n1 hk e1 e2 H locs ls hH hS hl
  refine lv_icmp_ne hx hb hd ht (fun hc => ?_) (fun hc => ?_)
  · rw [if_neg hc] at hk
    exact kt h r h' c0 n0 c1 n1 hk e1 e2 H locs ls hH hS hl
  · first | rw [if_pos hc] at hk | rw [if_pos (Decidable.not_not.mp hc)] at hk
    exact kf h r h' c0 n0 c1 n1 hk e1 e2 H locs ls hH hS hl
theorem sm_acmp_ne (cx : Cx X cc own nL) {x y : Option Nat} {off : Int} {tgt : Nat} {k1 k2 : Mo α} (hd : decode cc pc = .ok (.if_acmp .ne off, 3)) (ht : (pc : Int) + off = (tgt : Int)) (kt : Sim X nL Fi tgt lv st k2) (kf : Sim X nL Fi (pc + 3) lv st k1) : Sim X nL Fi pc lv (va_rf y :: va_rf x :: st) (if x = y then k1 else k2) := by
  obtain ⟨p, l, e, R, s, m, args, below, meth, c, D, cy, A, Z⟩ := X
  obtain ⟨hx, hb, hml, hown, hts, hK, hA, hlk, hz⟩ := cx
  intro h r h' c0 n0 c1 n1 hk e1 e2 H locs ls hH hS hl
  refine lv_acmp_ne hx hb hd ht (fun hc => ?_) (fun hc => ?_)
  · rw [if_neg hc] at hk
    exact kt h r h' c0 n0 c1 n1 hk e1 e2 H locs ls hH hS hl
  · first | rw [if_pos hc] at hk | rw [if_pos (Decidable.not_not.mp hc)] at hk
    exact kf h r h' c0 n0 c1 n1 hk e1 e2 H locs ls hH hS hl
theorem sm_if_eq (cx : Cx X cc own nL) {x : Int32} {off : Int} {tgt : Nat} {k1 k2 : Mo α} (hd : decode cc pc = .ok (.ifCond .eq off, 3)) (ht : (pc : Int) + off = (tgt : Int)) (kt : Sim X nL Fi tgt lv st k1) (kf : Sim X nL Fi (pc + 3) lv st k2) : Sim X nL Fi pc lv (.int x :: st) (if x = 0 then k1 else k2) := by
  obtain ⟨p, l, e, R, s, m, args, below, meth, c, D, cy, A, Z⟩ := X
  obtain ⟨hx, hb, hml, hown, hts, hK, hA, hlk, hz⟩ := cx
  intro h r h' c0 n0 c1 n1 hk e1 e2 H locs ls hH hS hl
  refine lv_if_eq hx hb hd ht (fun hc => ?_) (fun hc => ?_)
  · first | rw [if_pos hc] at hk | rw [if_neg hc] at hk
    exact kt h r h' c0 n0 c1 n1 hk e1 e2 H locs ls hH hS hl
  · first | rw [if_neg hc] at hk | rw [if_pos hc] at hk
    exact kf h r h' c0 n0 c1 n1 hk e1 e2 H locs ls hH hS hl
theorem sm_icmp_eq (cx : Cx X cc own nL) {x y : Int32} {off : Int} {tgt : Nat} {k1 k2 : Mo α} (hd : decode cc pc = .ok (.if_icmp .eq off, 3)) (ht : (pc : Int) + off = (tgt : Int)) (kt : Sim X nL Fi tgt lv st k1) (kf : Sim X nL Fi (pc + 3) lv st k2) : Sim X nL Fi pc lv (.int y :: .int x :: st) (if x = y then k1 else k2) := by
  obtain ⟨p, l, e, R, s, m, args, below, meth, c, D, cy, A, Z⟩ := X
  obtain ⟨hx, hb, hml, hown, hts, hK, hA, hlk, hz⟩ := cx
  intro h r h' c0 n0 c1 n1 hk e1 e2 H locs ls hH hS hl
  refine lv_icmp_eq hx hb hd ht (fun hc => ?_) (fun hc => ?_)
  · first | rw [if_pos hc] at hk | rw [if_neg hc] at hk
    exact kt h r h' c0 n0 c1 n1 hk e1 e2 H locs ls hH hS hl
  · first | rw [if_neg hc] at hk | rw [if_pos hc] at hk
    exact kf h r h' c0 n0 c1 n1 hk e1 e2 H locs ls hH hS hl
theorem sm_if_lt (cx : Cx X cc own nL) {x : Int32} {off : Int} {tgt : Nat} {k1 k2 : Mo α} (hd : decode cc pc = .ok (.ifCond .lt off, 3)) (ht : (pc : Int) + off = (tgt : Int)) (kt : Sim X nL Fi tgt lv st k1) (kf : Sim X nL Fi (pc + 3) lv st k2) : Sim X nL Fi pc lv (.int x :: st) (if x < 0 then k1 else k2) := by
  obtain ⟨p, l, e, R, s, m, args, below, meth, c, D, cy, A, Z⟩ := X
  obtain ⟨hx, hb, hml, hown, hts, hK, hA, hlk, hz⟩ := cx
  intro h r h' c0 n0 c1 n1 hk e1 e2 H locs ls hH hS hl
  refine lv_if_lt hx hb hd ht (fun hc => ?_) (fun hc => ?_)
  · first | rw [if_pos hc] at hk | rw [if_neg hc] at hk
    exact kt h r h' c0 n0 c1 n1 hk e1 e2 H locs ls hH hS hl
  · first | rw [if_neg hc] at hk | rw [if_pos hc] at hk
    exact kf h r h' c0 n0 c1 n1 hk e1 e2 H locs ls hH hS hl
theorem sm_icmp_lt (cx : Cx X cc own nL) {x y : Int32} {off : Int} {tgt : Nat} {k1 k2 : Mo α} (hd : decode cc pc = .ok (.if_icmp .lt off, 3)) (ht : (pc : Int) + off = (tgt : Int)) (kt : Sim X nL Fi tgt lv st k1) (kf : Sim X nL Fi (pc + 3) lv st k2) : Sim X nL Fi pc lv (.int y :: .int x :: st) (if x < y then k1 else k2) := by
  obtain ⟨p, l, e, R, s, m, args, below, meth, c, D, cy, A, Z⟩ := X
  obtain ⟨hx, hb, hml, hown, hts, hK, hA, hlk, hz⟩ := cx
  intro h r h' c0 n0 c1 n1 hk e1 e2 H locs ls hH hS hl
  refine lv_icmp_lt hx hb hd ht (fun hc => ?_) (fun hc => ?_)
  · first | rw [if_pos hc] at hk | rw [if_neg hc] at hk
    exact kt h r h' c0 n0 c1 n1 hk e1 e2 H locs ls hH hS hl
  · first | rw [if_neg hc] at hk | rw [if_pos hc] at hk
    exact kf h r h' c0 n0 c1 n1 hk e1 e2 H locs ls hH hS hl
theorem sm_if_ge (cx : Cx X cc own nL) {x : Int32} {off : Int} {tgt : Nat} {k1 k2 : Mo α} (hd : decode cc pc = .ok (.ifCond .ge off, 3)) (ht : (pc : Int) + off = (tgt : Int)) (kt : Sim X nL Fi tgt lv st k1) (kf : Sim X nL Fi (pc + 3) lv st k2) : Sim X nL Fi pc lv (.int x :: st) (if 0 ≤ x then k1 else k2) := by
  obtain ⟨p, l, e, R, s, m, args, below, meth, c, D, cy, A, Z⟩ := X
  obtain ⟨hx, hb, hml, hown, hts, hK, hA, hlk, hz⟩ := cx
  intro h r h' c0 n0 c1 n1 hk e1 e2 H locs ls hH hS hl
  refine lv_if_ge hx hb hd ht (fun hc => ?_) (fun hc => ?_)
  · first | rw [if_pos hc] at hk | rw [if_neg hc] at hk
    exact kt h r h' c0 n0 c1 n1 hk e1 e2 H locs ls hH hS hl
  · first | rw [if_neg hc] at hk | rw [if_pos hc] at hk
    exact kf h r h' c0 n0 c1 n1 hk e1 e2 H locs ls hH hS hl
theorem sm_icmp_ge (cx : Cx X cc own nL) {x y : Int32} {off : Int} {tgt : Nat} {k1 k2 : Mo α} (hd : decode cc pc = .ok (.if_icmp .ge off, 3)) (ht : (pc : Int) + off = (tgt : Int)) (kt : Sim X nL Fi tgt lv st k1) (kf : Sim X nL Fi (pc + 3) lv st k2) : Sim X nL Fi pc lv (.int y :: .int x :: st) (if y ≤ x then k1 else k2) := by
  obtain ⟨p, l, e, R, s, m, args, below, meth, c, D, cy, A, Z⟩ := X
  obtain ⟨hx, hb, hml, hown, hts, hK, hA, hlk, hz⟩ := cx
  intro h r h' c0 n0 c1 n1 hk e1 e2 H locs ls hH hS hl
  refine lv_icmp_ge hx hb hd ht (fun hc => ?_) (fun hc => ?_)
  · first | rw [if_pos hc] at hk | rw [if_neg hc] at hk
    exact kt h r h' c0 n0 c1 n1 hk e1 e2 H locs ls hH hS hl
  · first | rw [if_neg hc] at hk | rw [if_pos hc] at hk
    exact kf h r h' c0 n0 c1 n1 hk e1 e2 H locs ls hH hS hl
theorem sm_if_gt (cx : Cx X cc own nL) {x : Int32} {off : Int} {tgt : Nat} {k1 k2 : Mo α} (hd : decode cc pc = .ok (.ifCond .gt off, 3)) (ht : (pc : Int) + off = (tgt : Int)) (kt : Sim X nL Fi tgt lv st k1) (kf : Sim X nL Fi (pc + 3) lv st k2) : Sim X nL Fi pc lv (.int x :: st) (if 0 < x then k1 else k2) := by
  obtain ⟨p, l, e, R, s, m, args, below, meth, c, D, cy, A, Z⟩ := X
  obtain ⟨hx, hb, hml, hown, hts, hK, hA, hlk, hz⟩ := cx
  intro h r h' c0 n0 c1 n1 hk e1 e2 H locs ls hH hS hl
  refine lv_if_gt hx hb hd ht (fun hc => ?_) (fun hc => ?_)
  · first | rw [if_pos hc] at hk | rw [if_neg hc] at hk
    exact kt h r h' c0 n0 c1 n1 hk e1 e2 H locs ls hH hS hl
  · first | rw [if_neg hc] at hk | rw [if_pos hc] at hk
    exact kf h r h' c0 n0 c1 n1 hk e1 e2 H locs ls hH hS hl
theorem sm_icmp_gt (cx : Cx X cc own nL) {x y : Int32} {off : Int} {tgt : Nat} {k1 k2 : Mo α} (hd : decode cc pc = .ok (.if_icmp .gt off, 3)) (ht : (pc : Int) + off = (tgt : Int)) (kt : Sim X nL Fi tgt lv st k1) (kf : Sim X nL Fi (pc + 3) lv st k2) : Sim X nL Fi pc lv (.int y :: .int x :: st) (if y < x then k1 else k2) := by
  obtain ⟨p, l, e, R, s, m, args, below, meth, c, D, cy, A, Z⟩ := X
  obtain ⟨hx, hb, hml, hown, hts, hK, hA, hlk, hz⟩ := cx
  intro h r h' c0 n0 c1 n1 hk e1 e2 H locs ls hH hS hl
  refine lv_icmp_gt hx hb hd ht (fun hc => ?_) (fun hc => ?_)
  · first | rw [if_pos hc] at hk | rw [if_neg hc] at hk
    exact kt h r h' c0 n0 c1 n1 hk e1 e2 H locs ls hH hS hl
  · first | rw [if_neg hc] at hk | rw [if_pos hc] at hk
    exact kf h r h' c0 n0 c1 n1 hk e1 e2 H locs ls hH hS hl
theorem sm_if_le (cx : Cx X cc own nL) {x : Int32} {off : Int} {tgt : Nat} {k1 k2 : Mo α} (hd : decode cc pc = .ok (.ifCond .le off, 3)) (ht : (pc : Int) + off = (tgt : Int)) (kt : Sim X nL Fi tgt lv st k1) (kf : Sim X nL Fi (pc + 3) lv st k2) : Sim X nL Fi pc lv (.int x :: st) (if x ≤ 0 then k1 else k2) := by
  obtain ⟨p, l, e, R, s, m, args, below, meth, c, D, cy, A, Z⟩ := X
  obtain ⟨hx, hb, hml, hown, hts, hK, hA, hlk, hz⟩ := cx
  intro h r h' c0 n0 c1 n1 hk e1 e2 H locs ls hH hS hl
  refine lv_if_le hx hb hd ht (fun hc => ?_) (fun hc => ?_)
  · first | rw [if_pos hc] at hk | rw [if_neg hc] at hk
    exact kt h r h' c0 n0 c1 n1 hk e1 e2 H locs ls hH hS hl
  · first | rw [if_neg hc] at hk | rw [if_pos hc] at hk
    exact kf h r h' c0 n0 c1 n1 hk e1 e2 H locs ls hH hS hl
theorem sm_icmp_le (cx : Cx X cc own nL) {x y : Int32} {off : Int} {tgt : Nat} {k1 k2 : Mo α} (hd : decode cc pc = .ok (.if_icmp .le off, 3)) (ht : (pc : Int) + off = (tgt : Int)) (kt : Sim X nL Fi tgt lv st k1) (kf : Sim X nL Fi (pc + 3) lv st k2) : Sim X nL Fi pc lv (.int y :: .int x :: st) (if x ≤ y then k1 else k2) := by
  obtain ⟨p, l, e, R, s, m, args, below, meth, c, D, cy, A, Z⟩ := X
  obtain ⟨hx, hb, hml, hown, hts, hK, hA, hlk, hz⟩ := cx
  intro h r h' c0 n0 c1 n1 hk e1 e2 H locs ls hH hS hl
  refine lv_icmp_le hx hb hd ht (fun hc => ?_) (fun hc => ?_)
  · first | rw [if_pos hc] at hk | rw [if_neg hc] at hk
    exact kt h r h' c0 n0 c1 n1 hk e1 e2 H locs ls hH hS hl
  · first | rw [if_neg hc] at hk | rw [if_pos hc] at hk
    exact kf h r h' c0 n0 c1 n1 hk e1 e2 H locs ls hH hS hl
theorem sm_acmp_eq (cx : Cx X cc own nL) {x y : Option Nat} {off : Int} {tgt : Nat} {k1 k2 : Mo α} (hd : decode cc pc = .ok (.if_acmp .eq off, 3)) (ht : (pc : Int) + off = (tgt : Int)) (kt : Sim X nL Fi tgt lv st k1) (kf : Sim X nL Fi (pc + 3) lv st k2) : Sim X nL Fi pc lv (va_rf y :: va_rf x :: st) (if x = y then k1 else k2) := by
  obtain ⟨p, l, e, R, s, m, args, below, meth, c, D, cy, A, Z⟩ := X
  obtain ⟨hx, hb, hml, hown, hts, hK, hA, hlk, hz⟩ := cx
  intro h r h' c0 n0 c1 n1 hk e1 e2 H locs ls hH hS hl
  refine lv_acmp_eq hx hb hd ht (fun hc => ?_) (fun hc => ?_)
  · first | rw [if_pos hc] at hk | rw [if_neg hc] at hk
    exact kt h r h' c0 n0 c1 n1 hk e1 e2 H locs ls hH hS hl
  · first | rw [if_neg hc] at hk | rw [if_pos hc] at hk
    exact kf h r h' c0 n0 c1 n1 hk e1 e2 H locs ls hH hS hl
theorem sm_ifnull (cx : Cx X cc own nL) {x : Option Nat} {off : Int} {tgt : Nat} {k1 k2 : Mo α} (hd : decode cc pc = .ok (.ifnull off, 3)) (ht : (pc : Int) + off = (tgt : Int)) (kt : Sim X nL Fi tgt lv st k1) (kf : Sim X nL Fi (pc + 3) lv st k2) : Sim X nL Fi pc lv (va_rf x :: st) (if x = none then k1 else k2) := by
  obtain ⟨p, l, e, R, s, m, args, below, meth, c, D, cy, A, Z⟩ := X
  obtain ⟨hx, hb, hml, hown, hts, hK, hA, hlk, hz⟩ := cx
  intro h r h' c0 n0 c1 n1 hk e1 e2 H locs ls hH hS hl
  cases x with
  | none => rw [if_pos rfl] at hk; exact lv_ifnullN hx hb hd ht (kt h r h' c0 n0 c1 n1 hk e1 e2 H locs ls hH hS hl)
  | some a => rw [if_neg (by simp)] at hk; exact lv_ifnull hx hb hd (kf h r h' c0 n0 c1 n1 hk e1 e2 H locs ls hH hS hl)
theorem sm_ifnonnull (cx : Cx X cc own nL) {x : Option Nat} {off : Int} {tgt : Nat} {k1 k2 : Mo α} (hd : decode cc pc = .ok (.ifnonnull off, 3)) (ht : (pc : Int) + off = (tgt : Int)) (kt : Sim X nL Fi tgt lv st k2) (kf : Sim X nL Fi (pc + 3) lv st k1) : Sim X nL Fi pc lv (va_rf x :: st) (if x = none then k1 else k2) := by
  obtain ⟨p, l, e, R, s, m, args, below, meth, c, D, cy, A, Z⟩ := X
  obtain ⟨hx, hb, hml, hown, hts, hK, hA, hlk, hz⟩ := cx
  intro h r h' c0 n0 c1 n1 hk e1 e2 H locs ls hH hS hl
  cases x with
  | none => rw [if_pos rfl] at hk; exact lv_ifnonnullN hx hb hd (kf h r h' c0 n0 c1 n1 hk e1 e2 H locs ls hH hS hl)
  | some a => rw [if_neg (by simp)] at hk; exact lv_ifnonnull hx hb hd ht (kt h r h' c0 n0 c1 n1 hk e1 e2 H locs ls hH hS hl)
end LY
