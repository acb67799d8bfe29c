/-! ===== BEGIN words of one list among another's, by their places ===== -/
theorem goodIn_r {big : List Cond} (ws : List Cond) (ps : List Nat) (hp : ws = ps.filterMap (fun i => big[i]?)) (h : ws.all goodWord = true) : GoodIn big ws := by
  intro w hw
  have h1 := List.all_eq_true.mp h w hw
  rw [hp] at hw
  obtain ⟨i, -, hi⟩ := List.mem_filterMap.mp hw
  have hm : w ∈ big := by first | exact List.mem_of_getElem? hi | exact List.getElem?_mem hi
  exact ⟨hm, good_of_word h1⟩
theorem goodIn_app {big a b : List Cond} (ha : GoodIn big a) (hb : GoodIn big b) : GoodIn big (a ++ b) := fun w h => (List.mem_append.mp h).elim (ha w) (hb w)
theorem goodIn_ca {big a b : List Cond} {c : Cond} (ha : GoodIn big (c :: a)) (hb : GoodIn big b) : GoodIn big (c :: (a ++ b)) := fun w h => (List.mem_cons.mp h).elim (fun e => ha w (List.mem_cons.mpr (Or.inl e))) (fun h => (List.mem_append.mp h).elim (fun h => ha w (List.mem_cons.mpr (Or.inr h))) (hb w))
theorem goodIn_sub {big ws : List Cond} (hm : ∀ w ∈ ws, w ∈ big) (h : ws.all goodWord = true) : GoodIn big ws := fun w hw => ⟨hm w hw, good_of_word (List.all_eq_true.mp h w hw)⟩
/-! ===== END ===== -/

/-! ===== BEGIN printed: names, fields, word lists, decode rows ===== -/
def RX0 : String := "PolicyTree$Bundle"
def TX0 : u_T := fun k => match k with
  | 0 => ("PolicyTree$Bundle", "values", "[I", true)
  | _ => ("PolicyTree$Bundle", "told", "I", false)
def tyX0 : Nat → FieldType := fun k => match k with
  | 0 => .array .int
  | _ => .int
abbrev wsX00 : List Cond := u_ws RX0 TX0 2
theorem nmX0 : ∀ a, a < 2 → ∀ b, b < 2 → a ≠ b → (TX0 a).2.1 ≠ (TX0 b).2.1 := by decide +kernel
theorem tyX0_ok : ∀ k, k < 2 → parseFieldDescriptor (TX0 k).2.2.1 = some (tyX0 k) := by decide +kernel
abbrev cX0_init : ByteArray := prog_2_method_1_code
def yX0_init : MethodName := ⟨RX0, "<init>", "()V"⟩
abbrev cX0_toldSettings : ByteArray := prog_2_method_2_code
def yX0_toldSettings : MethodName := ⟨RX0, "toldSettings", "()I"⟩
abbrev cX0_tells : ByteArray := prog_2_method_3_code
def yX0_tells : MethodName := ⟨RX0, "tells", "(I)Z"⟩
abbrev cX0_valueOf : ByteArray := prog_2_method_4_code
def yX0_valueOf : MethodName := ⟨RX0, "valueOf", "(I)I"⟩
abbrev cX0_put : ByteArray := prog_2_method_5_code
def yX0_put : MethodName := ⟨RX0, "put", "(II)Z"⟩
abbrev cX0_drop : ByteArray := prog_2_method_6_code
def yX0_drop : MethodName := ⟨RX0, "drop", "(I)Z"⟩
abbrev cX0_differs : ByteArray := prog_2_method_7_code
def yX0_differs : MethodName := ⟨RX0, "differs", "(LPolicyTree$Bundle;I)Z"⟩
def RX1 : String := "PolicyTree$Filter"
def TX1 : u_T := fun k => match k with
  | _ => ("PolicyTree$Filter", "steps", "[I", true)
def tyX1 : Nat → FieldType := fun k => match k with
  | _ => .array .int
abbrev wsX10 : List Cond := u_ws RX1 TX1 1
theorem nmX1 : ∀ a, a < 1 → ∀ b, b < 1 → a ≠ b → (TX1 a).2.1 ≠ (TX1 b).2.1 := by decide +kernel
theorem tyX1_ok : ∀ k, k < 1 → parseFieldDescriptor (TX1 k).2.2.1 = some (tyX1 k) := by decide +kernel
abbrev cX1_init : ByteArray := prog_3_method_1_code
def yX1_init : MethodName := ⟨RX1, "<init>", "([I)V"⟩
abbrev cX1_mentionedFacts : ByteArray := prog_3_method_2_code
def yX1_mentionedFacts : MethodName := ⟨RX1, "mentionedFacts", "()I"⟩
abbrev cX1_weigh : ByteArray := prog_3_method_3_code
def yX1_weigh : MethodName := ⟨RX1, "weigh", "(LPolicyTree$Standing;)J"⟩
def RX2 : String := "PolicyTree$FilterReader"
def TX2 : u_T := fun k => match k with
  | 0 => ("PolicyTree$FilterReader", "tape", "LPolicyTree$Tape;", true)
  | 1 => ("PolicyTree$FilterReader", "length", "I", false)
  | 2 => ("PolicyTree$FilterReader", "groups", "I", false)
  | 3 => ("PolicyTree$FilterReader", "nodes", "I", false)
  | 4 => ("PolicyTree$FilterReader", "at", "I", false)
  | 5 => ("PolicyTree$FilterReader", "fault", "I", false)
  | 6 => ("PolicyTree$FilterReader", "faultPlace", "I", false)
  | 7 => ("PolicyTree$FilterReader", "steps", "[I", true)
  | _ => ("PolicyTree$FilterReader", "size", "I", false)
def tyX2 : Nat → FieldType := fun k => match k with
  | 0 => .object "PolicyTree$Tape"
  | 1 => .int
  | 2 => .int
  | 3 => .int
  | 4 => .int
  | 5 => .int
  | 6 => .int
  | 7 => .array .int
  | _ => .int
abbrev wsX20 : List Cond := u_ws RX2 TX2 9
theorem nmX2 : ∀ a, a < 9 → ∀ b, b < 9 → a ≠ b → (TX2 a).2.1 ≠ (TX2 b).2.1 := by decide +kernel
theorem tyX2_ok : ∀ k, k < 9 → parseFieldDescriptor (TX2 k).2.2.1 = some (tyX2 k) := by decide +kernel
abbrev cX2_init : ByteArray := prog_4_method_1_code
def yX2_init : MethodName := ⟨RX2, "<init>", "(LPolicyTree$Tape;)V"⟩
abbrev cX2_read : ByteArray := prog_4_method_2_code
def yX2_read : MethodName := ⟨RX2, "read", "(III)I"⟩
abbrev cX2_faultPlace : ByteArray := prog_4_method_3_code
def yX2_faultPlace : MethodName := ⟨RX2, "faultPlace", "()I"⟩
abbrev cX2_filter : ByteArray := prog_4_method_4_code
def yX2_filter : MethodName := ⟨RX2, "filter", "()LPolicyTree$Filter;"⟩
abbrev cX2_readEither : ByteArray := prog_4_method_5_code
def yX2_readEither : MethodName := ⟨RX2, "readEither", "(I)V"⟩
abbrev cX2_readBoth : ByteArray := prog_4_method_6_code
def yX2_readBoth : MethodName := ⟨RX2, "readBoth", "(I)V"⟩
abbrev cX2_readOne : ByteArray := prog_4_method_7_code
def yX2_readOne : MethodName := ⟨RX2, "readOne", "(I)V"⟩
abbrev cX2_mayOpen : ByteArray := prog_4_method_8_code
def yX2_mayOpen : MethodName := ⟨RX2, "mayOpen", "(II)Z"⟩
abbrev cX2_readNumber : ByteArray := prog_4_method_9_code
def yX2_readNumber : MethodName := ⟨RX2, "readNumber", "(II)V"⟩
abbrev cX2_skipBlanks : ByteArray := prog_4_method_10_code
def yX2_skipBlanks : MethodName := ⟨RX2, "skipBlanks", "()V"⟩
abbrev cX2_takesByte : ByteArray := prog_4_method_11_code
def yX2_takesByte : MethodName := ⟨RX2, "takesByte", "(C)Z"⟩
abbrev cX2_takesWord : ByteArray := prog_4_method_12_code
def yX2_takesWord : MethodName := ⟨RX2, "takesWord", "(Ljava/lang/String;)Z"⟩
abbrev cX2_isBetween : ByteArray := prog_4_method_13_code
def yX2_isBetween : MethodName := ⟨RX2, "isBetween", "(III)Z"⟩
abbrev cX2_addStep : ByteArray := prog_4_method_14_code
def yX2_addStep : MethodName := ⟨RX2, "addStep", "(II)V"⟩
abbrev cX2_blame : ByteArray := prog_4_method_15_code
def yX2_blame : MethodName := ⟨RX2, "blame", "(II)V"⟩
def RX3 : String := "PolicyTree$Groups"
def TX3 : u_T := fun k => match k with
  | 0 => ("PolicyTree$Groups", "machinesIn", "[J", true)
  | 1 => ("PolicyTree$Groups", "groupsIn", "[I", true)
  | _ => ("PolicyTree$Groups", "size", "I", false)
def tyX3 : Nat → FieldType := fun k => match k with
  | 0 => .array .long
  | 1 => .array .int
  | _ => .int
abbrev wsX30 : List Cond := u_ws RX3 TX3 3
theorem nmX3 : ∀ a, a < 3 → ∀ b, b < 3 → a ≠ b → (TX3 a).2.1 ≠ (TX3 b).2.1 := by decide +kernel
theorem tyX3_ok : ∀ k, k < 3 → parseFieldDescriptor (TX3 k).2.2.1 = some (tyX3 k) := by decide +kernel
abbrev cX3_init : ByteArray := prog_5_method_1_code
def yX3_init : MethodName := ⟨RX3, "<init>", "()V"⟩
abbrev cX3_size : ByteArray := prog_5_method_2_code
def yX3_size : MethodName := ⟨RX3, "size", "()I"⟩
abbrev cX3_add : ByteArray := prog_5_method_3_code
def yX3_add : MethodName := ⟨RX3, "add", "()I"⟩
abbrev cX3_putMachine : ByteArray := prog_5_method_4_code
def yX3_putMachine : MethodName := ⟨RX3, "putMachine", "(IIZ)Z"⟩
abbrev cX3_putGroup : ByteArray := prog_5_method_5_code
def yX3_putGroup : MethodName := ⟨RX3, "putGroup", "(IIZ)Z"⟩
abbrev cX3_groupsOf : ByteArray := prog_5_method_6_code
def yX3_groupsOf : MethodName := ⟨RX3, "groupsOf", "(I)I"⟩
abbrev cX3_groupsAround : ByteArray := prog_5_method_7_code
def yX3_groupsAround : MethodName := ⟨RX3, "groupsAround", "(I)I"⟩
def RX4 : String := "PolicyTree$Link"
def TX4 : u_T := fun k => match k with
  | 0 => ("PolicyTree$Link", "number", "I", true)
  | 1 => ("PolicyTree$Link", "node", "LPolicyTree$Node;", true)
  | 2 => ("PolicyTree$Link", "set", "LPolicyTree$Bundle;", true)
  | 3 => ("PolicyTree$Link", "order", "I", true)
  | 4 => ("PolicyTree$Link", "forced", "Z", true)
  | 5 => ("PolicyTree$Link", "filter", "LPolicyTree$Filter;", true)
  | _ => ("PolicyTree$Link", "ended", "Z", false)
def tyX4 : Nat → FieldType := fun k => match k with
  | 0 => .int
  | 1 => .object "PolicyTree$Node"
  | 2 => .object "PolicyTree$Bundle"
  | 3 => .int
  | 4 => .boolean
  | 5 => .object "PolicyTree$Filter"
  | _ => .boolean
abbrev wsX40 : List Cond := u_ws RX4 TX4 7
theorem nmX4 : ∀ a, a < 7 → ∀ b, b < 7 → a ≠ b → (TX4 a).2.1 ≠ (TX4 b).2.1 := by decide +kernel
theorem tyX4_ok : ∀ k, k < 7 → parseFieldDescriptor (TX4 k).2.2.1 = some (tyX4 k) := by decide +kernel
abbrev cX4_init : ByteArray := prog_6_method_1_code
def yX4_init : MethodName := ⟨RX4, "<init>", "(ILPolicyTree$Node;LPolicyTree$Bundle;IZLPolicyTree$Filter;)V"⟩
abbrev cX4_quarrelsWith : ByteArray := prog_6_method_2_code
def yX4_quarrelsWith : MethodName := ⟨RX4, "quarrelsWith", "(LPolicyTree$Link;I)Z"⟩
def RX5 : String := "PolicyTree$Machine"
def TX5 : u_T := fun k => match k with
  | 0 => ("PolicyTree$Machine", "node", "LPolicyTree$Node;", true)
  | 1 => ("PolicyTree$Machine", "known", "I", false)
  | _ => ("PolicyTree$Machine", "yes", "I", false)
def tyX5 : Nat → FieldType := fun k => match k with
  | 0 => .object "PolicyTree$Node"
  | 1 => .int
  | _ => .int
abbrev wsX50 : List Cond := u_ws RX5 TX5 3
theorem nmX5 : ∀ a, a < 3 → ∀ b, b < 3 → a ≠ b → (TX5 a).2.1 ≠ (TX5 b).2.1 := by decide +kernel
theorem tyX5_ok : ∀ k, k < 3 → parseFieldDescriptor (TX5 k).2.2.1 = some (tyX5 k) := by decide +kernel
abbrev cX5_init : ByteArray := prog_7_method_1_code
def yX5_init : MethodName := ⟨RX5, "<init>", "(LPolicyTree$Node;)V"⟩
abbrev cX5_knownFacts : ByteArray := prog_7_method_2_code
def yX5_knownFacts : MethodName := ⟨RX5, "knownFacts", "()I"⟩
abbrev cX5_yesFacts : ByteArray := prog_7_method_3_code
def yX5_yesFacts : MethodName := ⟨RX5, "yesFacts", "()I"⟩
abbrev cX5_factNow : ByteArray := prog_7_method_4_code
def yX5_factNow : MethodName := ⟨RX5, "factNow", "(I)I"⟩
abbrev cX5_learn : ByteArray := prog_7_method_5_code
def yX5_learn : MethodName := ⟨RX5, "learn", "(II)V"⟩
def RX6 : String := "PolicyTree$Node"
def TX6 : u_T := fun k => match k with
  | 0 => ("PolicyTree$Node", "number", "I", true)
  | 1 => ("PolicyTree$Node", "above", "LPolicyTree$Node;", false)
  | 2 => ("PolicyTree$Node", "blocked", "Z", false)
  | _ => ("PolicyTree$Node", "links", "Ljava/util/ArrayList;", true)
def tyX6 : Nat → FieldType := fun k => match k with
  | 0 => .int
  | 1 => .object "PolicyTree$Node"
  | 2 => .boolean
  | _ => .object "java/util/ArrayList"
abbrev wsX60 : List Cond := u_ws RX6 TX6 4
theorem nmX6 : ∀ a, a < 4 → ∀ b, b < 4 → a ≠ b → (TX6 a).2.1 ≠ (TX6 b).2.1 := by decide +kernel
theorem tyX6_ok : ∀ k, k < 4 → parseFieldDescriptor (TX6 k).2.2.1 = some (tyX6 k) := by decide +kernel
abbrev cX6_init : ByteArray := prog_8_method_1_code
def yX6_init : MethodName := ⟨RX6, "<init>", "(ILPolicyTree$Node;)V"⟩
abbrev cX6_isWithin : ByteArray := prog_8_method_2_code
def yX6_isWithin : MethodName := ⟨RX6, "isWithin", "(LPolicyTree$Node;)Z"⟩
abbrev cX6_size : ByteArray := prog_8_method_3_code
def yX6_size : MethodName := ⟨RX6, "size", "()I"⟩
abbrev cX6_linkAt : ByteArray := prog_8_method_4_code
def yX6_linkAt : MethodName := ⟨RX6, "linkAt", "(I)LPolicyTree$Link;"⟩
abbrev cX6_insert : ByteArray := prog_8_method_5_code
def yX6_insert : MethodName := ⟨RX6, "insert", "(LPolicyTree$Link;)V"⟩
abbrev cX6_remove : ByteArray := prog_8_method_6_code
def yX6_remove : MethodName := ⟨RX6, "remove", "(LPolicyTree$Link;)V"⟩
def RX7 : String := "PolicyTree$Outcome"
def TX7 : u_T := fun k => match k with
  | 0 => ("PolicyTree$Outcome", "values", "[I", true)
  | 1 => ("PolicyTree$Outcome", "size", "I", false)
  | _ => ("PolicyTree$Outcome", "link", "LPolicyTree$Link;", false)
def tyX7 : Nat → FieldType := fun k => match k with
  | 0 => .array .int
  | 1 => .int
  | _ => .object "PolicyTree$Link"
abbrev wsX70 : List Cond := u_ws RX7 TX7 3
theorem nmX7 : ∀ a, a < 3 → ∀ b, b < 3 → a ≠ b → (TX7 a).2.1 ≠ (TX7 b).2.1 := by decide +kernel
theorem tyX7_ok : ∀ k, k < 3 → parseFieldDescriptor (TX7 k).2.2.1 = some (tyX7 k) := by decide +kernel
abbrev cX7_init : ByteArray := prog_9_method_1_code
def yX7_init : MethodName := ⟨RX7, "<init>", "()V"⟩
abbrev cX7_read : ByteArray := prog_9_method_2_code
def yX7_read : MethodName := ⟨RX7, "read", "(LPolicyTree$Row;IIILPolicyTree$Link;)V"⟩
abbrev cX7_size : ByteArray := prog_9_method_3_code
def yX7_size : MethodName := ⟨RX7, "size", "()I"⟩
abbrev cX7_teller : ByteArray := prog_9_method_4_code
def yX7_teller : MethodName := ⟨RX7, "teller", "()LPolicyTree$Link;"⟩
abbrev cX7_valueAt : ByteArray := prog_9_method_5_code
def yX7_valueAt : MethodName := ⟨RX7, "valueAt", "(I)I"⟩
abbrev cX7_isSame : ByteArray := prog_9_method_6_code
def yX7_isSame : MethodName := ⟨RX7, "isSame", "(LPolicyTree$Outcome;)Z"⟩
abbrev cX7_take : ByteArray := prog_9_method_7_code
def yX7_take : MethodName := ⟨RX7, "take", "(LPolicyTree$Link;II)V"⟩
abbrev cX7_has : ByteArray := prog_9_method_8_code
def yX7_has : MethodName := ⟨RX7, "has", "(I)Z"⟩
def RX8 : String := "PolicyTree$Row"
def TX8 : u_T := fun k => match k with
  | 0 => ("PolicyTree$Row", "way", "Ljava/util/ArrayList;", true)
  | 1 => ("PolicyTree$Row", "links", "Ljava/util/ArrayList;", true)
  | 2 => ("PolicyTree$Row", "weights", "[J", true)
  | _ => ("PolicyTree$Row", "standing", "LPolicyTree$Standing;", true)
def tyX8 : Nat → FieldType := fun k => match k with
  | 0 => .object "java/util/ArrayList"
  | 1 => .object "java/util/ArrayList"
  | 2 => .array .long
  | _ => .object "PolicyTree$Standing"
abbrev wsX80 : List Cond := u_ws RX8 TX8 4
theorem nmX8 : ∀ a, a < 4 → ∀ b, b < 4 → a ≠ b → (TX8 a).2.1 ≠ (TX8 b).2.1 := by decide +kernel
theorem tyX8_ok : ∀ k, k < 4 → parseFieldDescriptor (TX8 k).2.2.1 = some (tyX8 k) := by decide +kernel
abbrev cX8_init : ByteArray := prog_10_method_1_code
def yX8_init : MethodName := ⟨RX8, "<init>", "()V"⟩
abbrev cX8_collect : ByteArray := prog_10_method_2_code
def yX8_collect : MethodName := ⟨RX8, "collect", "(LPolicyTree$Machine;II)V"⟩
abbrev cX8_weigh : ByteArray := prog_10_method_3_code
def yX8_weigh : MethodName := ⟨RX8, "weigh", "(I)V"⟩
abbrev cX8_size : ByteArray := prog_10_method_4_code
def yX8_size : MethodName := ⟨RX8, "size", "()I"⟩
abbrev cX8_linkAt : ByteArray := prog_10_method_5_code
def yX8_linkAt : MethodName := ⟨RX8, "linkAt", "(I)LPolicyTree$Link;"⟩
abbrev cX8_holds : ByteArray := prog_10_method_6_code
def yX8_holds : MethodName := ⟨RX8, "holds", "(II)Z"⟩
abbrev cX8_doubtedFacts : ByteArray := prog_10_method_7_code
def yX8_doubtedFacts : MethodName := ⟨RX8, "doubtedFacts", "()I"⟩
abbrev cX8_topOfOpen : ByteArray := prog_10_method_8_code
def yX8_topOfOpen : MethodName := ⟨RX8, "topOfOpen", "()I"⟩
abbrev cX8_addLinks : ByteArray := prog_10_method_9_code
def yX8_addLinks : MethodName := ⟨RX8, "addLinks", "(IZI)V"⟩
def RX9 : String := "PolicyTree$Standing"
def TX9 : u_T := fun k => match k with
  | 0 => ("PolicyTree$Standing", "stack", "[J", true)
  | 1 => ("PolicyTree$Standing", "facts", "[J", true)
  | 2 => ("PolicyTree$Standing", "known", "I", false)
  | 3 => ("PolicyTree$Standing", "yes", "I", false)
  | 4 => ("PolicyTree$Standing", "groups", "I", false)
  | _ => ("PolicyTree$Standing", "way", "J", false)
def tyX9 : Nat → FieldType := fun k => match k with
  | 0 => .array .long
  | 1 => .array .long
  | 2 => .int
  | 3 => .int
  | 4 => .int
  | _ => .long
abbrev wsX90 : List Cond := u_ws RX9 TX9 6
theorem nmX9 : ∀ a, a < 6 → ∀ b, b < 6 → a ≠ b → (TX9 a).2.1 ≠ (TX9 b).2.1 := by decide +kernel
theorem tyX9_ok : ∀ k, k < 6 → parseFieldDescriptor (TX9 k).2.2.1 = some (tyX9 k) := by decide +kernel
abbrev cX9_init : ByteArray := prog_11_method_1_code
def yX9_init : MethodName := ⟨RX9, "<init>", "()V"⟩
abbrev cX9_enter : ByteArray := prog_11_method_2_code
def yX9_enter : MethodName := ⟨RX9, "enter", "(LPolicyTree$Machine;IJ)V"⟩
abbrev cX9_guess : ByteArray := prog_11_method_3_code
def yX9_guess : MethodName := ⟨RX9, "guess", "(I)V"⟩
abbrev cX9_knownFacts : ByteArray := prog_11_method_4_code
def yX9_knownFacts : MethodName := ⟨RX9, "knownFacts", "()I"⟩
abbrev cX9_weighAtom : ByteArray := prog_11_method_5_code
def yX9_weighAtom : MethodName := ⟨RX9, "weighAtom", "(II)J"⟩
abbrev cX9_spread : ByteArray := prog_11_method_6_code
def yX9_spread : MethodName := ⟨RX9, "spread", "(Z)J"⟩
def RX10 : String := "PolicyTree$Tape"
def TX10 : u_T := fun k => match k with
  | 0 => ("PolicyTree$Tape", "bytes", "[B", true)
  | _ => ("PolicyTree$Tape", "size", "I", false)
def tyX10 : Nat → FieldType := fun k => match k with
  | 0 => .array .byte
  | _ => .int
abbrev wsX100 : List Cond := u_ws RX10 TX10 2
theorem nmX10 : ∀ a, a < 2 → ∀ b, b < 2 → a ≠ b → (TX10 a).2.1 ≠ (TX10 b).2.1 := by decide +kernel
theorem tyX10_ok : ∀ k, k < 2 → parseFieldDescriptor (TX10 k).2.2.1 = some (tyX10 k) := by decide +kernel
abbrev cX10_init : ByteArray := prog_12_method_1_code
def yX10_init : MethodName := ⟨RX10, "<init>", "()V"⟩
abbrev cX10_size : ByteArray := prog_12_method_2_code
def yX10_size : MethodName := ⟨RX10, "size", "()I"⟩
abbrev cX10_hasRoom : ByteArray := prog_12_method_3_code
def yX10_hasRoom : MethodName := ⟨RX10, "hasRoom", "(I)Z"⟩
abbrev cX10_addNumber : ByteArray := prog_12_method_4_code
def yX10_addNumber : MethodName := ⟨RX10, "addNumber", "(I)V"⟩
abbrev cX10_byteAt : ByteArray := prog_12_method_5_code
def yX10_byteAt : MethodName := ⟨RX10, "byteAt", "(I)I"⟩
abbrev cX10_clear : ByteArray := prog_12_method_6_code
def yX10_clear : MethodName := ⟨RX10, "clear", "()V"⟩
def RX11 : String := "PolicyTree"
def TX11 : u_T := fun k => match k with
  | 0 => ("PolicyTree", "nodes", "Ljava/util/ArrayList;", true)
  | 1 => ("PolicyTree", "machines", "Ljava/util/ArrayList;", true)
  | 2 => ("PolicyTree", "groups", "LPolicyTree$Groups;", true)
  | 3 => ("PolicyTree", "sets", "Ljava/util/ArrayList;", true)
  | 4 => ("PolicyTree", "links", "Ljava/util/ArrayList;", true)
  | 5 => ("PolicyTree", "laws", "[I", true)
  | 6 => ("PolicyTree", "tape", "LPolicyTree$Tape;", true)
  | 7 => ("PolicyTree", "reader", "LPolicyTree$FilterReader;", true)
  | 8 => ("PolicyTree", "faultPlace", "I", false)
  | 9 => ("PolicyTree", "row", "LPolicyTree$Row;", true)
  | 10 => ("PolicyTree", "otherRow", "LPolicyTree$Row;", true)
  | 11 => ("PolicyTree", "outcome", "LPolicyTree$Outcome;", true)
  | 12 => ("PolicyTree", "otherOutcome", "LPolicyTree$Outcome;", true)
  | _ => ("PolicyTree", "pairs", "[I", true)
def tyX11 : Nat → FieldType := fun k => match k with
  | 0 => .object "java/util/ArrayList"
  | 1 => .object "java/util/ArrayList"
  | 2 => .object "PolicyTree$Groups"
  | 3 => .object "java/util/ArrayList"
  | 4 => .object "java/util/ArrayList"
  | 5 => .array .int
  | 6 => .object "PolicyTree$Tape"
  | 7 => .object "PolicyTree$FilterReader"
  | 8 => .int
  | 9 => .object "PolicyTree$Row"
  | 10 => .object "PolicyTree$Row"
  | 11 => .object "PolicyTree$Outcome"
  | 12 => .object "PolicyTree$Outcome"
  | _ => .array .int
abbrev wsX110 : List Cond := u_ws RX11 TX11 14
theorem nmX11 : ∀ a, a < 14 → ∀ b, b < 14 → a ≠ b → (TX11 a).2.1 ≠ (TX11 b).2.1 := by decide +kernel
theorem tyX11_ok : ∀ k, k < 14 → parseFieldDescriptor (TX11 k).2.2.1 = some (tyX11 k) := by decide +kernel
abbrev cX11_init : ByteArray := prog_1_method_1_code
def yX11_init : MethodName := ⟨RX11, "<init>", "()V"⟩
abbrev cX11_node : ByteArray := prog_1_method_2_code
def yX11_node : MethodName := ⟨RX11, "node", "(I)I"⟩
abbrev cX11_block : ByteArray := prog_1_method_3_code
def yX11_block : MethodName := ⟨RX11, "block", "(IZ)Z"⟩
abbrev cX11_move : ByteArray := prog_1_method_4_code
def yX11_move : MethodName := ⟨RX11, "move", "(II)I"⟩
abbrev cX11_machine : ByteArray := prog_1_method_5_code
def yX11_machine : MethodName := ⟨RX11, "machine", "(I)I"⟩
abbrev cX11_fact : ByteArray := prog_1_method_6_code
def yX11_fact : MethodName := ⟨RX11, "fact", "(III)I"⟩
abbrev cX11_group : ByteArray := prog_1_method_7_code
def yX11_group : MethodName := ⟨RX11, "group", "()I"⟩
abbrev cX11_joins : ByteArray := prog_1_method_8_code
def yX11_joins : MethodName := ⟨RX11, "joins", "(IIZ)Z"⟩
abbrev cX11_within : ByteArray := prog_1_method_9_code
def yX11_within : MethodName := ⟨RX11, "within", "(IIZ)Z"⟩
abbrev cX11_member : ByteArray := prog_1_method_10_code
def yX11_member : MethodName := ⟨RX11, "member", "(II)Z"⟩
abbrev cX11_set : ByteArray := prog_1_method_11_code
def yX11_set : MethodName := ⟨RX11, "set", "()I"⟩
abbrev cX11_tell : ByteArray := prog_1_method_12_code
def yX11_tell : MethodName := ⟨RX11, "tell", "(III)Z"⟩
abbrev cX11_untell : ByteArray := prog_1_method_13_code
def yX11_untell : MethodName := ⟨RX11, "untell", "(II)Z"⟩
abbrev cX11_law : ByteArray := prog_1_method_14_code
def yX11_law : MethodName := ⟨RX11, "law", "(II)I"⟩
abbrev cX11_feed : ByteArray := prog_1_method_15_code
def yX11_feed : MethodName := ⟨RX11, "feed", "(IIIII)I"⟩
abbrev cX11_link : ByteArray := prog_1_method_16_code
def yX11_link : MethodName := ⟨RX11, "link", "(IIIZI)I"⟩
abbrev cX11_fault : ByteArray := prog_1_method_17_code
def yX11_fault : MethodName := ⟨RX11, "fault", "()I"⟩
abbrev cX11_end : ByteArray := prog_1_method_18_code
def yX11_end : MethodName := ⟨RX11, "end", "(I)Z"⟩
abbrev cX11_outcome : ByteArray := prog_1_method_19_code
def yX11_outcome : MethodName := ⟨RX11, "outcome", "(II)I"⟩
abbrev cX11_value : ByteArray := prog_1_method_20_code
def yX11_value : MethodName := ⟨RX11, "value", "(III)I"⟩
abbrev cX11_reason : ByteArray := prog_1_method_21_code
def yX11_reason : MethodName := ⟨RX11, "reason", "(II)I"⟩
abbrev cX11_beaten : ByteArray := prog_1_method_22_code
def yX11_beaten : MethodName := ⟨RX11, "beaten", "(III)I"⟩
abbrev cX11_sure : ByteArray := prog_1_method_23_code
def yX11_sure : MethodName := ⟨RX11, "sure", "(II)Z"⟩
abbrev cX11_reach : ByteArray := prog_1_method_24_code
def yX11_reach : MethodName := ⟨RX11, "reach", "(I)I"⟩
abbrev cX11_reached : ByteArray := prog_1_method_25_code
def yX11_reached : MethodName := ⟨RX11, "reached", "(III)I"⟩
abbrev cX11_quarrels : ByteArray := prog_1_method_26_code
def yX11_quarrels : MethodName := ⟨RX11, "quarrels", "()I"⟩
abbrev cX11_quarrel : ByteArray := prog_1_method_27_code
def yX11_quarrel : MethodName := ⟨RX11, "quarrel", "(II)I"⟩
abbrev cX11_count : ByteArray := prog_1_method_28_code
def yX11_count : MethodName := ⟨RX11, "count", "(I)I"⟩
abbrev cX11_needNumber : ByteArray := prog_1_method_29_code
def yX11_needNumber : MethodName := ⟨RX11, "needNumber", "(II)V"⟩
abbrev cX11_needChoice : ByteArray := prog_1_method_30_code
def yX11_needChoice : MethodName := ⟨RX11, "needChoice", "(II)V"⟩
abbrev cX11_needRoom : ByteArray := prog_1_method_31_code
def yX11_needRoom : MethodName := ⟨RX11, "needRoom", "(II)V"⟩
abbrev cX11_findOutcome : ByteArray := prog_1_method_32_code
def yX11_findOutcome : MethodName := ⟨RX11, "findOutcome", "(II)V"⟩
abbrev cX11_isSameInLane : ByteArray := prog_1_method_33_code
def yX11_isSameInLane : MethodName := ⟨RX11, "isSameInLane", "(II)Z"⟩
abbrev cX11_countMoved : ByteArray := prog_1_method_34_code
def yX11_countMoved : MethodName := ⟨RX11, "countMoved", "(ILPolicyTree$Node;LPolicyTree$Node;)I"⟩
abbrev cX11_listReach : ByteArray := prog_1_method_35_code
def yX11_listReach : MethodName := ⟨RX11, "listReach", "(LPolicyTree$Link;)I"⟩
abbrev cX11_addReach : ByteArray := prog_1_method_36_code
def yX11_addReach : MethodName := ⟨RX11, "addReach", "(LPolicyTree$Link;II)I"⟩
abbrev cX11_settingsOfLast : ByteArray := prog_1_method_37_code
def yX11_settingsOfLast : MethodName := ⟨RX11, "settingsOfLast", "()I"⟩
abbrev cX11_countQuarrels : ByteArray := prog_1_method_38_code
def yX11_countQuarrels : MethodName := ⟨RX11, "countQuarrels", "(II)I"⟩
abbrev cX11_findQuarreller : ByteArray := prog_1_method_39_code
def yX11_findQuarreller : MethodName := ⟨RX11, "findQuarreller", "(III)I"⟩
abbrev cX11_countLasting : ByteArray := prog_1_method_40_code
def yX11_countLasting : MethodName := ⟨RX11, "countLasting", "()I"⟩
def RX12 : String := "PolicyTreeModel"
def TX12 : u_T := fun k => match k with
  | 0 => ("PolicyTreeModel", "thrown", "I", false)
  | 1 => ("PolicyTreeModel", "above", "[I", true)
  | 2 => ("PolicyTreeModel", "isBlocked", "[Z", true)
  | 3 => ("PolicyTreeModel", "nodes", "I", false)
  | 4 => ("PolicyTreeModel", "nodeOf", "[I", true)
  | 5 => ("PolicyTreeModel", "facts", "[I", true)
  | 6 => ("PolicyTreeModel", "inGroups", "[I", true)
  | 7 => ("PolicyTreeModel", "machines", "I", false)
  | 8 => ("PolicyTreeModel", "within", "[I", true)
  | 9 => ("PolicyTreeModel", "groups", "I", false)
  | 10 => ("PolicyTreeModel", "told", "[I", true)
  | 11 => ("PolicyTreeModel", "values", "[I", true)
  | 12 => ("PolicyTreeModel", "sets", "I", false)
  | 13 => ("PolicyTreeModel", "laws", "[I", true)
  | 14 => ("PolicyTreeModel", "tape", "[B", true)
  | 15 => ("PolicyTreeModel", "taped", "I", false)
  | 16 => ("PolicyTreeModel", "size", "I", false)
  | 17 => ("PolicyTreeModel", "at", "I", false)
  | 18 => ("PolicyTreeModel", "fault", "I", false)
  | 19 => ("PolicyTreeModel", "place", "I", false)
  | 20 => ("PolicyTreeModel", "open", "I", false)
  | 21 => ("PolicyTreeModel", "code", "[I", false)
  | 22 => ("PolicyTreeModel", "codes", "I", false)
  | 23 => ("PolicyTreeModel", "pile", "[Z", true)
  | 24 => ("PolicyTreeModel", "linkNode", "[I", true)
  | 25 => ("PolicyTreeModel", "linkSet", "[I", true)
  | 26 => ("PolicyTreeModel", "linkOrder", "[I", true)
  | 27 => ("PolicyTreeModel", "isForced", "[Z", true)
  | 28 => ("PolicyTreeModel", "hasEnded", "[Z", true)
  | 29 => ("PolicyTreeModel", "from", "[I", true)
  | 30 => ("PolicyTreeModel", "to", "[I", true)
  | 31 => ("PolicyTreeModel", "sorted", "[I", true)
  | 32 => ("PolicyTreeModel", "links", "I", false)
  | 33 => ("PolicyTreeModel", "below", "[I", true)
  | 34 => ("PolicyTreeModel", "way", "[I", true)
  | 35 => ("PolicyTreeModel", "row", "[I", true)
  | 36 => ("PolicyTreeModel", "rows", "I", false)
  | 37 => ("PolicyTreeModel", "got", "[I", true)
  | 38 => ("PolicyTreeModel", "gots", "I", false)
  | 39 => ("PolicyTreeModel", "reason", "I", false)
  | 40 => ("PolicyTreeModel", "kept", "[I", true)
  | 41 => ("PolicyTreeModel", "keeps", "I", false)
  | 42 => ("PolicyTreeModel", "pairMachine", "I", false)
  | 43 => ("PolicyTreeModel", "pairSetting", "I", false)
  | 44 => ("PolicyTreeModel", "was", "[I", true)
  | 45 => ("PolicyTreeModel", "one", "I", false)
  | _ => ("PolicyTreeModel", "other", "I", false)
def tyX12 : Nat → FieldType := fun k => match k with
  | 0 => .int
  | 1 => .array .int
  | 2 => .array .boolean
  | 3 => .int
  | 4 => .array .int
  | 5 => .array .int
  | 6 => .array .int
  | 7 => .int
  | 8 => .array .int
  | 9 => .int
  | 10 => .array .int
  | 11 => .array .int
  | 12 => .int
  | 13 => .array .int
  | 14 => .array .byte
  | 15 => .int
  | 16 => .int
  | 17 => .int
  | 18 => .int
  | 19 => .int
  | 20 => .int
  | 21 => .array .int
  | 22 => .int
  | 23 => .array .boolean
  | 24 => .array .int
  | 25 => .array .int
  | 26 => .array .int
  | 27 => .array .boolean
  | 28 => .array .boolean
  | 29 => .array .int
  | 30 => .array .int
  | 31 => .array .int
  | 32 => .int
  | 33 => .array .int
  | 34 => .array .int
  | 35 => .array .int
  | 36 => .int
  | 37 => .array .int
  | 38 => .int
  | 39 => .int
  | 40 => .array .int
  | 41 => .int
  | 42 => .int
  | 43 => .int
  | 44 => .array .int
  | 45 => .int
  | _ => .int
abbrev wsX120 : List Cond := u_ws RX12 TX12 47
theorem nmX12 : ∀ a, a < 47 → ∀ b, b < 47 → a ≠ b → (TX12 a).2.1 ≠ (TX12 b).2.1 := by decide +kernel
theorem tyX12_ok : ∀ k, k < 47 → parseFieldDescriptor (TX12 k).2.2.1 = some (tyX12 k) := by decide +kernel
abbrev cX12_init : ByteArray := prog_14_method_1_code
def yX12_init : MethodName := ⟨RX12, "<init>", "()V"⟩
abbrev cX12_thrown : ByteArray := prog_14_method_2_code
def yX12_thrown : MethodName := ⟨RX12, "thrown", "()I"⟩
abbrev cX12_bad : ByteArray := prog_14_method_3_code
def yX12_bad : MethodName := ⟨RX12, "bad", "(ZI)Z"⟩
abbrev cX12_none : ByteArray := prog_14_method_4_code
def yX12_none : MethodName := ⟨RX12, "none", "(II)Z"⟩
abbrev cX12_node : ByteArray := prog_14_method_5_code
def yX12_node : MethodName := ⟨RX12, "node", "(I)I"⟩
abbrev cX12_block : ByteArray := prog_14_method_6_code
def yX12_block : MethodName := ⟨RX12, "block", "(IZ)Z"⟩
abbrev cX12_isBelow : ByteArray := prog_14_method_7_code
def yX12_isBelow : MethodName := ⟨RX12, "isBelow", "(II)Z"⟩
abbrev cX12_machine : ByteArray := prog_14_method_8_code
def yX12_machine : MethodName := ⟨RX12, "machine", "(I)I"⟩
abbrev cX12_fact : ByteArray := prog_14_method_9_code
def yX12_fact : MethodName := ⟨RX12, "fact", "(III)I"⟩
abbrev cX12_group : ByteArray := prog_14_method_10_code
def yX12_group : MethodName := ⟨RX12, "group", "()I"⟩
abbrev cX12_joins : ByteArray := prog_14_method_11_code
def yX12_joins : MethodName := ⟨RX12, "joins", "(IIZ)Z"⟩
abbrev cX12_within : ByteArray := prog_14_method_12_code
def yX12_within : MethodName := ⟨RX12, "within", "(IIZ)Z"⟩
abbrev cX12_allIn : ByteArray := prog_14_method_13_code
def yX12_allIn : MethodName := ⟨RX12, "allIn", "(I)I"⟩
abbrev cX12_member : ByteArray := prog_14_method_14_code
def yX12_member : MethodName := ⟨RX12, "member", "(II)Z"⟩
abbrev cX12_set : ByteArray := prog_14_method_15_code
def yX12_set : MethodName := ⟨RX12, "set", "()I"⟩
abbrev cX12_isSetting : ByteArray := prog_14_method_16_code
def yX12_isSetting : MethodName := ⟨RX12, "isSetting", "(I)Z"⟩
abbrev cX12_tells : ByteArray := prog_14_method_17_code
def yX12_tells : MethodName := ⟨RX12, "tells", "(II)Z"⟩
abbrev cX12_tell : ByteArray := prog_14_method_18_code
def yX12_tell : MethodName := ⟨RX12, "tell", "(III)Z"⟩
abbrev cX12_untell : ByteArray := prog_14_method_19_code
def yX12_untell : MethodName := ⟨RX12, "untell", "(II)Z"⟩
abbrev cX12_law : ByteArray := prog_14_method_20_code
def yX12_law : MethodName := ⟨RX12, "law", "(II)I"⟩
abbrev cX12_feed : ByteArray := prog_14_method_21_code
def yX12_feed : MethodName := ⟨RX12, "feed", "(IIIII)I"⟩
abbrev cX12_byteAt : ByteArray := prog_14_method_22_code
def yX12_byteAt : MethodName := ⟨RX12, "byteAt", "(I)I"⟩
abbrev cX12_blanks : ByteArray := prog_14_method_23_code
def yX12_blanks : MethodName := ⟨RX12, "blanks", "()V"⟩
abbrev cX12_wrong : ByteArray := prog_14_method_24_code
def yX12_wrong : MethodName := ⟨RX12, "wrong", "(II)V"⟩
abbrev cX12_isWord : ByteArray := prog_14_method_25_code
def yX12_isWord : MethodName := ⟨RX12, "isWord", "(Ljava/lang/String;)Z"⟩
abbrev cX12_eat : ByteArray := prog_14_method_26_code
def yX12_eat : MethodName := ⟨RX12, "eat", "(Ljava/lang/String;)Z"⟩
abbrev cX12_emits : ByteArray := prog_14_method_27_code
def yX12_emits : MethodName := ⟨RX12, "emits", "(I)V"⟩
abbrev cX12_any : ByteArray := prog_14_method_28_code
def yX12_any : MethodName := ⟨RX12, "any", "()V"⟩
abbrev cX12_all : ByteArray := prog_14_method_29_code
def yX12_all : MethodName := ⟨RX12, "all", "()V"⟩
abbrev cX12_opens : ByteArray := prog_14_method_30_code
def yX12_opens : MethodName := ⟨RX12, "opens", "()Z"⟩
abbrev cX12_one : ByteArray := prog_14_method_31_code
def yX12_one : MethodName := ⟨RX12, "one", "()V"⟩
abbrev cX12_number : ByteArray := prog_14_method_32_code
def yX12_number : MethodName := ⟨RX12, "number", "(II)V"⟩
abbrev cX12_link : ByteArray := prog_14_method_33_code
def yX12_link : MethodName := ⟨RX12, "link", "(IIIZI)I"⟩
abbrev cX12_fault : ByteArray := prog_14_method_34_code
def yX12_fault : MethodName := ⟨RX12, "fault", "()I"⟩
abbrev cX12_end : ByteArray := prog_14_method_35_code
def yX12_end : MethodName := ⟨RX12, "end", "(I)Z"⟩
abbrev cX12_holds : ByteArray := prog_14_method_36_code
def yX12_holds : MethodName := ⟨RX12, "holds", "(III)Z"⟩
abbrev cX12_groupsAnew : ByteArray := prog_14_method_37_code
def yX12_groupsAnew : MethodName := ⟨RX12, "groupsAnew", "()V"⟩
abbrev cX12_yesOf : ByteArray := prog_14_method_38_code
def yX12_yesOf : MethodName := ⟨RX12, "yesOf", "(I)I"⟩
abbrev cX12_adds : ByteArray := prog_14_method_39_code
def yX12_adds : MethodName := ⟨RX12, "adds", "(IZIII)V"⟩
abbrev cX12_makes : ByteArray := prog_14_method_40_code
def yX12_makes : MethodName := ⟨RX12, "makes", "(III)V"⟩
abbrev cX12_valueOf : ByteArray := prog_14_method_41_code
def yX12_valueOf : MethodName := ⟨RX12, "valueOf", "(II)I"⟩
abbrev cX12_outcomes : ByteArray := prog_14_method_42_code
def yX12_outcomes : MethodName := ⟨RX12, "outcomes", "(I)V"⟩
abbrev cX12_isAsked : ByteArray := prog_14_method_43_code
def yX12_isAsked : MethodName := ⟨RX12, "isAsked", "(II)Z"⟩
abbrev cX12_outcome : ByteArray := prog_14_method_44_code
def yX12_outcome : MethodName := ⟨RX12, "outcome", "(II)I"⟩
abbrev cX12_value : ByteArray := prog_14_method_45_code
def yX12_value : MethodName := ⟨RX12, "value", "(III)I"⟩
abbrev cX12_reason : ByteArray := prog_14_method_46_code
def yX12_reason : MethodName := ⟨RX12, "reason", "(II)I"⟩
abbrev cX12_beaten : ByteArray := prog_14_method_47_code
def yX12_beaten : MethodName := ⟨RX12, "beaten", "(III)I"⟩
abbrev cX12_keepsThem : ByteArray := prog_14_method_48_code
def yX12_keepsThem : MethodName := ⟨RX12, "keepsThem", "()V"⟩
abbrev cX12_isAsKept : ByteArray := prog_14_method_49_code
def yX12_isAsKept : MethodName := ⟨RX12, "isAsKept", "()Z"⟩
abbrev cX12_sure : ByteArray := prog_14_method_50_code
def yX12_sure : MethodName := ⟨RX12, "sure", "(II)Z"⟩
abbrev cX12_reaches : ByteArray := prog_14_method_51_code
def yX12_reaches : MethodName := ⟨RX12, "reaches", "(II)I"⟩
abbrev cX12_reach : ByteArray := prog_14_method_52_code
def yX12_reach : MethodName := ⟨RX12, "reach", "(I)I"⟩
abbrev cX12_reached : ByteArray := prog_14_method_53_code
def yX12_reached : MethodName := ⟨RX12, "reached", "(III)I"⟩
abbrev cX12_move : ByteArray := prog_14_method_54_code
def yX12_move : MethodName := ⟨RX12, "move", "(II)I"⟩
abbrev cX12_areUnlike : ByteArray := prog_14_method_55_code
def yX12_areUnlike : MethodName := ⟨RX12, "areUnlike", "(II)Z"⟩
abbrev cX12_looks : ByteArray := prog_14_method_56_code
def yX12_looks : MethodName := ⟨RX12, "looks", "(I)I"⟩
abbrev cX12_quarrels : ByteArray := prog_14_method_57_code
def yX12_quarrels : MethodName := ⟨RX12, "quarrels", "()I"⟩
abbrev cX12_quarrel : ByteArray := prog_14_method_58_code
def yX12_quarrel : MethodName := ⟨RX12, "quarrel", "(II)I"⟩
abbrev cX12_count : ByteArray := prog_14_method_59_code
def yX12_count : MethodName := ⟨RX12, "count", "(I)I"⟩
def RJx145de : String := "java/io/Serializable"
def TJx145de : u_T := fun k => match k with
  | _ => ("", "", "", false)
def tyJx145de : Nat → FieldType := fun k => match k with
  | _ => .int
abbrev wsJx145de0 : List Cond := u_ws RJx145de TJx145de 0
theorem nmJx145de : ∀ a, a < 0 → ∀ b, b < 0 → a ≠ b → (TJx145de a).2.1 ≠ (TJx145de b).2.1 := by decide +kernel
theorem tyJx145de_ok : ∀ k, k < 0 → parseFieldDescriptor (TJx145de k).2.2.1 = some (tyJx145de k) := by decide +kernel
def RJ5 : String := "java/lang/AbstractStringBuilder"
def TJ5 : u_T := fun k => match k with
  | _ => ("", "", "", false)
def tyJ5 : Nat → FieldType := fun k => match k with
  | _ => .int
abbrev wsJ50 : List Cond := u_ws RJ5 TJ5 0
theorem nmJ5 : ∀ a, a < 0 → ∀ b, b < 0 → a ≠ b → (TJ5 a).2.1 ≠ (TJ5 b).2.1 := by decide +kernel
theorem tyJ5_ok : ∀ k, k < 0 → parseFieldDescriptor (TJ5 k).2.2.1 = some (tyJ5 k) := by decide +kernel
abbrev cJ5_init_d00df : ByteArray := prog_16_method_2_code
def yJ5_init_d00df : MethodName := ⟨RJ5, "<init>", "(I)V"⟩
abbrev cJ5_length_8abf5 : ByteArray := prog_16_method_6_code
def yJ5_length_8abf5 : MethodName := ⟨RJ5, "length", "()I"⟩
abbrev cJ5_ensureCapacityInternal_d00df : ByteArray := prog_16_method_9_code
def yJ5_ensureCapacityInternal_d00df : MethodName := ⟨RJ5, "ensureCapacityInternal", "(I)V"⟩
abbrev cJ5_newCapacity_0f7a4 : ByteArray := prog_16_method_10_code
def yJ5_newCapacity_0f7a4 : MethodName := ⟨RJ5, "newCapacity", "(I)I"⟩
abbrev cJ5_inflate_da8c8 : ByteArray := prog_16_method_11_code
def yJ5_inflate_da8c8 : MethodName := ⟨RJ5, "inflate", "()V"⟩
abbrev cJ5_append_cf1ce : ByteArray := prog_16_method_22_code
def yJ5_append_cf1ce : MethodName := ⟨RJ5, "append", "(Ljava/lang/String;)Ljava/lang/AbstractStringBuilder;"⟩
abbrev cJ5_appendNull_278bc : ByteArray := prog_16_method_26_code
def yJ5_appendNull_278bc : MethodName := ⟨RJ5, "appendNull", "()Ljava/lang/AbstractStringBuilder;"⟩
abbrev cJ5_append_c97b9 : ByteArray := prog_16_method_32_code
def yJ5_append_c97b9 : MethodName := ⟨RJ5, "append", "(I)Ljava/lang/AbstractStringBuilder;"⟩
abbrev cJ5_getValue_6d5f1 : ByteArray := prog_16_method_64_code
def yJ5_getValue_6d5f1 : MethodName := ⟨RJ5, "getValue", "()[B"⟩
abbrev cJ5_isLatin1_aae02 : ByteArray := prog_16_method_68_code
def yJ5_isLatin1_aae02 : MethodName := ⟨RJ5, "isLatin1", "()Z"⟩
abbrev cJ5_inflateIfNeededFor_a7421 : ByteArray := prog_16_method_71_code
def yJ5_inflateIfNeededFor_a7421 : MethodName := ⟨RJ5, "inflateIfNeededFor", "(Ljava/lang/String;)V"⟩
abbrev cJ5_putStringAt_47b60 : ByteArray := prog_16_method_73_code
def yJ5_putStringAt_47b60 : MethodName := ⟨RJ5, "putStringAt", "(ILjava/lang/String;)V"⟩
def RJx8e188 : String := "java/lang/Cloneable"
def TJx8e188 : u_T := fun k => match k with
  | _ => ("", "", "", false)
def tyJx8e188 : Nat → FieldType := fun k => match k with
  | _ => .int
abbrev wsJx8e1880 : List Cond := u_ws RJx8e188 TJx8e188 0
theorem nmJx8e188 : ∀ a, a < 0 → ∀ b, b < 0 → a ≠ b → (TJx8e188 a).2.1 ≠ (TJx8e188 b).2.1 := by decide +kernel
theorem tyJx8e188_ok : ∀ k, k < 0 → parseFieldDescriptor (TJx8e188 k).2.2.1 = some (tyJx8e188 k) := by decide +kernel
def RJ6 : String := "java/lang/Integer"
def TJ6 : u_T := fun k => match k with
  | _ => ("", "", "", false)
def tyJ6 : Nat → FieldType := fun k => match k with
  | _ => .int
abbrev wsJ60 : List Cond := u_ws RJ6 TJ6 0
theorem nmJ6 : ∀ a, a < 0 → ∀ b, b < 0 → a ≠ b → (TJ6 a).2.1 ≠ (TJ6 b).2.1 := by decide +kernel
theorem tyJ6_ok : ∀ k, k < 0 → parseFieldDescriptor (TJ6 k).2.2.1 = some (tyJ6 k) := by decide +kernel
abbrev cJ6_getChars_ba4f3 : ByteArray := prog_22_method_12_code
def yJ6_getChars_ba4f3 : MethodName := ⟨RJ6, "getChars", "(II[B)I"⟩
abbrev cJ6_stringSize_0f7a4 : ByteArray := prog_22_method_13_code
def yJ6_stringSize_0f7a4 : MethodName := ⟨RJ6, "stringSize", "(I)I"⟩
def RJxab1ab : String := "java/lang/Iterable"
def TJxab1ab : u_T := fun k => match k with
  | _ => ("", "", "", false)
def tyJxab1ab : Nat → FieldType := fun k => match k with
  | _ => .int
abbrev wsJxab1ab0 : List Cond := u_ws RJxab1ab TJxab1ab 0
theorem nmJxab1ab : ∀ a, a < 0 → ∀ b, b < 0 → a ≠ b → (TJxab1ab a).2.1 ≠ (TJxab1ab b).2.1 := by decide +kernel
theorem tyJxab1ab_ok : ∀ k, k < 0 → parseFieldDescriptor (TJxab1ab k).2.2.1 = some (tyJxab1ab k) := by decide +kernel
def RJ9 : String := "java/lang/Math"
def TJ9 : u_T := fun k => match k with
  | _ => ("", "", "", false)
def tyJ9 : Nat → FieldType := fun k => match k with
  | _ => .int
abbrev wsJ90 : List Cond := u_ws RJ9 TJ9 0
theorem nmJ9 : ∀ a, a < 0 → ∀ b, b < 0 → a ≠ b → (TJ9 a).2.1 ≠ (TJ9 b).2.1 := by decide +kernel
theorem tyJ9_ok : ∀ k, k < 0 → parseFieldDescriptor (TJ9 k).2.2.1 = some (tyJ9 k) := by decide +kernel
abbrev cJ9_max_7cf53 : ByteArray := prog_24_method_65_code
def yJ9_max_7cf53 : MethodName := ⟨RJ9, "max", "(II)I"⟩
abbrev cJ9_min_7cf53 : ByteArray := prog_24_method_69_code
def yJ9_min_7cf53 : MethodName := ⟨RJ9, "min", "(II)I"⟩
def RJ0 : String := "java/lang/String"
def TJ0 : u_T := fun k => match k with
  | 0 => ("java/lang/String", "value", "[B", true)
  | 1 => ("java/lang/String", "coder", "B", true)
  | 2 => ("java/lang/String", "hash", "I", false)
  | _ => ("java/lang/String", "hashIsZero", "Z", false)
def tyJ0 : Nat → FieldType := fun k => match k with
  | 0 => .array .byte
  | 1 => .byte
  | 2 => .int
  | _ => .boolean
abbrev wsJ00 : List Cond := u_ws RJ0 TJ0 4
theorem nmJ0 : ∀ a, a < 4 → ∀ b, b < 4 → a ≠ b → (TJ0 a).2.1 ≠ (TJ0 b).2.1 := by decide +kernel
theorem tyJ0_ok : ∀ k, k < 4 → parseFieldDescriptor (TJ0 k).2.2.1 = some (tyJ0 k) := by decide +kernel
abbrev cJ0_init_81219 : ByteArray := prog_26_method_53_code
def yJ0_init_81219 : MethodName := ⟨RJ0, "<init>", "(Ljava/lang/StringBuilder;)V"⟩
abbrev cJ0_length_8abf5 : ByteArray := prog_26_method_54_code
def yJ0_length_8abf5 : MethodName := ⟨RJ0, "length", "()I"⟩
abbrev cJ0_charAt_5068e : ByteArray := prog_26_method_56_code
def yJ0_charAt_5068e : MethodName := ⟨RJ0, "charAt", "(I)C"⟩
abbrev cJ0_getBytes_840e7 : ByteArray := prog_26_method_147_code
def yJ0_getBytes_840e7 : MethodName := ⟨RJ0, "getBytes", "([BIB)V"⟩
abbrev cJ0_init_db425 : ByteArray := prog_26_method_150_code
def yJ0_init_db425 : MethodName := ⟨RJ0, "<init>", "(Ljava/lang/AbstractStringBuilder;Ljava/lang/Void;)V"⟩
abbrev cJ0_coder_7d493 : ByteArray := prog_26_method_152_code
def yJ0_coder_7d493 : MethodName := ⟨RJ0, "coder", "()B"⟩
abbrev cJ0_isLatin1_aae02 : ByteArray := prog_26_method_154_code
def yJ0_isLatin1_aae02 : MethodName := ⟨RJ0, "isLatin1", "()Z"⟩
abbrev cJ0_checkIndex_df160 : ByteArray := prog_26_method_155_code
def yJ0_checkIndex_df160 : MethodName := ⟨RJ0, "checkIndex", "(II)V"⟩
abbrev cJ0_checkBoundsOffCount_cabcc : ByteArray := prog_26_method_157_code
def yJ0_checkBoundsOffCount_cabcc : MethodName := ⟨RJ0, "checkBoundsOffCount", "(III)I"⟩
abbrev cJ0_checkBoundsBeginEnd_23922 : ByteArray := prog_26_method_158_code
def yJ0_checkBoundsBeginEnd_23922 : MethodName := ⟨RJ0, "checkBoundsBeginEnd", "(III)V"⟩
def RJ4 : String := "java/lang/StringBuilder"
def TJ4 : u_T := fun k => match k with
  | 0 => ("java/lang/AbstractStringBuilder", "value", "[B", false)
  | 1 => ("java/lang/AbstractStringBuilder", "coder", "B", false)
  | 2 => ("java/lang/AbstractStringBuilder", "maybeLatin1", "Z", false)
  | _ => ("java/lang/AbstractStringBuilder", "count", "I", false)
def tyJ4 : Nat → FieldType := fun k => match k with
  | 0 => .array .byte
  | 1 => .byte
  | 2 => .boolean
  | _ => .int
abbrev wsJ40 : List Cond := u_ws RJ4 TJ4 4
theorem nmJ4 : ∀ a, a < 4 → ∀ b, b < 4 → a ≠ b → (TJ4 a).2.1 ≠ (TJ4 b).2.1 := by decide +kernel
theorem tyJ4_ok : ∀ k, k < 4 → parseFieldDescriptor (TJ4 k).2.2.1 = some (tyJ4 k) := by decide +kernel
abbrev cJ4_init_da8c8 : ByteArray := prog_27_method_1_code
def yJ4_init_da8c8 : MethodName := ⟨RJ4, "<init>", "()V"⟩
abbrev cJ4_append_15ec4 : ByteArray := prog_27_method_7_code
def yJ4_append_15ec4 : MethodName := ⟨RJ4, "append", "(Ljava/lang/String;)Ljava/lang/StringBuilder;"⟩
abbrev cJ4_append_bf812 : ByteArray := prog_27_method_15_code
def yJ4_append_bf812 : MethodName := ⟨RJ4, "append", "(I)Ljava/lang/StringBuilder;"⟩
abbrev cJ4_toString_0e30d : ByteArray := prog_27_method_42_code
def yJ4_toString_0e30d : MethodName := ⟨RJ4, "toString", "()Ljava/lang/String;"⟩
abbrev cJ4_length_8abf5 : ByteArray := prog_27_method_93_code
def yJ4_length_8abf5 : MethodName := ⟨RJ4, "length", "()I"⟩
def RJ1 : String := "java/lang/StringLatin1"
def TJ1 : u_T := fun k => match k with
  | _ => ("", "", "", false)
def tyJ1 : Nat → FieldType := fun k => match k with
  | _ => .int
abbrev wsJ10 : List Cond := u_ws RJ1 TJ1 0
theorem nmJ1 : ∀ a, a < 0 → ∀ b, b < 0 → a ≠ b → (TJ1 a).2.1 ≠ (TJ1 b).2.1 := by decide +kernel
theorem tyJ1_ok : ∀ k, k < 0 → parseFieldDescriptor (TJ1 k).2.2.1 = some (tyJ1 k) := by decide +kernel
abbrev cJ1_charAt_3b067 : ByteArray := prog_28_method_2_code
def yJ1_charAt_3b067 : MethodName := ⟨RJ1, "charAt", "([BI)C"⟩
abbrev cJ1_inflate_0e8fd : ByteArray := prog_28_method_50_code
def yJ1_inflate_0e8fd : MethodName := ⟨RJ1, "inflate", "([BI[BII)V"⟩
def RJ2 : String := "java/lang/StringUTF16"
def TJ2 : u_T := fun k => match k with
  | _ => ("", "", "", false)
def tyJ2 : Nat → FieldType := fun k => match k with
  | _ => .int
abbrev wsJ20 : List Cond := u_ws RJ2 TJ2 0
theorem nmJ2 : ∀ a, a < 0 → ∀ b, b < 0 → a ≠ b → (TJ2 a).2.1 ≠ (TJ2 b).2.1 := by decide +kernel
theorem tyJ2_ok : ∀ k, k < 0 → parseFieldDescriptor (TJ2 k).2.2.1 = some (tyJ2 k) := by decide +kernel
abbrev cJ2_newBytesFor_77867 : ByteArray := prog_29_method_2_code
def yJ2_newBytesFor_77867 : MethodName := ⟨RJ2, "newBytesFor", "(I)[B"⟩
abbrev cJ2_newBytesLength_0f7a4 : ByteArray := prog_29_method_3_code
def yJ2_newBytesLength_0f7a4 : MethodName := ⟨RJ2, "newBytesLength", "(I)I"⟩
abbrev cJ2_putChar_b72d1 : ByteArray := prog_29_method_4_code
def yJ2_putChar_b72d1 : MethodName := ⟨RJ2, "putChar", "([BII)V"⟩
abbrev cJ2_getChar_3b067 : ByteArray := prog_29_method_5_code
def yJ2_getChar_3b067 : MethodName := ⟨RJ2, "getChar", "([BI)C"⟩
abbrev cJ2_length_9d52b : ByteArray := prog_29_method_6_code
def yJ2_length_9d52b : MethodName := ⟨RJ2, "length", "([B)I"⟩
abbrev cJ2_coderFromArrayLen_85cad : ByteArray := prog_29_method_15_code
def yJ2_coderFromArrayLen_85cad : MethodName := ⟨RJ2, "coderFromArrayLen", "([BI)B"⟩
abbrev cJ2_compress_39247 : ByteArray := prog_29_method_17_code
def yJ2_compress_39247 : MethodName := ⟨RJ2, "compress", "([BII)[B"⟩
abbrev cJ2_compress_5af95 : ByteArray := prog_29_method_22_code
def yJ2_compress_5af95 : MethodName := ⟨RJ2, "compress", "([BI[BII)I"⟩
abbrev cJ2_getChars_46870 : ByteArray := prog_29_method_77_code
def yJ2_getChars_46870 : MethodName := ⟨RJ2, "getChars", "(III[B)I"⟩
abbrev cJ2_putCharsAt_cd4e5 : ByteArray := prog_29_method_81_code
def yJ2_putCharsAt_cd4e5 : MethodName := ⟨RJ2, "putCharsAt", "([BICCCC)I"⟩
abbrev cJ2_charAt_3b067 : ByteArray := prog_29_method_83_code
def yJ2_charAt_3b067 : MethodName := ⟨RJ2, "charAt", "([BI)C"⟩
abbrev cJ2_inflate_0e8fd : ByteArray := prog_29_method_86_code
def yJ2_inflate_0e8fd : MethodName := ⟨RJ2, "inflate", "([BI[BII)V"⟩
abbrev cJ2_getChars_ba4f3 : ByteArray := prog_29_method_89_code
def yJ2_getChars_ba4f3 : MethodName := ⟨RJ2, "getChars", "(II[B)I"⟩
abbrev cJ2_checkIndex_2214a : ByteArray := prog_29_method_91_code
def yJ2_checkIndex_2214a : MethodName := ⟨RJ2, "checkIndex", "(I[B)V"⟩
abbrev cJ2_checkBoundsBeginEnd_d044e : ByteArray := prog_29_method_93_code
def yJ2_checkBoundsBeginEnd_d044e : MethodName := ⟨RJ2, "checkBoundsBeginEnd", "(II[B)V"⟩
abbrev cJ2_checkBoundsOffCount_d044e : ByteArray := prog_29_method_94_code
def yJ2_checkBoundsOffCount_d044e : MethodName := ⟨RJ2, "checkBoundsOffCount", "(II[B)V"⟩
def RJ10 : String := "java/lang/System"
def TJ10 : u_T := fun k => match k with
  | _ => ("", "", "", false)
def tyJ10 : Nat → FieldType := fun k => match k with
  | _ => .int
abbrev wsJ100 : List Cond := u_ws RJ10 TJ10 0
theorem nmJ10 : ∀ a, a < 0 → ∀ b, b < 0 → a ≠ b → (TJ10 a).2.1 ≠ (TJ10 b).2.1 := by decide +kernel
theorem tyJ10_ok : ∀ k, k < 0 → parseFieldDescriptor (TJ10 k).2.2.1 = some (tyJ10 k) := by decide +kernel
def RJxa1e45 : String := "java/util/AbstractCollection"
def TJxa1e45 : u_T := fun k => match k with
  | _ => ("", "", "", false)
def tyJxa1e45 : Nat → FieldType := fun k => match k with
  | _ => .int
abbrev wsJxa1e450 : List Cond := u_ws RJxa1e45 TJxa1e45 0
theorem nmJxa1e45 : ∀ a, a < 0 → ∀ b, b < 0 → a ≠ b → (TJxa1e45 a).2.1 ≠ (TJxa1e45 b).2.1 := by decide +kernel
theorem tyJxa1e45_ok : ∀ k, k < 0 → parseFieldDescriptor (TJxa1e45 k).2.2.1 = some (tyJxa1e45 k) := by decide +kernel
abbrev cJxa1e45_init_da8c8 : ByteArray := prog_32_method_1_code
def yJxa1e45_init_da8c8 : MethodName := ⟨RJxa1e45, "<init>", "()V"⟩
def RJxc12de : String := "java/util/AbstractList"
def TJxc12de : u_T := fun k => match k with
  | _ => ("", "", "", false)
def tyJxc12de : Nat → FieldType := fun k => match k with
  | _ => .int
abbrev wsJxc12de0 : List Cond := u_ws RJxc12de TJxc12de 0
theorem nmJxc12de : ∀ a, a < 0 → ∀ b, b < 0 → a ≠ b → (TJxc12de a).2.1 ≠ (TJxc12de b).2.1 := by decide +kernel
theorem tyJxc12de_ok : ∀ k, k < 0 → parseFieldDescriptor (TJxc12de k).2.2.1 = some (tyJxc12de k) := by decide +kernel
abbrev cJxc12de_init_da8c8 : ByteArray := prog_33_method_1_code
def yJxc12de_init_da8c8 : MethodName := ⟨RJxc12de, "<init>", "()V"⟩
def RJx4a65c : String := "java/util/ArrayList"
def TJx4a65c : u_T := fun k => match k with
  | 0 => ("java/util/AbstractList", "modCount", "I", false)
  | 1 => ("java/util/ArrayList", "elementData", "[Ljava/lang/Object;", false)
  | _ => ("java/util/ArrayList", "size", "I", false)
def tyJx4a65c : Nat → FieldType := fun k => match k with
  | 0 => .int
  | 1 => .array (.object "java/lang/Object")
  | _ => .int
abbrev wsJx4a65c0 : List Cond := u_ws RJx4a65c TJx4a65c 3
theorem nmJx4a65c : ∀ a, a < 3 → ∀ b, b < 3 → a ≠ b → (TJx4a65c a).2.1 ≠ (TJx4a65c b).2.1 := by decide +kernel
theorem tyJx4a65c_ok : ∀ k, k < 3 → parseFieldDescriptor (TJx4a65c k).2.2.1 = some (tyJx4a65c k) := by decide +kernel
abbrev cJx4a65c_init_da8c8 : ByteArray := prog_34_method_2_code
def yJx4a65c_init_da8c8 : MethodName := ⟨RJx4a65c, "<init>", "()V"⟩
abbrev cJx4a65c_grow_92f84 : ByteArray := prog_34_method_6_code
def yJx4a65c_grow_92f84 : MethodName := ⟨RJx4a65c, "grow", "(I)[Ljava/lang/Object;"⟩
abbrev cJx4a65c_grow_d5877 : ByteArray := prog_34_method_7_code
def yJx4a65c_grow_d5877 : MethodName := ⟨RJx4a65c, "grow", "()[Ljava/lang/Object;"⟩
abbrev cJx4a65c_size_8abf5 : ByteArray := prog_34_method_8_code
def yJx4a65c_size_8abf5 : MethodName := ⟨RJx4a65c, "size", "()I"⟩
abbrev cJx4a65c_elementData_915e3 : ByteArray := prog_34_method_18_code
def yJx4a65c_elementData_915e3 : MethodName := ⟨RJx4a65c, "elementData", "(I)Ljava/lang/Object;"⟩
abbrev cJx4a65c_get_915e3 : ByteArray := prog_34_method_20_code
def yJx4a65c_get_915e3 : MethodName := ⟨RJx4a65c, "get", "(I)Ljava/lang/Object;"⟩
abbrev cJx4a65c_add_72be8 : ByteArray := prog_34_method_24_code
def yJx4a65c_add_72be8 : MethodName := ⟨RJx4a65c, "add", "(Ljava/lang/Object;[Ljava/lang/Object;I)V"⟩
abbrev cJx4a65c_add_9ea2d : ByteArray := prog_34_method_25_code
def yJx4a65c_add_9ea2d : MethodName := ⟨RJx4a65c, "add", "(Ljava/lang/Object;)Z"⟩
abbrev cJx4a65c_add_7a177 : ByteArray := prog_34_method_26_code
def yJx4a65c_add_7a177 : MethodName := ⟨RJx4a65c, "add", "(ILjava/lang/Object;)V"⟩
abbrev cJx4a65c_remove_915e3 : ByteArray := prog_34_method_29_code
def yJx4a65c_remove_915e3 : MethodName := ⟨RJx4a65c, "remove", "(I)Ljava/lang/Object;"⟩
abbrev cJx4a65c_fastRemove_b59b0 : ByteArray := prog_34_method_39_code
def yJx4a65c_fastRemove_b59b0 : MethodName := ⟨RJx4a65c, "fastRemove", "([Ljava/lang/Object;I)V"⟩
abbrev cJx4a65c_clear_da8c8 : ByteArray := prog_34_method_40_code
def yJx4a65c_clear_da8c8 : MethodName := ⟨RJx4a65c, "clear", "()V"⟩
abbrev cJx4a65c_rangeCheckForAdd_d00df : ByteArray := prog_34_method_45_code
def yJx4a65c_rangeCheckForAdd_d00df : MethodName := ⟨RJx4a65c, "rangeCheckForAdd", "(I)V"⟩
abbrev cJx4a65c_outOfBoundsMsg_b52d3 : ByteArray := prog_34_method_46_code
def yJx4a65c_outOfBoundsMsg_b52d3 : MethodName := ⟨RJx4a65c, "outOfBoundsMsg", "(I)Ljava/lang/String;"⟩
def RJ7 : String := "java/util/Arrays"
def TJ7 : u_T := fun k => match k with
  | _ => ("", "", "", false)
def tyJ7 : Nat → FieldType := fun k => match k with
  | _ => .int
abbrev wsJ70 : List Cond := u_ws RJ7 TJ7 0
theorem nmJ7 : ∀ a, a < 0 → ∀ b, b < 0 → a ≠ b → (TJ7 a).2.1 ≠ (TJ7 b).2.1 := by decide +kernel
theorem tyJ7_ok : ∀ k, k < 0 → parseFieldDescriptor (TJ7 k).2.2.1 = some (tyJ7 k) := by decide +kernel
abbrev cJ7_copyOf_1904c : ByteArray := prog_35_method_119_code
def yJ7_copyOf_1904c : MethodName := ⟨RJ7, "copyOf", "([Ljava/lang/Object;I)[Ljava/lang/Object;"⟩
abbrev cJ7_copyOf_6403c : ByteArray := prog_35_method_120_code
def yJ7_copyOf_6403c : MethodName := ⟨RJ7, "copyOf", "([Ljava/lang/Object;ILjava/lang/Class;)[Ljava/lang/Object;"⟩
abbrev cJ7_copyOf_9075b : ByteArray := prog_35_method_121_code
def yJ7_copyOf_9075b : MethodName := ⟨RJ7, "copyOf", "([BI)[B"⟩
abbrev cJ7_copyOf_59c91 : ByteArray := prog_35_method_123_code
def yJ7_copyOf_59c91 : MethodName := ⟨RJ7, "copyOf", "([II)[I"⟩
abbrev cJ7_checkLength_df160 : ByteArray := prog_35_method_131_code
def yJ7_checkLength_df160 : MethodName := ⟨RJ7, "checkLength", "(II)V"⟩
abbrev cJ7_copyOfRange_39247 : ByteArray := prog_35_method_132_code
def yJ7_copyOfRange_39247 : MethodName := ⟨RJ7, "copyOfRange", "([BII)[B"⟩
abbrev cJ7_copyOfRangeByte_39247 : ByteArray := prog_35_method_133_code
def yJ7_copyOfRangeByte_39247 : MethodName := ⟨RJ7, "copyOfRangeByte", "([BII)[B"⟩
def RJx5ef63 : String := "java/util/Collection"
def TJx5ef63 : u_T := fun k => match k with
  | _ => ("", "", "", false)
def tyJx5ef63 : Nat → FieldType := fun k => match k with
  | _ => .int
abbrev wsJx5ef630 : List Cond := u_ws RJx5ef63 TJx5ef63 0
theorem nmJx5ef63 : ∀ a, a < 0 → ∀ b, b < 0 → a ≠ b → (TJx5ef63 a).2.1 ≠ (TJx5ef63 b).2.1 := by decide +kernel
theorem tyJx5ef63_ok : ∀ k, k < 0 → parseFieldDescriptor (TJx5ef63 k).2.2.1 = some (tyJx5ef63 k) := by decide +kernel
def RJxbd725 : String := "java/util/List"
def TJxbd725 : u_T := fun k => match k with
  | _ => ("", "", "", false)
def tyJxbd725 : Nat → FieldType := fun k => match k with
  | _ => .int
abbrev wsJxbd7250 : List Cond := u_ws RJxbd725 TJxbd725 0
theorem nmJxbd725 : ∀ a, a < 0 → ∀ b, b < 0 → a ≠ b → (TJxbd725 a).2.1 ≠ (TJxbd725 b).2.1 := by decide +kernel
theorem tyJxbd725_ok : ∀ k, k < 0 → parseFieldDescriptor (TJxbd725 k).2.2.1 = some (tyJxbd725 k) := by decide +kernel
def RJ15 : String := "java/util/Objects"
def TJ15 : u_T := fun k => match k with
  | _ => ("", "", "", false)
def tyJ15 : Nat → FieldType := fun k => match k with
  | _ => .int
abbrev wsJ150 : List Cond := u_ws RJ15 TJ15 0
theorem nmJ15 : ∀ a, a < 0 → ∀ b, b < 0 → a ≠ b → (TJ15 a).2.1 ≠ (TJ15 b).2.1 := by decide +kernel
theorem tyJ15_ok : ∀ k, k < 0 → parseFieldDescriptor (TJ15 k).2.2.1 = some (tyJ15 k) := by decide +kernel
abbrev cJ15_checkIndex_7cf53 : ByteArray := prog_38_method_17_code
def yJ15_checkIndex_7cf53 : MethodName := ⟨RJ15, "checkIndex", "(II)I"⟩
def RJxf0a74 : String := "java/util/RandomAccess"
def TJxf0a74 : u_T := fun k => match k with
  | _ => ("", "", "", false)
def tyJxf0a74 : Nat → FieldType := fun k => match k with
  | _ => .int
abbrev wsJxf0a740 : List Cond := u_ws RJxf0a74 TJxf0a74 0
theorem nmJxf0a74 : ∀ a, a < 0 → ∀ b, b < 0 → a ≠ b → (TJxf0a74 a).2.1 ≠ (TJxf0a74 b).2.1 := by decide +kernel
theorem tyJxf0a74_ok : ∀ k, k < 0 → parseFieldDescriptor (TJxf0a74 k).2.2.1 = some (tyJxf0a74 k) := by decide +kernel
def RJxa66e6 : String := "java/util/SequencedCollection"
def TJxa66e6 : u_T := fun k => match k with
  | _ => ("", "", "", false)
def tyJxa66e6 : Nat → FieldType := fun k => match k with
  | _ => .int
abbrev wsJxa66e60 : List Cond := u_ws RJxa66e6 TJxa66e6 0
theorem nmJxa66e6 : ∀ a, a < 0 → ∀ b, b < 0 → a ≠ b → (TJxa66e6 a).2.1 ≠ (TJxa66e6 b).2.1 := by decide +kernel
theorem tyJxa66e6_ok : ∀ k, k < 0 → parseFieldDescriptor (TJxa66e6 k).2.2.1 = some (tyJxa66e6 k) := by decide +kernel
def RJ8 : String := "jdk/internal/util/ArraysSupport"
def TJ8 : u_T := fun k => match k with
  | _ => ("", "", "", false)
def tyJ8 : Nat → FieldType := fun k => match k with
  | _ => .int
abbrev wsJ80 : List Cond := u_ws RJ8 TJ8 0
theorem nmJ8 : ∀ a, a < 0 → ∀ b, b < 0 → a ≠ b → (TJ8 a).2.1 ≠ (TJ8 b).2.1 := by decide +kernel
theorem tyJ8_ok : ∀ k, k < 0 → parseFieldDescriptor (TJ8 k).2.2.1 = some (tyJ8 k) := by decide +kernel
abbrev cJ8_newLength_cabcc : ByteArray := prog_41_method_27_code
def yJ8_newLength_cabcc : MethodName := ⟨RJ8, "newLength", "(III)I"⟩
abbrev cJ8_hugeLength_7cf53 : ByteArray := prog_41_method_28_code
def yJ8_hugeLength_7cf53 : MethodName := ⟨RJ8, "hugeLength", "(II)I"⟩
def RJ3 : String := "jdk/internal/util/Preconditions"
def TJ3 : u_T := fun k => match k with
  | _ => ("", "", "", false)
def tyJ3 : Nat → FieldType := fun k => match k with
  | _ => .int
abbrev wsJ30 : List Cond := u_ws RJ3 TJ3 0
theorem nmJ3 : ∀ a, a < 0 → ∀ b, b < 0 → a ≠ b → (TJ3 a).2.1 ≠ (TJ3 b).2.1 := by decide +kernel
theorem tyJ3_ok : ∀ k, k < 0 → parseFieldDescriptor (TJ3 k).2.2.1 = some (tyJ3 k) := by decide +kernel
abbrev cJ3_checkIndex_8e157 : ByteArray := prog_42_method_11_code
def yJ3_checkIndex_8e157 : MethodName := ⟨RJ3, "checkIndex", "(IILjava/util/function/BiFunction;)I"⟩
abbrev cJ3_checkFromToIndex_8c36e : ByteArray := prog_42_method_12_code
def yJ3_checkFromToIndex_8c36e : MethodName := ⟨RJ3, "checkFromToIndex", "(IIILjava/util/function/BiFunction;)I"⟩
abbrev cJ3_checkFromIndexSize_8c36e : ByteArray := prog_42_method_13_code
def yJ3_checkFromIndexSize_8c36e : MethodName := ⟨RJ3, "checkFromIndexSize", "(IIILjava/util/function/BiFunction;)I"⟩
def RL : String := "PolicyTreeLaw"
abbrev cL_node : ByteArray := method_3_code
def yL_node : MethodName := ⟨RL, "node", "(LPolicyTree;I[J)I"⟩
abbrev cL_block : ByteArray := method_4_code
def yL_block : MethodName := ⟨RL, "block", "(LPolicyTree;IZ[J)I"⟩
abbrev cL_move : ByteArray := method_5_code
def yL_move : MethodName := ⟨RL, "move", "(LPolicyTree;II[J)I"⟩
abbrev cL_machine : ByteArray := method_6_code
def yL_machine : MethodName := ⟨RL, "machine", "(LPolicyTree;I[J)I"⟩
abbrev cL_fact : ByteArray := method_7_code
def yL_fact : MethodName := ⟨RL, "fact", "(LPolicyTree;III[J)I"⟩
abbrev cL_group : ByteArray := method_8_code
def yL_group : MethodName := ⟨RL, "group", "(LPolicyTree;[J)I"⟩
abbrev cL_joins : ByteArray := method_9_code
def yL_joins : MethodName := ⟨RL, "joins", "(LPolicyTree;IIZ[J)I"⟩
abbrev cL_within : ByteArray := method_10_code
def yL_within : MethodName := ⟨RL, "within", "(LPolicyTree;IIZ[J)I"⟩
abbrev cL_member : ByteArray := method_11_code
def yL_member : MethodName := ⟨RL, "member", "(LPolicyTree;II[J)I"⟩
abbrev cL_set : ByteArray := method_12_code
def yL_set : MethodName := ⟨RL, "set", "(LPolicyTree;[J)I"⟩
abbrev cL_tell : ByteArray := method_13_code
def yL_tell : MethodName := ⟨RL, "tell", "(LPolicyTree;III[J)I"⟩
abbrev cL_untell : ByteArray := method_14_code
def yL_untell : MethodName := ⟨RL, "untell", "(LPolicyTree;II[J)I"⟩
abbrev cL_law : ByteArray := method_15_code
def yL_law : MethodName := ⟨RL, "law", "(LPolicyTree;II[J)I"⟩
abbrev cL_link : ByteArray := method_16_code
def yL_link : MethodName := ⟨RL, "link", "(LPolicyTree;IIIZI[J)I"⟩
abbrev cL_end : ByteArray := method_17_code
def yL_end : MethodName := ⟨RL, "end", "(LPolicyTree;I[J)I"⟩
abbrev cL_outcome : ByteArray := method_18_code
def yL_outcome : MethodName := ⟨RL, "outcome", "(LPolicyTree;II[J)I"⟩
abbrev cL_value : ByteArray := method_19_code
def yL_value : MethodName := ⟨RL, "value", "(LPolicyTree;III[J)I"⟩
abbrev cL_reason : ByteArray := method_20_code
def yL_reason : MethodName := ⟨RL, "reason", "(LPolicyTree;II[J)I"⟩
abbrev cL_beaten : ByteArray := method_21_code
def yL_beaten : MethodName := ⟨RL, "beaten", "(LPolicyTree;III[J)I"⟩
abbrev cL_sure : ByteArray := method_22_code
def yL_sure : MethodName := ⟨RL, "sure", "(LPolicyTree;II[J)I"⟩
abbrev cL_reach : ByteArray := method_23_code
def yL_reach : MethodName := ⟨RL, "reach", "(LPolicyTree;I[J)I"⟩
abbrev cL_reached : ByteArray := method_24_code
def yL_reached : MethodName := ⟨RL, "reached", "(LPolicyTree;III[J)I"⟩
abbrev cL_quarrel : ByteArray := method_25_code
def yL_quarrel : MethodName := ⟨RL, "quarrel", "(LPolicyTree;II[J)I"⟩
abbrev cL_law_ : ByteArray := code
def yL_law_ : MethodName := ⟨RL, "law", "([I)Z"⟩
abbrev vwCl : List vw_C := [(RJ0, TJ0, 4), (RJ4, TJ4, 4), (RJx4a65c, TJx4a65c, 3), (RX0, TX0, 2), (RX1, TX1, 1), (RX2, TX2, 9), (RX3, TX3, 3), (RX4, TX4, 7), (RX5, TX5, 3), (RX6, TX6, 4), (RX7, TX7, 3), (RX8, TX8, 4), (RX9, TX9, 6), (RX10, TX10, 2), (RX11, TX11, 14), (RX12, TX12, 47)]
