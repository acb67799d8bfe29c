/-! ===== the words of the three exceptions ===== -/
abbrev eI : String := "java/lang/IndexOutOfBoundsException"
abbrev eA : String := "java/lang/IllegalArgumentException"
abbrev eS : String := "java/lang/IllegalStateException"
abbrev eN : List String := ["java/lang/RuntimeException", "java/lang/Exception"]
theorem ex_gI : ∀ w ∈ (vx_atS RX11 259 eI eN).filter goodWord, w ∈ lw_tbl := by decide +kernel
theorem ex_gA : ∀ w ∈ (vx_atS RX11 134 eA eN).filter goodWord, w ∈ lw_tbl := by decide +kernel
theorem ex_gS : ∀ w ∈ (vx_atS RX11 266 eS eN).filter goodWord, w ∈ lw_tbl := by decide +kernel
theorem ex_bI : ∀ w ∈ (vx_atS RX11 259 eI eN).filter (fun w => !goodWord w), w ∈ [Cond.castable eI eI, Cond.declares ⟨"java/lang/RuntimeException", "<init>", "(Ljava/lang/String;)V"⟩, Cond.declares ⟨"java/lang/Exception", "<init>", "(Ljava/lang/String;)V"⟩, Cond.declares ⟨"java/lang/Throwable", "<init>", "(Ljava/lang/String;)V"⟩] := by decide +kernel
theorem ex_bA : ∀ w ∈ (vx_atS RX11 134 eA eN).filter (fun w => !goodWord w), w ∈ [Cond.castable eA eA, Cond.declares ⟨"java/lang/RuntimeException", "<init>", "(Ljava/lang/String;)V"⟩, Cond.declares ⟨"java/lang/Exception", "<init>", "(Ljava/lang/String;)V"⟩, Cond.declares ⟨"java/lang/Throwable", "<init>", "(Ljava/lang/String;)V"⟩] := by decide +kernel
theorem ex_bS : ∀ w ∈ (vx_atS RX11 266 eS eN).filter (fun w => !goodWord w), w ∈ [Cond.castable eS eS, Cond.declares ⟨"java/lang/RuntimeException", "<init>", "(Ljava/lang/String;)V"⟩, Cond.declares ⟨"java/lang/Exception", "<init>", "(Ljava/lang/String;)V"⟩, Cond.declares ⟨"java/lang/Throwable", "<init>", "(Ljava/lang/String;)V"⟩] := by decide +kernel
theorem ex_oI : ∀ w ∈ Cond.classLink RX11 255 eI :: Cond.initialized eI :: vx_atS RX11 259 eI eN, vx_ot w = true := by decide +kernel
theorem ex_oA : ∀ w ∈ Cond.classLink RX11 130 eA :: Cond.initialized eA :: vx_atS RX11 134 eA eN, vx_ot w = true := by decide +kernel
theorem ex_oS : ∀ w ∈ Cond.classLink RX11 262 eS :: Cond.initialized eS :: vx_atS RX11 266 eS eN, vx_ot w = true := by decide +kernel
