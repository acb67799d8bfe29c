theorem cv_L_7 : CalV RL 7 RX11 yX11_node cX11_node 2 (some .int) 1 := ⟨wd_V wd_2_172 wd_2_173 wd_2_174 wd_1_1 wd_2_175, rfl, by decide +kernel, by decide +kernel, by decide +kernel⟩
theorem tk_L_node : ∀ e ∈ ([(eI, 12, 1), (eS, 15, 2)] : List (String × Nat × Int32)), Takes9 RL 4 (tableOf [(0, 9, 12, 13), (0, 9, 15, 15)]) e := (List.forall_mem_cons.mpr ⟨⟨[], ⟨0, 9, 12, 13⟩, [⟨0, 9, 15, 15⟩], rfl, (fun _ h => nomatch h), rfl, by decide, rfl, wd_2_170, List.mem_of_getElem? (i := 22) rfl⟩, (List.forall_mem_cons.mpr ⟨⟨[⟨0, 9, 12, 13⟩], ⟨0, 9, 15, 15⟩, [], rfl, (fun z hz => (List.mem_cons.mp hz).elim (fun h => by subst h; exact ⟨by decide, eI, wd_2_170, Or.inl ⟨rfl, rfl⟩⟩) (fun hz => nomatch hz)), rfl, by decide, rfl, wd_2_171, List.mem_of_getElem? (i := 24) rfl⟩, (fun _ h => nomatch h)⟩)⟩)
theorem cv_L_17 : CalV RL 17 RX11 yX11_block cX11_block 5 (some .boolean) 2 := ⟨wd_V wd_3_28 wd_3_29 wd_3_30 wd_1_1 wd_3_31, rfl, by decide +kernel, by decide +kernel, by decide +kernel⟩
theorem tk_L_block : ∀ e ∈ ([(eI, 20, 1)] : List (String × Nat × Int32)), Takes9 RL 5 (tableOf [(0, 17, 20, 13)]) e := (List.forall_mem_cons.mpr ⟨⟨[], ⟨0, 17, 20, 13⟩, [], rfl, (fun _ h => nomatch h), rfl, by decide, rfl, wd_2_170, List.mem_of_getElem? (i := 22) rfl⟩, (fun _ h => nomatch h)⟩)
theorem cv_L_21 : CalV RL 21 RX11 yX11_move cX11_move 7 (some .int) 2 := ⟨wd_V wd_3_35 wd_3_36 wd_3_37 wd_1_1 wd_3_38, rfl, by decide +kernel, by decide +kernel, by decide +kernel⟩
theorem tk_L_move : ∀ e ∈ ([(eI, 13, 1)] : List (String × Nat × Int32)), Takes9 RL 5 (tableOf [(0, 10, 13, 13)]) e := (List.forall_mem_cons.mpr ⟨⟨[], ⟨0, 10, 13, 13⟩, [], rfl, (fun _ h => nomatch h), rfl, by decide, rfl, wd_2_170, List.mem_of_getElem? (i := 22) rfl⟩, (fun _ h => nomatch h)⟩)
theorem cv_L_25 : CalV RL 25 RX11 yX11_machine cX11_machine 2 (some .int) 1 := ⟨wd_V wd_3_167 wd_3_168 wd_3_169 wd_1_1 wd_3_170, rfl, by decide +kernel, by decide +kernel, by decide +kernel⟩
theorem tk_L_machine : ∀ e ∈ ([(eI, 12, 1), (eS, 15, 2)] : List (String × Nat × Int32)), Takes9 RL 4 (tableOf [(0, 9, 12, 13), (0, 9, 15, 15)]) e := (List.forall_mem_cons.mpr ⟨⟨[], ⟨0, 9, 12, 13⟩, [⟨0, 9, 15, 15⟩], rfl, (fun _ h => nomatch h), rfl, by decide, rfl, wd_2_170, List.mem_of_getElem? (i := 22) rfl⟩, (List.forall_mem_cons.mpr ⟨⟨[⟨0, 9, 12, 13⟩], ⟨0, 9, 15, 15⟩, [], rfl, (fun z hz => (List.mem_cons.mp hz).elim (fun h => by subst h; exact ⟨by decide, eI, wd_2_170, Or.inl ⟨rfl, rfl⟩⟩) (fun hz => nomatch hz)), rfl, by decide, rfl, wd_2_171, List.mem_of_getElem? (i := 24) rfl⟩, (fun _ h => nomatch h)⟩)⟩)
theorem cv_L_28 : CalV RL 28 RX11 yX11_fact cX11_fact 6 (some .int) 3 := ⟨wd_V wd_3_192 wd_3_193 wd_3_194 wd_1_1 wd_3_195, rfl, by decide +kernel, by decide +kernel, by decide +kernel⟩
theorem tk_L_fact : ∀ e ∈ ([(eI, 15, 1), (eA, 19, 2)] : List (String × Nat × Int32)), Takes9 RL 7 (tableOf [(0, 12, 15, 13), (0, 12, 19, 32)]) e := (List.forall_mem_cons.mpr ⟨⟨[], ⟨0, 12, 15, 13⟩, [⟨0, 12, 19, 32⟩], rfl, (fun _ h => nomatch h), rfl, by decide, rfl, wd_2_170, List.mem_of_getElem? (i := 22) rfl⟩, (List.forall_mem_cons.mpr ⟨⟨[⟨0, 12, 15, 13⟩], ⟨0, 12, 19, 32⟩, [], rfl, (fun z hz => (List.mem_cons.mp hz).elim (fun h => by subst h; exact ⟨by decide, eI, wd_2_170, Or.inr (Or.inl ⟨rfl, rfl⟩)⟩) (fun hz => nomatch hz)), rfl, by decide, rfl, wd_3_191, List.mem_of_getElem? (i := 23) rfl⟩, (fun _ h => nomatch h)⟩)⟩)
theorem cv_L_34 : CalV RL 34 RX11 yX11_group cX11_group 1 (some .int) 0 := ⟨wd_V wd_3_227 wd_3_228 wd_3_229 wd_1_1 wd_3_230, rfl, by decide +kernel, by decide +kernel, by decide +kernel⟩
theorem tk_L_group : ∀ e ∈ ([(eS, 11, 1)] : List (String × Nat × Int32)), Takes9 RL 3 (tableOf [(0, 8, 11, 15)]) e := (List.forall_mem_cons.mpr ⟨⟨[], ⟨0, 8, 11, 15⟩, [], rfl, (fun _ h => nomatch h), rfl, by decide, rfl, wd_2_171, List.mem_of_getElem? (i := 24) rfl⟩, (fun _ h => nomatch h)⟩)
theorem cv_L_38 : CalV RL 38 RX11 yX11_joins cX11_joins 4 (some .boolean) 3 := ⟨wd_V wd_3_238 wd_3_239 wd_4_0 wd_1_1 wd_4_1, rfl, by decide +kernel, by decide +kernel, by decide +kernel⟩
theorem tk_L_joins : ∀ e ∈ ([(eI, 22, 1)] : List (String × Nat × Int32)), Takes9 RL 7 (tableOf [(0, 19, 22, 13)]) e := (List.forall_mem_cons.mpr ⟨⟨[], ⟨0, 19, 22, 13⟩, [], rfl, (fun _ h => nomatch h), rfl, by decide, rfl, wd_2_170, List.mem_of_getElem? (i := 22) rfl⟩, (fun _ h => nomatch h)⟩)
theorem cv_L_42 : CalV RL 42 RX11 yX11_within cX11_within 4 (some .boolean) 3 := ⟨wd_V wd_4_10 wd_4_11 wd_4_12 wd_1_1 wd_4_13, rfl, by decide +kernel, by decide +kernel, by decide +kernel⟩
theorem tk_L_within : ∀ e ∈ ([(eI, 22, 1)] : List (String × Nat × Int32)), Takes9 RL 7 (tableOf [(0, 19, 22, 13)]) e := (List.forall_mem_cons.mpr ⟨⟨[], ⟨0, 19, 22, 13⟩, [], rfl, (fun _ h => nomatch h), rfl, by decide, rfl, wd_2_170, List.mem_of_getElem? (i := 22) rfl⟩, (fun _ h => nomatch h)⟩)
theorem cv_L_45 : CalV RL 45 RX11 yX11_member cX11_member 3 (some .boolean) 2 := ⟨wd_V wd_4_21 wd_4_22 wd_4_23 wd_1_1 wd_4_24, rfl, by decide +kernel, by decide +kernel, by decide +kernel⟩
theorem tk_L_member : ∀ e ∈ ([(eI, 20, 1)] : List (String × Nat × Int32)), Takes9 RL 5 (tableOf [(0, 17, 20, 13)]) e := (List.forall_mem_cons.mpr ⟨⟨[], ⟨0, 17, 20, 13⟩, [], rfl, (fun _ h => nomatch h), rfl, by decide, rfl, wd_2_170, List.mem_of_getElem? (i := 22) rfl⟩, (fun _ h => nomatch h)⟩)
theorem cv_L_49 : CalV RL 49 RX11 yX11_set cX11_set 1 (some .int) 0 := ⟨wd_V wd_4_28 wd_4_29 wd_4_30 wd_1_1 wd_4_31, rfl, by decide +kernel, by decide +kernel, by decide +kernel⟩
theorem tk_L_set : ∀ e ∈ ([(eS, 11, 1)] : List (String × Nat × Int32)), Takes9 RL 3 (tableOf [(0, 8, 11, 15)]) e := (List.forall_mem_cons.mpr ⟨⟨[], ⟨0, 8, 11, 15⟩, [], rfl, (fun _ h => nomatch h), rfl, by decide, rfl, wd_2_171, List.mem_of_getElem? (i := 24) rfl⟩, (fun _ h => nomatch h)⟩)
theorem cv_L_52 : CalV RL 52 RX11 yX11_tell cX11_tell 4 (some .boolean) 3 := ⟨wd_V wd_4_48 wd_4_49 wd_4_50 wd_1_1 wd_4_51, rfl, by decide +kernel, by decide +kernel, by decide +kernel⟩
theorem tk_L_tell : ∀ e ∈ ([(eI, 22, 1), (eA, 26, 2)] : List (String × Nat × Int32)), Takes9 RL 7 (tableOf [(0, 19, 22, 13), (0, 19, 26, 32)]) e := (List.forall_mem_cons.mpr ⟨⟨[], ⟨0, 19, 22, 13⟩, [⟨0, 19, 26, 32⟩], rfl, (fun _ h => nomatch h), rfl, by decide, rfl, wd_2_170, List.mem_of_getElem? (i := 22) rfl⟩, (List.forall_mem_cons.mpr ⟨⟨[⟨0, 19, 22, 13⟩], ⟨0, 19, 26, 32⟩, [], rfl, (fun z hz => (List.mem_cons.mp hz).elim (fun h => by subst h; exact ⟨by decide, eI, wd_2_170, Or.inr (Or.inl ⟨rfl, rfl⟩)⟩) (fun hz => nomatch hz)), rfl, by decide, rfl, wd_3_191, List.mem_of_getElem? (i := 23) rfl⟩, (fun _ h => nomatch h)⟩)⟩)
theorem cv_L_56 : CalV RL 56 RX11 yX11_untell cX11_untell 3 (some .boolean) 2 := ⟨wd_V wd_4_60 wd_4_61 wd_4_62 wd_1_1 wd_4_63, rfl, by decide +kernel, by decide +kernel, by decide +kernel⟩
theorem tk_L_untell : ∀ e ∈ ([(eI, 20, 1), (eA, 24, 2)] : List (String × Nat × Int32)), Takes9 RL 5 (tableOf [(0, 17, 20, 13), (0, 17, 24, 32)]) e := (List.forall_mem_cons.mpr ⟨⟨[], ⟨0, 17, 20, 13⟩, [⟨0, 17, 24, 32⟩], rfl, (fun _ h => nomatch h), rfl, by decide, rfl, wd_2_170, List.mem_of_getElem? (i := 22) rfl⟩, (List.forall_mem_cons.mpr ⟨⟨[⟨0, 17, 20, 13⟩], ⟨0, 17, 24, 32⟩, [], rfl, (fun z hz => (List.mem_cons.mp hz).elim (fun h => by subst h; exact ⟨by decide, eI, wd_2_170, Or.inr (Or.inl ⟨rfl, rfl⟩)⟩) (fun hz => nomatch hz)), rfl, by decide, rfl, wd_3_191, List.mem_of_getElem? (i := 23) rfl⟩, (fun _ h => nomatch h)⟩)⟩)
theorem cv_L_59 : CalV RL 59 RX11 yX11_law cX11_law 4 (some .int) 2 := ⟨wd_V wd_4_71 wd_4_72 wd_4_73 wd_1_1 wd_4_74, rfl, by decide +kernel, by decide +kernel, by decide +kernel⟩
theorem tk_L_law : ∀ e ∈ ([(eA, 13, 1)] : List (String × Nat × Int32)), Takes9 RL 5 (tableOf [(0, 10, 13, 32)]) e := (List.forall_mem_cons.mpr ⟨⟨[], ⟨0, 10, 13, 32⟩, [], rfl, (fun _ h => nomatch h), rfl, by decide, rfl, wd_3_191, List.mem_of_getElem? (i := 23) rfl⟩, (fun _ h => nomatch h)⟩)
theorem cv_L_62 : CalV RL 62 RX11 yX11_link cX11_link 9 (some .int) 5 := ⟨wd_V wd_4_78 wd_4_79 wd_4_80 wd_1_1 wd_4_81, rfl, by decide +kernel, by decide +kernel, by decide +kernel⟩
theorem tk_L_link : ∀ e ∈ ([(eI, 19, 1), (eA, 23, 2), (eS, 27, 3)] : List (String × Nat × Int32)), Takes9 RL 11 (tableOf [(0, 16, 19, 13), (0, 16, 23, 32), (0, 16, 27, 15)]) e := (List.forall_mem_cons.mpr ⟨⟨[], ⟨0, 16, 19, 13⟩, [⟨0, 16, 23, 32⟩, ⟨0, 16, 27, 15⟩], rfl, (fun _ h => nomatch h), rfl, by decide, rfl, wd_2_170, List.mem_of_getElem? (i := 22) rfl⟩, (List.forall_mem_cons.mpr ⟨⟨[⟨0, 16, 19, 13⟩], ⟨0, 16, 23, 32⟩, [⟨0, 16, 27, 15⟩], rfl, (fun z hz => (List.mem_cons.mp hz).elim (fun h => by subst h; exact ⟨by decide, eI, wd_2_170, Or.inr (Or.inl ⟨rfl, rfl⟩)⟩) (fun hz => nomatch hz)), rfl, by decide, rfl, wd_3_191, List.mem_of_getElem? (i := 23) rfl⟩, (List.forall_mem_cons.mpr ⟨⟨[⟨0, 16, 19, 13⟩, ⟨0, 16, 23, 32⟩], ⟨0, 16, 27, 15⟩, [], rfl, (fun z hz => (List.mem_cons.mp hz).elim (fun h => by subst h; exact ⟨by decide, eI, wd_2_170, Or.inl ⟨rfl, rfl⟩⟩) (fun hz => (List.mem_cons.mp hz).elim (fun h => by subst h; exact ⟨by decide, eA, wd_3_191, Or.inr (Or.inr ⟨rfl, rfl⟩)⟩) (fun hz => nomatch hz))), rfl, by decide, rfl, wd_2_171, List.mem_of_getElem? (i := 24) rfl⟩, (fun _ h => nomatch h)⟩)⟩)⟩)
theorem cv_L_66 : CalV RL 66 RX11 yX11_end cX11_end 3 (some .boolean) 1 := ⟨wd_V wd_6_3 wd_6_4 wd_6_5 wd_1_1 wd_6_6, rfl, by decide +kernel, by decide +kernel, by decide +kernel⟩
theorem tk_L_end : ∀ e ∈ ([(eI, 19, 1)] : List (String × Nat × Int32)), Takes9 RL 4 (tableOf [(0, 16, 19, 13)]) e := (List.forall_mem_cons.mpr ⟨⟨[], ⟨0, 16, 19, 13⟩, [], rfl, (fun _ h => nomatch h), rfl, by decide, rfl, wd_2_170, List.mem_of_getElem? (i := 22) rfl⟩, (fun _ h => nomatch h)⟩)
theorem cv_L_70 : CalV RL 70 RX11 yX11_outcome cX11_outcome 3 (some .int) 2 := ⟨wd_V wd_6_22 wd_6_23 wd_6_24 wd_1_1 wd_6_25, rfl, by decide +kernel, by decide +kernel, by decide +kernel⟩
theorem tk_L_outcome : ∀ e ∈ ([(eI, 13, 1), (eA, 17, 2)] : List (String × Nat × Int32)), Takes9 RL 5 (tableOf [(0, 10, 13, 13), (0, 10, 17, 32)]) e := (List.forall_mem_cons.mpr ⟨⟨[], ⟨0, 10, 13, 13⟩, [⟨0, 10, 17, 32⟩], rfl, (fun _ h => nomatch h), rfl, by decide, rfl, wd_2_170, List.mem_of_getElem? (i := 22) rfl⟩, (List.forall_mem_cons.mpr ⟨⟨[⟨0, 10, 13, 13⟩], ⟨0, 10, 17, 32⟩, [], rfl, (fun z hz => (List.mem_cons.mp hz).elim (fun h => by subst h; exact ⟨by decide, eI, wd_2_170, Or.inr (Or.inl ⟨rfl, rfl⟩)⟩) (fun hz => nomatch hz)), rfl, by decide, rfl, wd_3_191, List.mem_of_getElem? (i := 23) rfl⟩, (fun _ h => nomatch h)⟩)⟩)
theorem cv_L_73 : CalV RL 73 RX11 yX11_value cX11_value 4 (some .int) 3 := ⟨wd_V wd_6_37 wd_6_38 wd_6_39 wd_1_1 wd_6_40, rfl, by decide +kernel, by decide +kernel, by decide +kernel⟩
theorem tk_L_value : ∀ e ∈ ([(eI, 15, 1), (eA, 19, 2)] : List (String × Nat × Int32)), Takes9 RL 7 (tableOf [(0, 12, 15, 13), (0, 12, 19, 32)]) e := (List.forall_mem_cons.mpr ⟨⟨[], ⟨0, 12, 15, 13⟩, [⟨0, 12, 19, 32⟩], rfl, (fun _ h => nomatch h), rfl, by decide, rfl, wd_2_170, List.mem_of_getElem? (i := 22) rfl⟩, (List.forall_mem_cons.mpr ⟨⟨[⟨0, 12, 15, 13⟩], ⟨0, 12, 19, 32⟩, [], rfl, (fun z hz => (List.mem_cons.mp hz).elim (fun h => by subst h; exact ⟨by decide, eI, wd_2_170, Or.inr (Or.inl ⟨rfl, rfl⟩)⟩) (fun hz => nomatch hz)), rfl, by decide, rfl, wd_3_191, List.mem_of_getElem? (i := 23) rfl⟩, (fun _ h => nomatch h)⟩)⟩)
theorem cv_L_76 : CalV RL 76 RX11 yX11_reason cX11_reason 4 (some .int) 2 := ⟨wd_V wd_6_45 wd_6_46 wd_6_47 wd_1_1 wd_6_48, rfl, by decide +kernel, by decide +kernel, by decide +kernel⟩
theorem tk_L_reason : ∀ e ∈ ([(eI, 13, 1), (eA, 17, 2)] : List (String × Nat × Int32)), Takes9 RL 5 (tableOf [(0, 10, 13, 13), (0, 10, 17, 32)]) e := (List.forall_mem_cons.mpr ⟨⟨[], ⟨0, 10, 13, 13⟩, [⟨0, 10, 17, 32⟩], rfl, (fun _ h => nomatch h), rfl, by decide, rfl, wd_2_170, List.mem_of_getElem? (i := 22) rfl⟩, (List.forall_mem_cons.mpr ⟨⟨[⟨0, 10, 13, 13⟩], ⟨0, 10, 17, 32⟩, [], rfl, (fun z hz => (List.mem_cons.mp hz).elim (fun h => by subst h; exact ⟨by decide, eI, wd_2_170, Or.inr (Or.inl ⟨rfl, rfl⟩)⟩) (fun hz => nomatch hz)), rfl, by decide, rfl, wd_3_191, List.mem_of_getElem? (i := 23) rfl⟩, (fun _ h => nomatch h)⟩)⟩)
theorem cv_L_79 : CalV RL 79 RX11 yX11_beaten cX11_beaten 7 (some .int) 3 := ⟨wd_V wd_6_56 wd_6_57 wd_6_58 wd_1_1 wd_6_59, rfl, by decide +kernel, by decide +kernel, by decide +kernel⟩
theorem tk_L_beaten : ∀ e ∈ ([(eI, 15, 1), (eA, 19, 2)] : List (String × Nat × Int32)), Takes9 RL 7 (tableOf [(0, 12, 15, 13), (0, 12, 19, 32)]) e := (List.forall_mem_cons.mpr ⟨⟨[], ⟨0, 12, 15, 13⟩, [⟨0, 12, 19, 32⟩], rfl, (fun _ h => nomatch h), rfl, by decide, rfl, wd_2_170, List.mem_of_getElem? (i := 22) rfl⟩, (List.forall_mem_cons.mpr ⟨⟨[⟨0, 12, 15, 13⟩], ⟨0, 12, 19, 32⟩, [], rfl, (fun z hz => (List.mem_cons.mp hz).elim (fun h => by subst h; exact ⟨by decide, eI, wd_2_170, Or.inr (Or.inl ⟨rfl, rfl⟩)⟩) (fun hz => nomatch hz)), rfl, by decide, rfl, wd_3_191, List.mem_of_getElem? (i := 23) rfl⟩, (fun _ h => nomatch h)⟩)⟩)
theorem cv_L_82 : CalV RL 82 RX11 yX11_sure cX11_sure 5 (some .boolean) 2 := ⟨wd_V wd_6_66 wd_6_67 wd_6_68 wd_1_1 wd_6_69, rfl, by decide +kernel, by decide +kernel, by decide +kernel⟩
theorem tk_L_sure : ∀ e ∈ ([(eI, 20, 1), (eA, 24, 2)] : List (String × Nat × Int32)), Takes9 RL 5 (tableOf [(0, 17, 20, 13), (0, 17, 24, 32)]) e := (List.forall_mem_cons.mpr ⟨⟨[], ⟨0, 17, 20, 13⟩, [⟨0, 17, 24, 32⟩], rfl, (fun _ h => nomatch h), rfl, by decide, rfl, wd_2_170, List.mem_of_getElem? (i := 22) rfl⟩, (List.forall_mem_cons.mpr ⟨⟨[⟨0, 17, 20, 13⟩], ⟨0, 17, 24, 32⟩, [], rfl, (fun z hz => (List.mem_cons.mp hz).elim (fun h => by subst h; exact ⟨by decide, eI, wd_2_170, Or.inr (Or.inl ⟨rfl, rfl⟩)⟩) (fun hz => nomatch hz)), rfl, by decide, rfl, wd_3_191, List.mem_of_getElem? (i := 23) rfl⟩, (fun _ h => nomatch h)⟩)⟩)
theorem cv_L_85 : CalV RL 85 RX11 yX11_reach cX11_reach 2 (some .int) 1 := ⟨wd_V wd_6_89 wd_6_90 wd_6_91 wd_1_1 wd_6_92, rfl, by decide +kernel, by decide +kernel, by decide +kernel⟩
theorem tk_L_reach : ∀ e ∈ ([(eI, 12, 1)] : List (String × Nat × Int32)), Takes9 RL 4 (tableOf [(0, 9, 12, 13)]) e := (List.forall_mem_cons.mpr ⟨⟨[], ⟨0, 9, 12, 13⟩, [], rfl, (fun _ h => nomatch h), rfl, by decide, rfl, wd_2_170, List.mem_of_getElem? (i := 22) rfl⟩, (fun _ h => nomatch h)⟩)
theorem cv_L_88 : CalV RL 88 RX11 yX11_reached cX11_reached 5 (some .int) 3 := ⟨wd_V wd_6_106 wd_6_107 wd_6_108 wd_1_1 wd_6_109, rfl, by decide +kernel, by decide +kernel, by decide +kernel⟩
theorem tk_L_reached : ∀ e ∈ ([(eI, 15, 1), (eA, 19, 2)] : List (String × Nat × Int32)), Takes9 RL 7 (tableOf [(0, 12, 15, 13), (0, 12, 19, 32)]) e := (List.forall_mem_cons.mpr ⟨⟨[], ⟨0, 12, 15, 13⟩, [⟨0, 12, 19, 32⟩], rfl, (fun _ h => nomatch h), rfl, by decide, rfl, wd_2_170, List.mem_of_getElem? (i := 22) rfl⟩, (List.forall_mem_cons.mpr ⟨⟨[⟨0, 12, 15, 13⟩], ⟨0, 12, 19, 32⟩, [], rfl, (fun z hz => (List.mem_cons.mp hz).elim (fun h => by subst h; exact ⟨by decide, eI, wd_2_170, Or.inr (Or.inl ⟨rfl, rfl⟩)⟩) (fun hz => nomatch hz)), rfl, by decide, rfl, wd_3_191, List.mem_of_getElem? (i := 23) rfl⟩, (fun _ h => nomatch h)⟩)⟩)
theorem cv_L_91 : CalV RL 91 RX11 yX11_quarrel cX11_quarrel 7 (some .int) 2 := ⟨wd_V wd_6_113 wd_6_114 wd_6_115 wd_1_1 wd_6_116, rfl, by decide +kernel, by decide +kernel, by decide +kernel⟩
theorem tk_L_quarrel : ∀ e ∈ ([(eA, 13, 1)] : List (String × Nat × Int32)), Takes9 RL 5 (tableOf [(0, 10, 13, 32)]) e := (List.forall_mem_cons.mpr ⟨⟨[], ⟨0, 10, 13, 32⟩, [], rfl, (fun _ h => nomatch h), rfl, by decide, rfl, wd_3_191, List.mem_of_getElem? (i := 23) rfl⟩, (fun _ h => nomatch h)⟩)
/-! PolicyTreeLaw.node(LPolicyTree;I[J)I -/
theorem dL_node_0 : decode cL_node 0 = .ok (.aload_n 2, 1) := by decide +kernel
theorem dL_node_1 : decode cL_node 1 = .ok (.iconst 0, 1) := by decide +kernel
theorem dL_node_2 : decode cL_node 2 = .ok (.aload_n 0, 1) := by decide +kernel
theorem dL_node_3 : decode cL_node 3 = .ok (.iload_n 1, 1) := by decide +kernel
theorem dL_node_4 : decode cL_node 4 = .ok (.invokevirtual 7, 3) := by decide +kernel
theorem dL_node_7 : decode cL_node 7 = .ok (.i2l, 1) := by decide +kernel
theorem dL_node_8 : decode cL_node 8 = .ok (.lastore, 1) := by decide +kernel
theorem dL_node_9 : decode cL_node 9 = .ok (.goto 9, 3) := by decide +kernel
theorem dL_node_12 : decode cL_node 12 = .ok (.astore_n 3, 1) := by decide +kernel
theorem dL_node_13 : decode cL_node 13 = .ok (.iconst 1, 1) := by decide +kernel
theorem dL_node_14 : decode cL_node 14 = .ok (.ireturn, 1) := by decide +kernel
theorem dL_node_15 : decode cL_node 15 = .ok (.astore_n 3, 1) := by decide +kernel
theorem dL_node_16 : decode cL_node 16 = .ok (.iconst 2, 1) := by decide +kernel
theorem dL_node_17 : decode cL_node 17 = .ok (.ireturn, 1) := by decide +kernel
theorem dL_node_18 : decode cL_node 18 = .ok (.iconst 0, 1) := by decide +kernel
theorem dL_node_19 : decode cL_node 19 = .ok (.ireturn, 1) := by decide +kernel
def f_L_node (Z : Nat → Nat) (r0 : Option Nat) (x1 : Int32) (r2 : Option Nat) : Mo Int32 := mh [(eI, 12, 1), (eS, 15, 2)] (mo 14 r0 (f_X11_node Z r0 x1)) (fun v4 => mb (sL r2 (0 : Int32) (Int32.toInt64 v4)) (fun _ => mp (0 : Int32)))
set_option maxRecDepth 100000 in
set_option maxHeartbeats 4000000 in
theorem s_L_node {X : Cg} (cx : Cx X cL_node RL 4) (hfr : 8 ≤ (xR X).frames) (hlo : 191 ≤ (xR X).locals) (hr : (xM X).sig.returnType = (some .int)) (hth : (xL X).stackTraces = false ∧ (xC X).exceptionTable.toList = tableOf [(0, 9, 12, 13), (0, 9, 15, 15)]) (r0 : Option Nat) (x1 : Int32) (r2 : Option Nat) : Sim X 4 (FiH X vI) 0 [(0, va_rf r0), (1, .int x1), (2, va_rf r2)] [] (f_L_node (xZ X) r0 x1 r2) := by
  unfold f_L_node
  refine sm_aload_n cx 2 dL_node_0 rfl rfl ?_
  refine sm_iconst (v := 0) cx dL_node_1 (by decide) ?_
  refine sm_aload_n cx 0 dL_node_2 rfl rfl ?_
  refine sm_iload_n cx 1 dL_node_3 rfl rfl ?_
  refine sm_tryV (T := TX11) (N := 14) (toV := vI) cx hth [.int x1] rfl cv_L_7 (fun a h => ct_X11_node (xZ X) a h x1) (Nat.le_trans (by decide) hfr) (Nat.le_trans (by decide) hlo) rfl (cat_le _ (Nat.le_of_ble_eq_true rfl)) dL_node_4 tk_L_node (fun e he q => (List.mem_cons.mp he).elim (fun h => by subst h; exact sm_astore_n cx [(3, va_rf (some q)), (0, va_rf r0), (1, .int x1), (2, va_rf r2)] dL_node_12 rfl (by decide) rfl (nc1 (rf_cat _)) rfl (sm_iconst (v := 1) cx dL_node_13 (by decide) (sh_iret cx hr dL_node_14))) (fun he => (List.mem_cons.mp he).elim (fun h => by subst h; exact sm_astore_n cx [(3, va_rf (some q)), (0, va_rf r0), (1, .int x1), (2, va_rf r2)] dL_node_15 rfl (by decide) rfl (nc1 (rf_cat _)) rfl (sm_iconst (v := 2) cx dL_node_16 (by decide) (sh_iret cx hr dL_node_17))) (fun he => nomatch he))) (fun v4 => ?_)
  refine sm_i2l cx dL_node_7 ?_
  refine sm_last cx dL_node_8 ?_
  refine sm_goto (tgt := 18) cx dL_node_9 (by decide) ?_
  refine sm_iconst (v := 0) cx dL_node_18 (by decide) ?_
  exact sh_iret cx hr dL_node_19
set_option maxRecDepth 100000 in
set_option maxHeartbeats 4000000 in
theorem ct_L_node (Z : Nat → Nat) (r0 : Option Nat) (x1 : Int32) (r2 : Option Nat) : CtH yL_node cL_node 4 (some .int) [(0, 9, 12, 13), (0, 9, 15, 15)] 8 191 Z [va_rf r0, .int x1, va_rf r2] vI (f_L_node Z r0 x1 r2) := by
  refine cth_of (hh := [(0, 9, 12, 13), (0, 9, 15, 15)]) (lv0 := [(0, va_rf r0), (1, .int x1), (2, va_rf r2)]) (by decide +kernel) (by simp [lg_sl, ct_i, ct_l, ct_r, rf_cat]) (by show _ = ([(0, va_rf r0), (1, .int x1), (2, va_rf r2)] : List (Nat × Value)); simp [lv_args, ct_i, ct_l, ct_r, rf_cat]) (fun X cx hZ hfr hlo hr hth => ?_)
  subst hZ
  exact s_L_node cx (Nat.le_of_eq hfr.symm) (Nat.le_of_eq hlo.symm) hr hth r0 x1 r2
/-! PolicyTreeLaw.block(LPolicyTree;IZ[J)I -/
theorem dL_block_0 : decode cL_block 0 = .ok (.aload_n 3, 1) := by decide +kernel
theorem dL_block_1 : decode cL_block 1 = .ok (.iconst 0, 1) := by decide +kernel
theorem dL_block_2 : decode cL_block 2 = .ok (.aload_n 0, 1) := by decide +kernel
theorem dL_block_3 : decode cL_block 3 = .ok (.iload_n 1, 1) := by decide +kernel
theorem dL_block_4 : decode cL_block 4 = .ok (.iload_n 2, 1) := by decide +kernel
theorem dL_block_5 : decode cL_block 5 = .ok (.invokevirtual 17, 3) := by decide +kernel
theorem dL_block_8 : decode cL_block 8 = .ok (.ifCond .eq 7, 3) := by decide +kernel
theorem dL_block_11 : decode cL_block 11 = .ok (.lconst 1, 1) := by decide +kernel
theorem dL_block_12 : decode cL_block 12 = .ok (.goto 4, 3) := by decide +kernel
theorem dL_block_15 : decode cL_block 15 = .ok (.lconst 0, 1) := by decide +kernel
theorem dL_block_16 : decode cL_block 16 = .ok (.lastore, 1) := by decide +kernel
theorem dL_block_17 : decode cL_block 17 = .ok (.goto 7, 3) := by decide +kernel
theorem dL_block_20 : decode cL_block 20 = .ok (.astore 4, 2) := by decide +kernel
theorem dL_block_22 : decode cL_block 22 = .ok (.iconst 1, 1) := by decide +kernel
theorem dL_block_23 : decode cL_block 23 = .ok (.ireturn, 1) := by decide +kernel
theorem dL_block_24 : decode cL_block 24 = .ok (.iconst 0, 1) := by decide +kernel
theorem dL_block_25 : decode cL_block 25 = .ok (.ireturn, 1) := by decide +kernel
def f_L_block_16 (sr0 : Option Nat) (sx1 : Int32) (sl2 : Int64) : Mo Int32 := mb (sL sr0 sx1 sl2) (fun _ => mp (0 : Int32))
set_option maxRecDepth 100000 in
set_option maxHeartbeats 4000000 in
theorem s_L_block_16 {X : Cg} (cx : Cx X cL_block RL 5) (hfr : 8 ≤ (xR X).frames) (hlo : 135 ≤ (xR X).locals) (hr : (xM X).sig.returnType = (some .int)) (hth : (xL X).stackTraces = false ∧ (xC X).exceptionTable.toList = tableOf [(0, 17, 20, 13)]) (sr0 : Option Nat) (sx1 : Int32) (sl2 : Int64) : Sim X 5 (FiH X vI) 16 [] [.long sl2, .int sx1, va_rf sr0] (f_L_block_16 sr0 sx1 sl2) := by
  unfold f_L_block_16
  refine sm_last cx dL_block_16 ?_
  refine sm_goto (tgt := 24) cx dL_block_17 (by decide) ?_
  refine sm_iconst (v := 0) cx dL_block_24 (by decide) ?_
  exact sh_iret cx hr dL_block_25
def f_L_block (r0 : Option Nat) (x1 : Int32) (x2 : Int32) (r3 : Option Nat) : Mo Int32 := mh [(eI, 20, 1)] (mo 14 r0 (f_X11_block r0 x1 x2)) (fun v5 => (if v5 = 0 then f_L_block_16 r3 (0 : Int32) (0 : Int64) else f_L_block_16 r3 (0 : Int32) (1 : Int64)))
set_option maxRecDepth 100000 in
set_option maxHeartbeats 4000000 in
theorem s_L_block {X : Cg} (cx : Cx X cL_block RL 5) (hfr : 8 ≤ (xR X).frames) (hlo : 135 ≤ (xR X).locals) (hr : (xM X).sig.returnType = (some .int)) (hth : (xL X).stackTraces = false ∧ (xC X).exceptionTable.toList = tableOf [(0, 17, 20, 13)]) (r0 : Option Nat) (x1 : Int32) (x2 : Int32) (r3 : Option Nat) : Sim X 5 (FiH X vI) 0 [(0, va_rf r0), (1, .int x1), (2, .int x2), (3, va_rf r3)] [] (f_L_block r0 x1 x2 r3) := by
  unfold f_L_block
  refine sm_aload_n cx 3 dL_block_0 rfl rfl ?_
  refine sm_iconst (v := 0) cx dL_block_1 (by decide) ?_
  refine sm_aload_n cx 0 dL_block_2 rfl rfl ?_
  refine sm_iload_n cx 1 dL_block_3 rfl rfl ?_
  refine sm_iload_n cx 2 dL_block_4 rfl rfl ?_
  refine sm_tryV (T := TX11) (N := 14) (toV := vI) cx hth [.int x1, .int x2] rfl cv_L_17 (fun a h => ct_X11_block (xZ X) a h x1 x2) (Nat.le_trans (by decide) hfr) (Nat.le_trans (by decide) hlo) rfl (cat_le _ (Nat.le_of_ble_eq_true rfl)) dL_block_5 tk_L_block (fun e he q => (List.mem_cons.mp he).elim (fun h => by subst h; exact sm_astore cx [(4, va_rf (some q)), (0, va_rf r0), (1, .int x1), (2, .int x2), (3, va_rf r3)] dL_block_20 (by decide) rfl (nc1 (rf_cat _)) rfl (sm_iconst (v := 1) cx dL_block_22 (by decide) (sh_iret cx hr dL_block_23))) (fun he => nomatch he)) (fun v5 => ?_)
  refine sm_if_eq (tgt := 15) cx dL_block_8 (by decide) ?_ ?_
  · refine sm_lconst (v := 0) cx dL_block_15 (by decide) ?_
    exact sm_lv [] rfl (s_L_block_16 cx hfr hlo hr hth r3 (0 : Int32) (0 : Int64))
  · refine sm_lconst (v := 1) cx dL_block_11 (by decide) ?_
    refine sm_goto (tgt := 16) cx dL_block_12 (by decide) ?_
    exact sm_lv [] rfl (s_L_block_16 cx hfr hlo hr hth r3 (0 : Int32) (1 : Int64))
set_option maxRecDepth 100000 in
set_option maxHeartbeats 4000000 in
theorem ct_L_block (Z : Nat → Nat) (r0 : Option Nat) (x1 : Int32) (x2 : Int32) (r3 : Option Nat) : CtH yL_block cL_block 5 (some .int) [(0, 17, 20, 13)] 8 135 Z [va_rf r0, .int x1, .int x2, va_rf r3] vI (f_L_block r0 x1 x2 r3) := by
  refine cth_of (hh := [(0, 17, 20, 13)]) (lv0 := [(0, va_rf r0), (1, .int x1), (2, .int x2), (3, va_rf r3)]) (by decide +kernel) (by simp [lg_sl, ct_i, ct_l, ct_r, rf_cat]) (by show _ = ([(0, va_rf r0), (1, .int x1), (2, .int x2), (3, va_rf r3)] : List (Nat × Value)); simp [lv_args, ct_i, ct_l, ct_r, rf_cat]) (fun X cx hZ hfr hlo hr hth => ?_)
  subst hZ
  exact s_L_block cx (Nat.le_of_eq hfr.symm) (Nat.le_of_eq hlo.symm) hr hth r0 x1 x2 r3
/-! PolicyTreeLaw.move(LPolicyTree;II[J)I -/
theorem dL_move_0 : decode cL_move 0 = .ok (.aload_n 3, 1) := by decide +kernel
theorem dL_move_1 : decode cL_move 1 = .ok (.iconst 0, 1) := by decide +kernel
theorem dL_move_2 : decode cL_move 2 = .ok (.aload_n 0, 1) := by decide +kernel
theorem dL_move_3 : decode cL_move 3 = .ok (.iload_n 1, 1) := by decide +kernel
theorem dL_move_4 : decode cL_move 4 = .ok (.iload_n 2, 1) := by decide +kernel
theorem dL_move_5 : decode cL_move 5 = .ok (.invokevirtual 21, 3) := by decide +kernel
theorem dL_move_8 : decode cL_move 8 = .ok (.i2l, 1) := by decide +kernel
theorem dL_move_9 : decode cL_move 9 = .ok (.lastore, 1) := by decide +kernel
theorem dL_move_10 : decode cL_move 10 = .ok (.goto 7, 3) := by decide +kernel
theorem dL_move_13 : decode cL_move 13 = .ok (.astore 4, 2) := by decide +kernel
theorem dL_move_15 : decode cL_move 15 = .ok (.iconst 1, 1) := by decide +kernel
theorem dL_move_16 : decode cL_move 16 = .ok (.ireturn, 1) := by decide +kernel
theorem dL_move_17 : decode cL_move 17 = .ok (.iconst 0, 1) := by decide +kernel
theorem dL_move_18 : decode cL_move 18 = .ok (.ireturn, 1) := by decide +kernel
def f_L_move (Z : Nat → Nat) (r0 : Option Nat) (x1 : Int32) (x2 : Int32) (r3 : Option Nat) : Mo Int32 := mh [(eI, 13, 1)] (mo 14 r0 (f_X11_move Z r0 x1 x2)) (fun v5 => mb (sL r3 (0 : Int32) (Int32.toInt64 v5)) (fun _ => mp (0 : Int32)))
set_option maxRecDepth 100000 in
set_option maxHeartbeats 4000000 in
theorem s_L_move {X : Cg} (cx : Cx X cL_move RL 5) (hfr : 11 ≤ (xR X).frames) (hlo : 276 ≤ (xR X).locals) (hr : (xM X).sig.returnType = (some .int)) (hth : (xL X).stackTraces = false ∧ (xC X).exceptionTable.toList = tableOf [(0, 10, 13, 13)]) (r0 : Option Nat) (x1 : Int32) (x2 : Int32) (r3 : Option Nat) : Sim X 5 (FiH X vI) 0 [(0, va_rf r0), (1, .int x1), (2, .int x2), (3, va_rf r3)] [] (f_L_move (xZ X) r0 x1 x2 r3) := by
  unfold f_L_move
  refine sm_aload_n cx 3 dL_move_0 rfl rfl ?_
  refine sm_iconst (v := 0) cx dL_move_1 (by decide) ?_
  refine sm_aload_n cx 0 dL_move_2 rfl rfl ?_
  refine sm_iload_n cx 1 dL_move_3 rfl rfl ?_
  refine sm_iload_n cx 2 dL_move_4 rfl rfl ?_
  refine sm_tryV (T := TX11) (N := 14) (toV := vI) cx hth [.int x1, .int x2] rfl cv_L_21 (fun a h => ct_X11_move (xZ X) a h x1 x2) (Nat.le_trans (by decide) hfr) (Nat.le_trans (by decide) hlo) rfl (cat_le _ (Nat.le_of_ble_eq_true rfl)) dL_move_5 tk_L_move (fun e he q => (List.mem_cons.mp he).elim (fun h => by subst h; exact sm_astore cx [(4, va_rf (some q)), (0, va_rf r0), (1, .int x1), (2, .int x2), (3, va_rf r3)] dL_move_13 (by decide) rfl (nc1 (rf_cat _)) rfl (sm_iconst (v := 1) cx dL_move_15 (by decide) (sh_iret cx hr dL_move_16))) (fun he => nomatch he)) (fun v5 => ?_)
  refine sm_i2l cx dL_move_8 ?_
  refine sm_last cx dL_move_9 ?_
  refine sm_goto (tgt := 17) cx dL_move_10 (by decide) ?_
  refine sm_iconst (v := 0) cx dL_move_17 (by decide) ?_
  exact sh_iret cx hr dL_move_18
set_option maxRecDepth 100000 in
set_option maxHeartbeats 4000000 in
theorem ct_L_move (Z : Nat → Nat) (r0 : Option Nat) (x1 : Int32) (x2 : Int32) (r3 : Option Nat) : CtH yL_move cL_move 5 (some .int) [(0, 10, 13, 13)] 11 276 Z [va_rf r0, .int x1, .int x2, va_rf r3] vI (f_L_move Z r0 x1 x2 r3) := by
  refine cth_of (hh := [(0, 10, 13, 13)]) (lv0 := [(0, va_rf r0), (1, .int x1), (2, .int x2), (3, va_rf r3)]) (by decide +kernel) (by simp [lg_sl, ct_i, ct_l, ct_r, rf_cat]) (by show _ = ([(0, va_rf r0), (1, .int x1), (2, .int x2), (3, va_rf r3)] : List (Nat × Value)); simp [lv_args, ct_i, ct_l, ct_r, rf_cat]) (fun X cx hZ hfr hlo hr hth => ?_)
  subst hZ
  exact s_L_move cx (Nat.le_of_eq hfr.symm) (Nat.le_of_eq hlo.symm) hr hth r0 x1 x2 r3
/-! PolicyTreeLaw.machine(LPolicyTree;I[J)I -/
theorem dL_machine_0 : decode cL_machine 0 = .ok (.aload_n 2, 1) := by decide +kernel
theorem dL_machine_1 : decode cL_machine 1 = .ok (.iconst 0, 1) := by decide +kernel
theorem dL_machine_2 : decode cL_machine 2 = .ok (.aload_n 0, 1) := by decide +kernel
theorem dL_machine_3 : decode cL_machine 3 = .ok (.iload_n 1, 1) := by decide +kernel
theorem dL_machine_4 : decode cL_machine 4 = .ok (.invokevirtual 25, 3) := by decide +kernel
theorem dL_machine_7 : decode cL_machine 7 = .ok (.i2l, 1) := by decide +kernel
theorem dL_machine_8 : decode cL_machine 8 = .ok (.lastore, 1) := by decide +kernel
theorem dL_machine_9 : decode cL_machine 9 = .ok (.goto 9, 3) := by decide +kernel
theorem dL_machine_12 : decode cL_machine 12 = .ok (.astore_n 3, 1) := by decide +kernel
theorem dL_machine_13 : decode cL_machine 13 = .ok (.iconst 1, 1) := by decide +kernel
theorem dL_machine_14 : decode cL_machine 14 = .ok (.ireturn, 1) := by decide +kernel
theorem dL_machine_15 : decode cL_machine 15 = .ok (.astore_n 3, 1) := by decide +kernel
theorem dL_machine_16 : decode cL_machine 16 = .ok (.iconst 2, 1) := by decide +kernel
theorem dL_machine_17 : decode cL_machine 17 = .ok (.ireturn, 1) := by decide +kernel
theorem dL_machine_18 : decode cL_machine 18 = .ok (.iconst 0, 1) := by decide +kernel
theorem dL_machine_19 : decode cL_machine 19 = .ok (.ireturn, 1) := by decide +kernel
def f_L_machine (Z : Nat → Nat) (r0 : Option Nat) (x1 : Int32) (r2 : Option Nat) : Mo Int32 := mh [(eI, 12, 1), (eS, 15, 2)] (mo 14 r0 (f_X11_machine Z r0 x1)) (fun v4 => mb (sL r2 (0 : Int32) (Int32.toInt64 v4)) (fun _ => mp (0 : Int32)))
set_option maxRecDepth 100000 in
set_option maxHeartbeats 4000000 in
theorem s_L_machine {X : Cg} (cx : Cx X cL_machine RL 4) (hfr : 8 ≤ (xR X).frames) (hlo : 191 ≤ (xR X).locals) (hr : (xM X).sig.returnType = (some .int)) (hth : (xL X).stackTraces = false ∧ (xC X).exceptionTable.toList = tableOf [(0, 9, 12, 13), (0, 9, 15, 15)]) (r0 : Option Nat) (x1 : Int32) (r2 : Option Nat) : Sim X 4 (FiH X vI) 0 [(0, va_rf r0), (1, .int x1), (2, va_rf r2)] [] (f_L_machine (xZ X) r0 x1 r2) := by
  unfold f_L_machine
  refine sm_aload_n cx 2 dL_machine_0 rfl rfl ?_
  refine sm_iconst (v := 0) cx dL_machine_1 (by decide) ?_
  refine sm_aload_n cx 0 dL_machine_2 rfl rfl ?_
  refine sm_iload_n cx 1 dL_machine_3 rfl rfl ?_
  refine sm_tryV (T := TX11) (N := 14) (toV := vI) cx hth [.int x1] rfl cv_L_25 (fun a h => ct_X11_machine (xZ X) a h x1) (Nat.le_trans (by decide) hfr) (Nat.le_trans (by decide) hlo) rfl (cat_le _ (Nat.le_of_ble_eq_true rfl)) dL_machine_4 tk_L_machine (fun e he q => (List.mem_cons.mp he).elim (fun h => by subst h; exact sm_astore_n cx [(3, va_rf (some q)), (0, va_rf r0), (1, .int x1), (2, va_rf r2)] dL_machine_12 rfl (by decide) rfl (nc1 (rf_cat _)) rfl (sm_iconst (v := 1) cx dL_machine_13 (by decide) (sh_iret cx hr dL_machine_14))) (fun he => (List.mem_cons.mp he).elim (fun h => by subst h; exact sm_astore_n cx [(3, va_rf (some q)), (0, va_rf r0), (1, .int x1), (2, va_rf r2)] dL_machine_15 rfl (by decide) rfl (nc1 (rf_cat _)) rfl (sm_iconst (v := 2) cx dL_machine_16 (by decide) (sh_iret cx hr dL_machine_17))) (fun he => nomatch he))) (fun v4 => ?_)
  refine sm_i2l cx dL_machine_7 ?_
  refine sm_last cx dL_machine_8 ?_
  refine sm_goto (tgt := 18) cx dL_machine_9 (by decide) ?_
  refine sm_iconst (v := 0) cx dL_machine_18 (by decide) ?_
  exact sh_iret cx hr dL_machine_19
set_option maxRecDepth 100000 in
set_option maxHeartbeats 4000000 in
theorem ct_L_machine (Z : Nat → Nat) (r0 : Option Nat) (x1 : Int32) (r2 : Option Nat) : CtH yL_machine cL_machine 4 (some .int) [(0, 9, 12, 13), (0, 9, 15, 15)] 8 191 Z [va_rf r0, .int x1, va_rf r2] vI (f_L_machine Z r0 x1 r2) := by
  refine cth_of (hh := [(0, 9, 12, 13), (0, 9, 15, 15)]) (lv0 := [(0, va_rf r0), (1, .int x1), (2, va_rf r2)]) (by decide +kernel) (by simp [lg_sl, ct_i, ct_l, ct_r, rf_cat]) (by show _ = ([(0, va_rf r0), (1, .int x1), (2, va_rf r2)] : List (Nat × Value)); simp [lv_args, ct_i, ct_l, ct_r, rf_cat]) (fun X cx hZ hfr hlo hr hth => ?_)
  subst hZ
  exact s_L_machine cx (Nat.le_of_eq hfr.symm) (Nat.le_of_eq hlo.symm) hr hth r0 x1 r2
/-! PolicyTreeLaw.fact(LPolicyTree;III[J)I -/
theorem dL_fact_0 : decode cL_fact 0 = .ok (.aload 4, 2) := by decide +kernel
theorem dL_fact_2 : decode cL_fact 2 = .ok (.iconst 0, 1) := by decide +kernel
theorem dL_fact_3 : decode cL_fact 3 = .ok (.aload_n 0, 1) := by decide +kernel
theorem dL_fact_4 : decode cL_fact 4 = .ok (.iload_n 1, 1) := by decide +kernel
theorem dL_fact_5 : decode cL_fact 5 = .ok (.iload_n 2, 1) := by decide +kernel
theorem dL_fact_6 : decode cL_fact 6 = .ok (.iload_n 3, 1) := by decide +kernel
theorem dL_fact_7 : decode cL_fact 7 = .ok (.invokevirtual 28, 3) := by decide +kernel
theorem dL_fact_10 : decode cL_fact 10 = .ok (.i2l, 1) := by decide +kernel
theorem dL_fact_11 : decode cL_fact 11 = .ok (.lastore, 1) := by decide +kernel
theorem dL_fact_12 : decode cL_fact 12 = .ok (.goto 11, 3) := by decide +kernel
theorem dL_fact_15 : decode cL_fact 15 = .ok (.astore 5, 2) := by decide +kernel
theorem dL_fact_17 : decode cL_fact 17 = .ok (.iconst 1, 1) := by decide +kernel
theorem dL_fact_18 : decode cL_fact 18 = .ok (.ireturn, 1) := by decide +kernel
theorem dL_fact_19 : decode cL_fact 19 = .ok (.astore 5, 2) := by decide +kernel
theorem dL_fact_21 : decode cL_fact 21 = .ok (.iconst 2, 1) := by decide +kernel
theorem dL_fact_22 : decode cL_fact 22 = .ok (.ireturn, 1) := by decide +kernel
theorem dL_fact_23 : decode cL_fact 23 = .ok (.iconst 0, 1) := by decide +kernel
theorem dL_fact_24 : decode cL_fact 24 = .ok (.ireturn, 1) := by decide +kernel
def f_L_fact (r0 : Option Nat) (x1 : Int32) (x2 : Int32) (x3 : Int32) (r4 : Option Nat) : Mo Int32 := mh [(eI, 15, 1), (eA, 19, 2)] (mo 14 r0 (f_X11_fact r0 x1 x2 x3)) (fun v7 => mb (sL r4 (0 : Int32) (Int32.toInt64 v7)) (fun _ => mp (0 : Int32)))
set_option maxRecDepth 100000 in
set_option maxHeartbeats 4000000 in
theorem s_L_fact {X : Cg} (cx : Cx X cL_fact RL 6) (hfr : 8 ≤ (xR X).frames) (hlo : 136 ≤ (xR X).locals) (hr : (xM X).sig.returnType = (some .int)) (hth : (xL X).stackTraces = false ∧ (xC X).exceptionTable.toList = tableOf [(0, 12, 15, 13), (0, 12, 19, 32)]) (r0 : Option Nat) (x1 : Int32) (x2 : Int32) (x3 : Int32) (r4 : Option Nat) : Sim X 6 (FiH X vI) 0 [(0, va_rf r0), (1, .int x1), (2, .int x2), (3, .int x3), (4, va_rf r4)] [] (f_L_fact r0 x1 x2 x3 r4) := by
  unfold f_L_fact
  refine sm_aload cx 4 dL_fact_0 rfl ?_
  refine sm_iconst (v := 0) cx dL_fact_2 (by decide) ?_
  refine sm_aload_n cx 0 dL_fact_3 rfl rfl ?_
  refine sm_iload_n cx 1 dL_fact_4 rfl rfl ?_
  refine sm_iload_n cx 2 dL_fact_5 rfl rfl ?_
  refine sm_iload_n cx 3 dL_fact_6 rfl rfl ?_
  refine sm_tryV (T := TX11) (N := 14) (toV := vI) cx hth [.int x1, .int x2, .int x3] rfl cv_L_28 (fun a h => ct_X11_fact (xZ X) a h x1 x2 x3) (Nat.le_trans (by decide) hfr) (Nat.le_trans (by decide) hlo) rfl (cat_le _ (Nat.le_of_ble_eq_true rfl)) dL_fact_7 tk_L_fact (fun e he q => (List.mem_cons.mp he).elim (fun h => by subst h; exact sm_astore cx [(5, va_rf (some q)), (0, va_rf r0), (1, .int x1), (2, .int x2), (3, .int x3), (4, va_rf r4)] dL_fact_15 (by decide) rfl (nc1 (rf_cat _)) rfl (sm_iconst (v := 1) cx dL_fact_17 (by decide) (sh_iret cx hr dL_fact_18))) (fun he => (List.mem_cons.mp he).elim (fun h => by subst h; exact sm_astore cx [(5, va_rf (some q)), (0, va_rf r0), (1, .int x1), (2, .int x2), (3, .int x3), (4, va_rf r4)] dL_fact_19 (by decide) rfl (nc1 (rf_cat _)) rfl (sm_iconst (v := 2) cx dL_fact_21 (by decide) (sh_iret cx hr dL_fact_22))) (fun he => nomatch he))) (fun v7 => ?_)
  refine sm_i2l cx dL_fact_10 ?_
  refine sm_last cx dL_fact_11 ?_
  refine sm_goto (tgt := 23) cx dL_fact_12 (by decide) ?_
  refine sm_iconst (v := 0) cx dL_fact_23 (by decide) ?_
  exact sh_iret cx hr dL_fact_24
set_option maxRecDepth 100000 in
set_option maxHeartbeats 4000000 in
theorem ct_L_fact (Z : Nat → Nat) (r0 : Option Nat) (x1 : Int32) (x2 : Int32) (x3 : Int32) (r4 : Option Nat) : CtH yL_fact cL_fact 6 (some .int) [(0, 12, 15, 13), (0, 12, 19, 32)] 8 136 Z [va_rf r0, .int x1, .int x2, .int x3, va_rf r4] vI (f_L_fact r0 x1 x2 x3 r4) := by
  refine cth_of (hh := [(0, 12, 15, 13), (0, 12, 19, 32)]) (lv0 := [(0, va_rf r0), (1, .int x1), (2, .int x2), (3, .int x3), (4, va_rf r4)]) (by decide +kernel) (by simp [lg_sl, ct_i, ct_l, ct_r, rf_cat]) (by show _ = ([(0, va_rf r0), (1, .int x1), (2, .int x2), (3, .int x3), (4, va_rf r4)] : List (Nat × Value)); simp [lv_args, ct_i, ct_l, ct_r, rf_cat]) (fun X cx hZ hfr hlo hr hth => ?_)
  subst hZ
  exact s_L_fact cx (Nat.le_of_eq hfr.symm) (Nat.le_of_eq hlo.symm) hr hth r0 x1 x2 x3 r4
/-! PolicyTreeLaw.group(LPolicyTree;[J)I -/
theorem dL_group_0 : decode cL_group 0 = .ok (.aload_n 1, 1) := by decide +kernel
theorem dL_group_1 : decode cL_group 1 = .ok (.iconst 0, 1) := by decide +kernel
theorem dL_group_2 : decode cL_group 2 = .ok (.aload_n 0, 1) := by decide +kernel
theorem dL_group_3 : decode cL_group 3 = .ok (.invokevirtual 34, 3) := by decide +kernel
theorem dL_group_6 : decode cL_group 6 = .ok (.i2l, 1) := by decide +kernel
theorem dL_group_7 : decode cL_group 7 = .ok (.lastore, 1) := by decide +kernel
theorem dL_group_8 : decode cL_group 8 = .ok (.goto 6, 3) := by decide +kernel
theorem dL_group_11 : decode cL_group 11 = .ok (.astore_n 2, 1) := by decide +kernel
theorem dL_group_12 : decode cL_group 12 = .ok (.iconst 1, 1) := by decide +kernel
theorem dL_group_13 : decode cL_group 13 = .ok (.ireturn, 1) := by decide +kernel
theorem dL_group_14 : decode cL_group 14 = .ok (.iconst 0, 1) := by decide +kernel
theorem dL_group_15 : decode cL_group 15 = .ok (.ireturn, 1) := by decide +kernel
def f_L_group (r0 : Option Nat) (r1 : Option Nat) : Mo Int32 := mh [(eS, 11, 1)] (mo 14 r0 (f_X11_group r0)) (fun v3 => mb (sL r1 (0 : Int32) (Int32.toInt64 v3)) (fun _ => mp (0 : Int32)))
set_option maxRecDepth 100000 in
set_option maxHeartbeats 4000000 in
theorem s_L_group {X : Cg} (cx : Cx X cL_group RL 3) (hfr : 8 ≤ (xR X).frames) (hlo : 131 ≤ (xR X).locals) (hr : (xM X).sig.returnType = (some .int)) (hth : (xL X).stackTraces = false ∧ (xC X).exceptionTable.toList = tableOf [(0, 8, 11, 15)]) (r0 : Option Nat) (r1 : Option Nat) : Sim X 3 (FiH X vI) 0 [(0, va_rf r0), (1, va_rf r1)] [] (f_L_group r0 r1) := by
  unfold f_L_group
  refine sm_aload_n cx 1 dL_group_0 rfl rfl ?_
  refine sm_iconst (v := 0) cx dL_group_1 (by decide) ?_
  refine sm_aload_n cx 0 dL_group_2 rfl rfl ?_
  refine sm_tryV (T := TX11) (N := 14) (toV := vI) cx hth [] rfl cv_L_34 (fun a h => ct_X11_group (xZ X) a h) (Nat.le_trans (by decide) hfr) (Nat.le_trans (by decide) hlo) rfl (cat_le _ (Nat.le_of_ble_eq_true rfl)) dL_group_3 tk_L_group (fun e he q => (List.mem_cons.mp he).elim (fun h => by subst h; exact sm_astore_n cx [(2, va_rf (some q)), (0, va_rf r0), (1, va_rf r1)] dL_group_11 rfl (by decide) rfl (nc1 (rf_cat _)) rfl (sm_iconst (v := 1) cx dL_group_12 (by decide) (sh_iret cx hr dL_group_13))) (fun he => nomatch he)) (fun v3 => ?_)
  refine sm_i2l cx dL_group_6 ?_
  refine sm_last cx dL_group_7 ?_
  refine sm_goto (tgt := 14) cx dL_group_8 (by decide) ?_
  refine sm_iconst (v := 0) cx dL_group_14 (by decide) ?_
  exact sh_iret cx hr dL_group_15
set_option maxRecDepth 100000 in
set_option maxHeartbeats 4000000 in
theorem ct_L_group (Z : Nat → Nat) (r0 : Option Nat) (r1 : Option Nat) : CtH yL_group cL_group 3 (some .int) [(0, 8, 11, 15)] 8 131 Z [va_rf r0, va_rf r1] vI (f_L_group r0 r1) := by
  refine cth_of (hh := [(0, 8, 11, 15)]) (lv0 := [(0, va_rf r0), (1, va_rf r1)]) (by decide +kernel) (by simp [lg_sl, ct_i, ct_l, ct_r, rf_cat]) (by show _ = ([(0, va_rf r0), (1, va_rf r1)] : List (Nat × Value)); simp [lv_args, ct_i, ct_l, ct_r, rf_cat]) (fun X cx hZ hfr hlo hr hth => ?_)
  subst hZ
  exact s_L_group cx (Nat.le_of_eq hfr.symm) (Nat.le_of_eq hlo.symm) hr hth r0 r1
/-! PolicyTreeLaw.joins(LPolicyTree;IIZ[J)I -/
theorem dL_joins_0 : decode cL_joins 0 = .ok (.aload 4, 2) := by decide +kernel
theorem dL_joins_2 : decode cL_joins 2 = .ok (.iconst 0, 1) := by decide +kernel
theorem dL_joins_3 : decode cL_joins 3 = .ok (.aload_n 0, 1) := by decide +kernel
theorem dL_joins_4 : decode cL_joins 4 = .ok (.iload_n 1, 1) := by decide +kernel
theorem dL_joins_5 : decode cL_joins 5 = .ok (.iload_n 2, 1) := by decide +kernel
theorem dL_joins_6 : decode cL_joins 6 = .ok (.iload_n 3, 1) := by decide +kernel
theorem dL_joins_7 : decode cL_joins 7 = .ok (.invokevirtual 38, 3) := by decide +kernel
theorem dL_joins_10 : decode cL_joins 10 = .ok (.ifCond .eq 7, 3) := by decide +kernel
theorem dL_joins_13 : decode cL_joins 13 = .ok (.lconst 1, 1) := by decide +kernel
theorem dL_joins_14 : decode cL_joins 14 = .ok (.goto 4, 3) := by decide +kernel
theorem dL_joins_17 : decode cL_joins 17 = .ok (.lconst 0, 1) := by decide +kernel
theorem dL_joins_18 : decode cL_joins 18 = .ok (.lastore, 1) := by decide +kernel
theorem dL_joins_19 : decode cL_joins 19 = .ok (.goto 7, 3) := by decide +kernel
theorem dL_joins_22 : decode cL_joins 22 = .ok (.astore 5, 2) := by decide +kernel
theorem dL_joins_24 : decode cL_joins 24 = .ok (.iconst 1, 1) := by decide +kernel
theorem dL_joins_25 : decode cL_joins 25 = .ok (.ireturn, 1) := by decide +kernel
theorem dL_joins_26 : decode cL_joins 26 = .ok (.iconst 0, 1) := by decide +kernel
theorem dL_joins_27 : decode cL_joins 27 = .ok (.ireturn, 1) := by decide +kernel
def f_L_joins_18 (sr0 : Option Nat) (sx1 : Int32) (sl2 : Int64) : Mo Int32 := mb (sL sr0 sx1 sl2) (fun _ => mp (0 : Int32))
set_option maxRecDepth 100000 in
set_option maxHeartbeats 4000000 in
theorem s_L_joins_18 {X : Cg} (cx : Cx X cL_joins RL 6) (hfr : 8 ≤ (xR X).frames) (hlo : 134 ≤ (xR X).locals) (hr : (xM X).sig.returnType = (some .int)) (hth : (xL X).stackTraces = false ∧ (xC X).exceptionTable.toList = tableOf [(0, 19, 22, 13)]) (sr0 : Option Nat) (sx1 : Int32) (sl2 : Int64) : Sim X 6 (FiH X vI) 18 [] [.long sl2, .int sx1, va_rf sr0] (f_L_joins_18 sr0 sx1 sl2) := by
  unfold f_L_joins_18
  refine sm_last cx dL_joins_18 ?_
  refine sm_goto (tgt := 26) cx dL_joins_19 (by decide) ?_
  refine sm_iconst (v := 0) cx dL_joins_26 (by decide) ?_
  exact sh_iret cx hr dL_joins_27
def f_L_joins (r0 : Option Nat) (x1 : Int32) (x2 : Int32) (x3 : Int32) (r4 : Option Nat) : Mo Int32 := mh [(eI, 22, 1)] (mo 14 r0 (f_X11_joins r0 x1 x2 x3)) (fun v7 => (if v7 = 0 then f_L_joins_18 r4 (0 : Int32) (0 : Int64) else f_L_joins_18 r4 (0 : Int32) (1 : Int64)))
set_option maxRecDepth 100000 in
set_option maxHeartbeats 4000000 in
theorem s_L_joins {X : Cg} (cx : Cx X cL_joins RL 6) (hfr : 8 ≤ (xR X).frames) (hlo : 134 ≤ (xR X).locals) (hr : (xM X).sig.returnType = (some .int)) (hth : (xL X).stackTraces = false ∧ (xC X).exceptionTable.toList = tableOf [(0, 19, 22, 13)]) (r0 : Option Nat) (x1 : Int32) (x2 : Int32) (x3 : Int32) (r4 : Option Nat) : Sim X 6 (FiH X vI) 0 [(0, va_rf r0), (1, .int x1), (2, .int x2), (3, .int x3), (4, va_rf r4)] [] (f_L_joins r0 x1 x2 x3 r4) := by
  unfold f_L_joins
  refine sm_aload cx 4 dL_joins_0 rfl ?_
  refine sm_iconst (v := 0) cx dL_joins_2 (by decide) ?_
  refine sm_aload_n cx 0 dL_joins_3 rfl rfl ?_
  refine sm_iload_n cx 1 dL_joins_4 rfl rfl ?_
  refine sm_iload_n cx 2 dL_joins_5 rfl rfl ?_
  refine sm_iload_n cx 3 dL_joins_6 rfl rfl ?_
  refine sm_tryV (T := TX11) (N := 14) (toV := vI) cx hth [.int x1, .int x2, .int x3] rfl cv_L_38 (fun a h => ct_X11_joins (xZ X) a h x1 x2 x3) (Nat.le_trans (by decide) hfr) (Nat.le_trans (by decide) hlo) rfl (cat_le _ (Nat.le_of_ble_eq_true rfl)) dL_joins_7 tk_L_joins (fun e he q => (List.mem_cons.mp he).elim (fun h => by subst h; exact sm_astore cx [(5, va_rf (some q)), (0, va_rf r0), (1, .int x1), (2, .int x2), (3, .int x3), (4, va_rf r4)] dL_joins_22 (by decide) rfl (nc1 (rf_cat _)) rfl (sm_iconst (v := 1) cx dL_joins_24 (by decide) (sh_iret cx hr dL_joins_25))) (fun he => nomatch he)) (fun v7 => ?_)
  refine sm_if_eq (tgt := 17) cx dL_joins_10 (by decide) ?_ ?_
  · refine sm_lconst (v := 0) cx dL_joins_17 (by decide) ?_
    exact sm_lv [] rfl (s_L_joins_18 cx hfr hlo hr hth r4 (0 : Int32) (0 : Int64))
  · refine sm_lconst (v := 1) cx dL_joins_13 (by decide) ?_
    refine sm_goto (tgt := 18) cx dL_joins_14 (by decide) ?_
    exact sm_lv [] rfl (s_L_joins_18 cx hfr hlo hr hth r4 (0 : Int32) (1 : Int64))
set_option maxRecDepth 100000 in
set_option maxHeartbeats 4000000 in
theorem ct_L_joins (Z : Nat → Nat) (r0 : Option Nat) (x1 : Int32) (x2 : Int32) (x3 : Int32) (r4 : Option Nat) : CtH yL_joins cL_joins 6 (some .int) [(0, 19, 22, 13)] 8 134 Z [va_rf r0, .int x1, .int x2, .int x3, va_rf r4] vI (f_L_joins r0 x1 x2 x3 r4) := by
  refine cth_of (hh := [(0, 19, 22, 13)]) (lv0 := [(0, va_rf r0), (1, .int x1), (2, .int x2), (3, .int x3), (4, va_rf r4)]) (by decide +kernel) (by simp [lg_sl, ct_i, ct_l, ct_r, rf_cat]) (by show _ = ([(0, va_rf r0), (1, .int x1), (2, .int x2), (3, .int x3), (4, va_rf r4)] : List (Nat × Value)); simp [lv_args, ct_i, ct_l, ct_r, rf_cat]) (fun X cx hZ hfr hlo hr hth => ?_)
  subst hZ
  exact s_L_joins cx (Nat.le_of_eq hfr.symm) (Nat.le_of_eq hlo.symm) hr hth r0 x1 x2 x3 r4
/-! PolicyTreeLaw.within(LPolicyTree;IIZ[J)I -/
theorem dL_within_0 : decode cL_within 0 = .ok (.aload 4, 2) := by decide +kernel
theorem dL_within_2 : decode cL_within 2 = .ok (.iconst 0, 1) := by decide +kernel
theorem dL_within_3 : decode cL_within 3 = .ok (.aload_n 0, 1) := by decide +kernel
theorem dL_within_4 : decode cL_within 4 = .ok (.iload_n 1, 1) := by decide +kernel
theorem dL_within_5 : decode cL_within 5 = .ok (.iload_n 2, 1) := by decide +kernel
theorem dL_within_6 : decode cL_within 6 = .ok (.iload_n 3, 1) := by decide +kernel
theorem dL_within_7 : decode cL_within 7 = .ok (.invokevirtual 42, 3) := by decide +kernel
theorem dL_within_10 : decode cL_within 10 = .ok (.ifCond .eq 7, 3) := by decide +kernel
theorem dL_within_13 : decode cL_within 13 = .ok (.lconst 1, 1) := by decide +kernel
theorem dL_within_14 : decode cL_within 14 = .ok (.goto 4, 3) := by decide +kernel
theorem dL_within_17 : decode cL_within 17 = .ok (.lconst 0, 1) := by decide +kernel
theorem dL_within_18 : decode cL_within 18 = .ok (.lastore, 1) := by decide +kernel
theorem dL_within_19 : decode cL_within 19 = .ok (.goto 7, 3) := by decide +kernel
theorem dL_within_22 : decode cL_within 22 = .ok (.astore 5, 2) := by decide +kernel
theorem dL_within_24 : decode cL_within 24 = .ok (.iconst 1, 1) := by decide +kernel
theorem dL_within_25 : decode cL_within 25 = .ok (.ireturn, 1) := by decide +kernel
theorem dL_within_26 : decode cL_within 26 = .ok (.iconst 0, 1) := by decide +kernel
theorem dL_within_27 : decode cL_within 27 = .ok (.ireturn, 1) := by decide +kernel
def f_L_within_18 (sr0 : Option Nat) (sx1 : Int32) (sl2 : Int64) : Mo Int32 := mb (sL sr0 sx1 sl2) (fun _ => mp (0 : Int32))
set_option maxRecDepth 100000 in
set_option maxHeartbeats 4000000 in
theorem s_L_within_18 {X : Cg} (cx : Cx X cL_within RL 6) (hfr : 8 ≤ (xR X).frames) (hlo : 134 ≤ (xR X).locals) (hr : (xM X).sig.returnType = (some .int)) (hth : (xL X).stackTraces = false ∧ (xC X).exceptionTable.toList = tableOf [(0, 19, 22, 13)]) (sr0 : Option Nat) (sx1 : Int32) (sl2 : Int64) : Sim X 6 (FiH X vI) 18 [] [.long sl2, .int sx1, va_rf sr0] (f_L_within_18 sr0 sx1 sl2) := by
  unfold f_L_within_18
  refine sm_last cx dL_within_18 ?_
  refine sm_goto (tgt := 26) cx dL_within_19 (by decide) ?_
  refine sm_iconst (v := 0) cx dL_within_26 (by decide) ?_
  exact sh_iret cx hr dL_within_27
def f_L_within (r0 : Option Nat) (x1 : Int32) (x2 : Int32) (x3 : Int32) (r4 : Option Nat) : Mo Int32 := mh [(eI, 22, 1)] (mo 14 r0 (f_X11_within r0 x1 x2 x3)) (fun v7 => (if v7 = 0 then f_L_within_18 r4 (0 : Int32) (0 : Int64) else f_L_within_18 r4 (0 : Int32) (1 : Int64)))
set_option maxRecDepth 100000 in
set_option maxHeartbeats 4000000 in
theorem s_L_within {X : Cg} (cx : Cx X cL_within RL 6) (hfr : 8 ≤ (xR X).frames) (hlo : 134 ≤ (xR X).locals) (hr : (xM X).sig.returnType = (some .int)) (hth : (xL X).stackTraces = false ∧ (xC X).exceptionTable.toList = tableOf [(0, 19, 22, 13)]) (r0 : Option Nat) (x1 : Int32) (x2 : Int32) (x3 : Int32) (r4 : Option Nat) : Sim X 6 (FiH X vI) 0 [(0, va_rf r0), (1, .int x1), (2, .int x2), (3, .int x3), (4, va_rf r4)] [] (f_L_within r0 x1 x2 x3 r4) := by
  unfold f_L_within
  refine sm_aload cx 4 dL_within_0 rfl ?_
  refine sm_iconst (v := 0) cx dL_within_2 (by decide) ?_
  refine sm_aload_n cx 0 dL_within_3 rfl rfl ?_
  refine sm_iload_n cx 1 dL_within_4 rfl rfl ?_
  refine sm_iload_n cx 2 dL_within_5 rfl rfl ?_
  refine sm_iload_n cx 3 dL_within_6 rfl rfl ?_
  refine sm_tryV (T := TX11) (N := 14) (toV := vI) cx hth [.int x1, .int x2, .int x3] rfl cv_L_42 (fun a h => ct_X11_within (xZ X) a h x1 x2 x3) (Nat.le_trans (by decide) hfr) (Nat.le_trans (by decide) hlo) rfl (cat_le _ (Nat.le_of_ble_eq_true rfl)) dL_within_7 tk_L_within (fun e he q => (List.mem_cons.mp he).elim (fun h => by subst h; exact sm_astore cx [(5, va_rf (some q)), (0, va_rf r0), (1, .int x1), (2, .int x2), (3, .int x3), (4, va_rf r4)] dL_within_22 (by decide) rfl (nc1 (rf_cat _)) rfl (sm_iconst (v := 1) cx dL_within_24 (by decide) (sh_iret cx hr dL_within_25))) (fun he => nomatch he)) (fun v7 => ?_)
  refine sm_if_eq (tgt := 17) cx dL_within_10 (by decide) ?_ ?_
  · refine sm_lconst (v := 0) cx dL_within_17 (by decide) ?_
    exact sm_lv [] rfl (s_L_within_18 cx hfr hlo hr hth r4 (0 : Int32) (0 : Int64))
  · refine sm_lconst (v := 1) cx dL_within_13 (by decide) ?_
    refine sm_goto (tgt := 18) cx dL_within_14 (by decide) ?_
    exact sm_lv [] rfl (s_L_within_18 cx hfr hlo hr hth r4 (0 : Int32) (1 : Int64))
set_option maxRecDepth 100000 in
set_option maxHeartbeats 4000000 in
theorem ct_L_within (Z : Nat → Nat) (r0 : Option Nat) (x1 : Int32) (x2 : Int32) (x3 : Int32) (r4 : Option Nat) : CtH yL_within cL_within 6 (some .int) [(0, 19, 22, 13)] 8 134 Z [va_rf r0, .int x1, .int x2, .int x3, va_rf r4] vI (f_L_within r0 x1 x2 x3 r4) := by
  refine cth_of (hh := [(0, 19, 22, 13)]) (lv0 := [(0, va_rf r0), (1, .int x1), (2, .int x2), (3, .int x3), (4, va_rf r4)]) (by decide +kernel) (by simp [lg_sl, ct_i, ct_l, ct_r, rf_cat]) (by show _ = ([(0, va_rf r0), (1, .int x1), (2, .int x2), (3, .int x3), (4, va_rf r4)] : List (Nat × Value)); simp [lv_args, ct_i, ct_l, ct_r, rf_cat]) (fun X cx hZ hfr hlo hr hth => ?_)
  subst hZ
  exact s_L_within cx (Nat.le_of_eq hfr.symm) (Nat.le_of_eq hlo.symm) hr hth r0 x1 x2 x3 r4
/-! PolicyTreeLaw.member(LPolicyTree;II[J)I -/
theorem dL_member_0 : decode cL_member 0 = .ok (.aload_n 3, 1) := by decide +kernel
theorem dL_member_1 : decode cL_member 1 = .ok (.iconst 0, 1) := by decide +kernel
theorem dL_member_2 : decode cL_member 2 = .ok (.aload_n 0, 1) := by decide +kernel
theorem dL_member_3 : decode cL_member 3 = .ok (.iload_n 1, 1) := by decide +kernel
theorem dL_member_4 : decode cL_member 4 = .ok (.iload_n 2, 1) := by decide +kernel
theorem dL_member_5 : decode cL_member 5 = .ok (.invokevirtual 45, 3) := by decide +kernel
theorem dL_member_8 : decode cL_member 8 = .ok (.ifCond .eq 7, 3) := by decide +kernel
theorem dL_member_11 : decode cL_member 11 = .ok (.lconst 1, 1) := by decide +kernel
theorem dL_member_12 : decode cL_member 12 = .ok (.goto 4, 3) := by decide +kernel
theorem dL_member_15 : decode cL_member 15 = .ok (.lconst 0, 1) := by decide +kernel
theorem dL_member_16 : decode cL_member 16 = .ok (.lastore, 1) := by decide +kernel
theorem dL_member_17 : decode cL_member 17 = .ok (.goto 7, 3) := by decide +kernel
theorem dL_member_20 : decode cL_member 20 = .ok (.astore 4, 2) := by decide +kernel
theorem dL_member_22 : decode cL_member 22 = .ok (.iconst 1, 1) := by decide +kernel
theorem dL_member_23 : decode cL_member 23 = .ok (.ireturn, 1) := by decide +kernel
theorem dL_member_24 : decode cL_member 24 = .ok (.iconst 0, 1) := by decide +kernel
theorem dL_member_25 : decode cL_member 25 = .ok (.ireturn, 1) := by decide +kernel
def f_L_member_16 (sr0 : Option Nat) (sx1 : Int32) (sl2 : Int64) : Mo Int32 := mb (sL sr0 sx1 sl2) (fun _ => mp (0 : Int32))
set_option maxRecDepth 100000 in
set_option maxHeartbeats 4000000 in
theorem s_L_member_16 {X : Cg} (cx : Cx X cL_member RL 5) (hfr : 8 ≤ (xR X).frames) (hlo : 133 ≤ (xR X).locals) (hr : (xM X).sig.returnType = (some .int)) (hth : (xL X).stackTraces = false ∧ (xC X).exceptionTable.toList = tableOf [(0, 17, 20, 13)]) (sr0 : Option Nat) (sx1 : Int32) (sl2 : Int64) : Sim X 5 (FiH X vI) 16 [] [.long sl2, .int sx1, va_rf sr0] (f_L_member_16 sr0 sx1 sl2) := by
  unfold f_L_member_16
  refine sm_last cx dL_member_16 ?_
  refine sm_goto (tgt := 24) cx dL_member_17 (by decide) ?_
  refine sm_iconst (v := 0) cx dL_member_24 (by decide) ?_
  exact sh_iret cx hr dL_member_25
def f_L_member (r0 : Option Nat) (x1 : Int32) (x2 : Int32) (r3 : Option Nat) : Mo Int32 := mh [(eI, 20, 1)] (mo 14 r0 (f_X11_member r0 x1 x2)) (fun v5 => (if v5 = 0 then f_L_member_16 r3 (0 : Int32) (0 : Int64) else f_L_member_16 r3 (0 : Int32) (1 : Int64)))
set_option maxRecDepth 100000 in
set_option maxHeartbeats 4000000 in
theorem s_L_member {X : Cg} (cx : Cx X cL_member RL 5) (hfr : 8 ≤ (xR X).frames) (hlo : 133 ≤ (xR X).locals) (hr : (xM X).sig.returnType = (some .int)) (hth : (xL X).stackTraces = false ∧ (xC X).exceptionTable.toList = tableOf [(0, 17, 20, 13)]) (r0 : Option Nat) (x1 : Int32) (x2 : Int32) (r3 : Option Nat) : Sim X 5 (FiH X vI) 0 [(0, va_rf r0), (1, .int x1), (2, .int x2), (3, va_rf r3)] [] (f_L_member r0 x1 x2 r3) := by
  unfold f_L_member
  refine sm_aload_n cx 3 dL_member_0 rfl rfl ?_
  refine sm_iconst (v := 0) cx dL_member_1 (by decide) ?_
  refine sm_aload_n cx 0 dL_member_2 rfl rfl ?_
  refine sm_iload_n cx 1 dL_member_3 rfl rfl ?_
  refine sm_iload_n cx 2 dL_member_4 rfl rfl ?_
  refine sm_tryV (T := TX11) (N := 14) (toV := vI) cx hth [.int x1, .int x2] rfl cv_L_45 (fun a h => ct_X11_member (xZ X) a h x1 x2) (Nat.le_trans (by decide) hfr) (Nat.le_trans (by decide) hlo) rfl (cat_le _ (Nat.le_of_ble_eq_true rfl)) dL_member_5 tk_L_member (fun e he q => (List.mem_cons.mp he).elim (fun h => by subst h; exact sm_astore cx [(4, va_rf (some q)), (0, va_rf r0), (1, .int x1), (2, .int x2), (3, va_rf r3)] dL_member_20 (by decide) rfl (nc1 (rf_cat _)) rfl (sm_iconst (v := 1) cx dL_member_22 (by decide) (sh_iret cx hr dL_member_23))) (fun he => nomatch he)) (fun v5 => ?_)
  refine sm_if_eq (tgt := 15) cx dL_member_8 (by decide) ?_ ?_
  · refine sm_lconst (v := 0) cx dL_member_15 (by decide) ?_
    exact sm_lv [] rfl (s_L_member_16 cx hfr hlo hr hth r3 (0 : Int32) (0 : Int64))
  · refine sm_lconst (v := 1) cx dL_member_11 (by decide) ?_
    refine sm_goto (tgt := 16) cx dL_member_12 (by decide) ?_
    exact sm_lv [] rfl (s_L_member_16 cx hfr hlo hr hth r3 (0 : Int32) (1 : Int64))
set_option maxRecDepth 100000 in
set_option maxHeartbeats 4000000 in
theorem ct_L_member (Z : Nat → Nat) (r0 : Option Nat) (x1 : Int32) (x2 : Int32) (r3 : Option Nat) : CtH yL_member cL_member 5 (some .int) [(0, 17, 20, 13)] 8 133 Z [va_rf r0, .int x1, .int x2, va_rf r3] vI (f_L_member r0 x1 x2 r3) := by
  refine cth_of (hh := [(0, 17, 20, 13)]) (lv0 := [(0, va_rf r0), (1, .int x1), (2, .int x2), (3, va_rf r3)]) (by decide +kernel) (by simp [lg_sl, ct_i, ct_l, ct_r, rf_cat]) (by show _ = ([(0, va_rf r0), (1, .int x1), (2, .int x2), (3, va_rf r3)] : List (Nat × Value)); simp [lv_args, ct_i, ct_l, ct_r, rf_cat]) (fun X cx hZ hfr hlo hr hth => ?_)
  subst hZ
  exact s_L_member cx (Nat.le_of_eq hfr.symm) (Nat.le_of_eq hlo.symm) hr hth r0 x1 x2 r3
/-! PolicyTreeLaw.set(LPolicyTree;[J)I -/
theorem dL_set_0 : decode cL_set 0 = .ok (.aload_n 1, 1) := by decide +kernel
theorem dL_set_1 : decode cL_set 1 = .ok (.iconst 0, 1) := by decide +kernel
theorem dL_set_2 : decode cL_set 2 = .ok (.aload_n 0, 1) := by decide +kernel
theorem dL_set_3 : decode cL_set 3 = .ok (.invokevirtual 49, 3) := by decide +kernel
theorem dL_set_6 : decode cL_set 6 = .ok (.i2l, 1) := by decide +kernel
theorem dL_set_7 : decode cL_set 7 = .ok (.lastore, 1) := by decide +kernel
theorem dL_set_8 : decode cL_set 8 = .ok (.goto 6, 3) := by decide +kernel
theorem dL_set_11 : decode cL_set 11 = .ok (.astore_n 2, 1) := by decide +kernel
theorem dL_set_12 : decode cL_set 12 = .ok (.iconst 1, 1) := by decide +kernel
theorem dL_set_13 : decode cL_set 13 = .ok (.ireturn, 1) := by decide +kernel
theorem dL_set_14 : decode cL_set 14 = .ok (.iconst 0, 1) := by decide +kernel
theorem dL_set_15 : decode cL_set 15 = .ok (.ireturn, 1) := by decide +kernel
def f_L_set (Z : Nat → Nat) (r0 : Option Nat) (r1 : Option Nat) : Mo Int32 := mh [(eS, 11, 1)] (mo 14 r0 (f_X11_set Z r0)) (fun v3 => mb (sL r1 (0 : Int32) (Int32.toInt64 v3)) (fun _ => mp (0 : Int32)))
set_option maxRecDepth 100000 in
set_option maxHeartbeats 4000000 in
theorem s_L_set {X : Cg} (cx : Cx X cL_set RL 3) (hfr : 8 ≤ (xR X).frames) (hlo : 190 ≤ (xR X).locals) (hr : (xM X).sig.returnType = (some .int)) (hth : (xL X).stackTraces = false ∧ (xC X).exceptionTable.toList = tableOf [(0, 8, 11, 15)]) (r0 : Option Nat) (r1 : Option Nat) : Sim X 3 (FiH X vI) 0 [(0, va_rf r0), (1, va_rf r1)] [] (f_L_set (xZ X) r0 r1) := by
  unfold f_L_set
  refine sm_aload_n cx 1 dL_set_0 rfl rfl ?_
  refine sm_iconst (v := 0) cx dL_set_1 (by decide) ?_
  refine sm_aload_n cx 0 dL_set_2 rfl rfl ?_
  refine sm_tryV (T := TX11) (N := 14) (toV := vI) cx hth [] rfl cv_L_49 (fun a h => ct_X11_set (xZ X) a h) (Nat.le_trans (by decide) hfr) (Nat.le_trans (by decide) hlo) rfl (cat_le _ (Nat.le_of_ble_eq_true rfl)) dL_set_3 tk_L_set (fun e he q => (List.mem_cons.mp he).elim (fun h => by subst h; exact sm_astore_n cx [(2, va_rf (some q)), (0, va_rf r0), (1, va_rf r1)] dL_set_11 rfl (by decide) rfl (nc1 (rf_cat _)) rfl (sm_iconst (v := 1) cx dL_set_12 (by decide) (sh_iret cx hr dL_set_13))) (fun he => nomatch he)) (fun v3 => ?_)
  refine sm_i2l cx dL_set_6 ?_
  refine sm_last cx dL_set_7 ?_
  refine sm_goto (tgt := 14) cx dL_set_8 (by decide) ?_
  refine sm_iconst (v := 0) cx dL_set_14 (by decide) ?_
  exact sh_iret cx hr dL_set_15
set_option maxRecDepth 100000 in
set_option maxHeartbeats 4000000 in
theorem ct_L_set (Z : Nat → Nat) (r0 : Option Nat) (r1 : Option Nat) : CtH yL_set cL_set 3 (some .int) [(0, 8, 11, 15)] 8 190 Z [va_rf r0, va_rf r1] vI (f_L_set Z r0 r1) := by
  refine cth_of (hh := [(0, 8, 11, 15)]) (lv0 := [(0, va_rf r0), (1, va_rf r1)]) (by decide +kernel) (by simp [lg_sl, ct_i, ct_l, ct_r, rf_cat]) (by show _ = ([(0, va_rf r0), (1, va_rf r1)] : List (Nat × Value)); simp [lv_args, ct_i, ct_l, ct_r, rf_cat]) (fun X cx hZ hfr hlo hr hth => ?_)
  subst hZ
  exact s_L_set cx (Nat.le_of_eq hfr.symm) (Nat.le_of_eq hlo.symm) hr hth r0 r1
/-! PolicyTreeLaw.tell(LPolicyTree;III[J)I -/
theorem dL_tell_0 : decode cL_tell 0 = .ok (.aload 4, 2) := by decide +kernel
theorem dL_tell_2 : decode cL_tell 2 = .ok (.iconst 0, 1) := by decide +kernel
theorem dL_tell_3 : decode cL_tell 3 = .ok (.aload_n 0, 1) := by decide +kernel
theorem dL_tell_4 : decode cL_tell 4 = .ok (.iload_n 1, 1) := by decide +kernel
theorem dL_tell_5 : decode cL_tell 5 = .ok (.iload_n 2, 1) := by decide +kernel
theorem dL_tell_6 : decode cL_tell 6 = .ok (.iload_n 3, 1) := by decide +kernel
theorem dL_tell_7 : decode cL_tell 7 = .ok (.invokevirtual 52, 3) := by decide +kernel
theorem dL_tell_10 : decode cL_tell 10 = .ok (.ifCond .eq 7, 3) := by decide +kernel
theorem dL_tell_13 : decode cL_tell 13 = .ok (.lconst 1, 1) := by decide +kernel
theorem dL_tell_14 : decode cL_tell 14 = .ok (.goto 4, 3) := by decide +kernel
theorem dL_tell_17 : decode cL_tell 17 = .ok (.lconst 0, 1) := by decide +kernel
theorem dL_tell_18 : decode cL_tell 18 = .ok (.lastore, 1) := by decide +kernel
theorem dL_tell_19 : decode cL_tell 19 = .ok (.goto 11, 3) := by decide +kernel
theorem dL_tell_22 : decode cL_tell 22 = .ok (.astore 5, 2) := by decide +kernel
theorem dL_tell_24 : decode cL_tell 24 = .ok (.iconst 1, 1) := by decide +kernel
theorem dL_tell_25 : decode cL_tell 25 = .ok (.ireturn, 1) := by decide +kernel
theorem dL_tell_26 : decode cL_tell 26 = .ok (.astore 5, 2) := by decide +kernel
theorem dL_tell_28 : decode cL_tell 28 = .ok (.iconst 2, 1) := by decide +kernel
theorem dL_tell_29 : decode cL_tell 29 = .ok (.ireturn, 1) := by decide +kernel
theorem dL_tell_30 : decode cL_tell 30 = .ok (.iconst 0, 1) := by decide +kernel
theorem dL_tell_31 : decode cL_tell 31 = .ok (.ireturn, 1) := by decide +kernel
def f_L_tell_18 (sr0 : Option Nat) (sx1 : Int32) (sl2 : Int64) : Mo Int32 := mb (sL sr0 sx1 sl2) (fun _ => mp (0 : Int32))
set_option maxRecDepth 100000 in
set_option maxHeartbeats 4000000 in
theorem s_L_tell_18 {X : Cg} (cx : Cx X cL_tell RL 6) (hfr : 8 ≤ (xR X).frames) (hlo : 134 ≤ (xR X).locals) (hr : (xM X).sig.returnType = (some .int)) (hth : (xL X).stackTraces = false ∧ (xC X).exceptionTable.toList = tableOf [(0, 19, 22, 13), (0, 19, 26, 32)]) (sr0 : Option Nat) (sx1 : Int32) (sl2 : Int64) : Sim X 6 (FiH X vI) 18 [] [.long sl2, .int sx1, va_rf sr0] (f_L_tell_18 sr0 sx1 sl2) := by
  unfold f_L_tell_18
  refine sm_last cx dL_tell_18 ?_
  refine sm_goto (tgt := 30) cx dL_tell_19 (by decide) ?_
  refine sm_iconst (v := 0) cx dL_tell_30 (by decide) ?_
  exact sh_iret cx hr dL_tell_31
def f_L_tell (r0 : Option Nat) (x1 : Int32) (x2 : Int32) (x3 : Int32) (r4 : Option Nat) : Mo Int32 := mh [(eI, 22, 1), (eA, 26, 2)] (mo 14 r0 (f_X11_tell r0 x1 x2 x3)) (fun v7 => (if v7 = 0 then f_L_tell_18 r4 (0 : Int32) (0 : Int64) else f_L_tell_18 r4 (0 : Int32) (1 : Int64)))
set_option maxRecDepth 100000 in
set_option maxHeartbeats 4000000 in
theorem s_L_tell {X : Cg} (cx : Cx X cL_tell RL 6) (hfr : 8 ≤ (xR X).frames) (hlo : 134 ≤ (xR X).locals) (hr : (xM X).sig.returnType = (some .int)) (hth : (xL X).stackTraces = false ∧ (xC X).exceptionTable.toList = tableOf [(0, 19, 22, 13), (0, 19, 26, 32)]) (r0 : Option Nat) (x1 : Int32) (x2 : Int32) (x3 : Int32) (r4 : Option Nat) : Sim X 6 (FiH X vI) 0 [(0, va_rf r0), (1, .int x1), (2, .int x2), (3, .int x3), (4, va_rf r4)] [] (f_L_tell r0 x1 x2 x3 r4) := by
  unfold f_L_tell
  refine sm_aload cx 4 dL_tell_0 rfl ?_
  refine sm_iconst (v := 0) cx dL_tell_2 (by decide) ?_
  refine sm_aload_n cx 0 dL_tell_3 rfl rfl ?_
  refine sm_iload_n cx 1 dL_tell_4 rfl rfl ?_
  refine sm_iload_n cx 2 dL_tell_5 rfl rfl ?_
  refine sm_iload_n cx 3 dL_tell_6 rfl rfl ?_
  refine sm_tryV (T := TX11) (N := 14) (toV := vI) cx hth [.int x1, .int x2, .int x3] rfl cv_L_52 (fun a h => ct_X11_tell (xZ X) a h x1 x2 x3) (Nat.le_trans (by decide) hfr) (Nat.le_trans (by decide) hlo) rfl (cat_le _ (Nat.le_of_ble_eq_true rfl)) dL_tell_7 tk_L_tell (fun e he q => (List.mem_cons.mp he).elim (fun h => by subst h; exact sm_astore cx [(5, va_rf (some q)), (0, va_rf r0), (1, .int x1), (2, .int x2), (3, .int x3), (4, va_rf r4)] dL_tell_22 (by decide) rfl (nc1 (rf_cat _)) rfl (sm_iconst (v := 1) cx dL_tell_24 (by decide) (sh_iret cx hr dL_tell_25))) (fun he => (List.mem_cons.mp he).elim (fun h => by subst h; exact sm_astore cx [(5, va_rf (some q)), (0, va_rf r0), (1, .int x1), (2, .int x2), (3, .int x3), (4, va_rf r4)] dL_tell_26 (by decide) rfl (nc1 (rf_cat _)) rfl (sm_iconst (v := 2) cx dL_tell_28 (by decide) (sh_iret cx hr dL_tell_29))) (fun he => nomatch he))) (fun v7 => ?_)
  refine sm_if_eq (tgt := 17) cx dL_tell_10 (by decide) ?_ ?_
  · refine sm_lconst (v := 0) cx dL_tell_17 (by decide) ?_
    exact sm_lv [] rfl (s_L_tell_18 cx hfr hlo hr hth r4 (0 : Int32) (0 : Int64))
  · refine sm_lconst (v := 1) cx dL_tell_13 (by decide) ?_
    refine sm_goto (tgt := 18) cx dL_tell_14 (by decide) ?_
    exact sm_lv [] rfl (s_L_tell_18 cx hfr hlo hr hth r4 (0 : Int32) (1 : Int64))
set_option maxRecDepth 100000 in
set_option maxHeartbeats 4000000 in
theorem ct_L_tell (Z : Nat → Nat) (r0 : Option Nat) (x1 : Int32) (x2 : Int32) (x3 : Int32) (r4 : Option Nat) : CtH yL_tell cL_tell 6 (some .int) [(0, 19, 22, 13), (0, 19, 26, 32)] 8 134 Z [va_rf r0, .int x1, .int x2, .int x3, va_rf r4] vI (f_L_tell r0 x1 x2 x3 r4) := by
  refine cth_of (hh := [(0, 19, 22, 13), (0, 19, 26, 32)]) (lv0 := [(0, va_rf r0), (1, .int x1), (2, .int x2), (3, .int x3), (4, va_rf r4)]) (by decide +kernel) (by simp [lg_sl, ct_i, ct_l, ct_r, rf_cat]) (by show _ = ([(0, va_rf r0), (1, .int x1), (2, .int x2), (3, .int x3), (4, va_rf r4)] : List (Nat × Value)); simp [lv_args, ct_i, ct_l, ct_r, rf_cat]) (fun X cx hZ hfr hlo hr hth => ?_)
  subst hZ
  exact s_L_tell cx (Nat.le_of_eq hfr.symm) (Nat.le_of_eq hlo.symm) hr hth r0 x1 x2 x3 r4
/-! PolicyTreeLaw.untell(LPolicyTree;II[J)I -/
theorem dL_untell_0 : decode cL_untell 0 = .ok (.aload_n 3, 1) := by decide +kernel
theorem dL_untell_1 : decode cL_untell 1 = .ok (.iconst 0, 1) := by decide +kernel
theorem dL_untell_2 : decode cL_untell 2 = .ok (.aload_n 0, 1) := by decide +kernel
theorem dL_untell_3 : decode cL_untell 3 = .ok (.iload_n 1, 1) := by decide +kernel
theorem dL_untell_4 : decode cL_untell 4 = .ok (.iload_n 2, 1) := by decide +kernel
theorem dL_untell_5 : decode cL_untell 5 = .ok (.invokevirtual 56, 3) := by decide +kernel
theorem dL_untell_8 : decode cL_untell 8 = .ok (.ifCond .eq 7, 3) := by decide +kernel
theorem dL_untell_11 : decode cL_untell 11 = .ok (.lconst 1, 1) := by decide +kernel
theorem dL_untell_12 : decode cL_untell 12 = .ok (.goto 4, 3) := by decide +kernel
theorem dL_untell_15 : decode cL_untell 15 = .ok (.lconst 0, 1) := by decide +kernel
theorem dL_untell_16 : decode cL_untell 16 = .ok (.lastore, 1) := by decide +kernel
theorem dL_untell_17 : decode cL_untell 17 = .ok (.goto 11, 3) := by decide +kernel
theorem dL_untell_20 : decode cL_untell 20 = .ok (.astore 4, 2) := by decide +kernel
theorem dL_untell_22 : decode cL_untell 22 = .ok (.iconst 1, 1) := by decide +kernel
theorem dL_untell_23 : decode cL_untell 23 = .ok (.ireturn, 1) := by decide +kernel
theorem dL_untell_24 : decode cL_untell 24 = .ok (.astore 4, 2) := by decide +kernel
theorem dL_untell_26 : decode cL_untell 26 = .ok (.iconst 2, 1) := by decide +kernel
theorem dL_untell_27 : decode cL_untell 27 = .ok (.ireturn, 1) := by decide +kernel
theorem dL_untell_28 : decode cL_untell 28 = .ok (.iconst 0, 1) := by decide +kernel
theorem dL_untell_29 : decode cL_untell 29 = .ok (.ireturn, 1) := by decide +kernel
def f_L_untell_16 (sr0 : Option Nat) (sx1 : Int32) (sl2 : Int64) : Mo Int32 := mb (sL sr0 sx1 sl2) (fun _ => mp (0 : Int32))
set_option maxRecDepth 100000 in
set_option maxHeartbeats 4000000 in
theorem s_L_untell_16 {X : Cg} (cx : Cx X cL_untell RL 5) (hfr : 8 ≤ (xR X).frames) (hlo : 133 ≤ (xR X).locals) (hr : (xM X).sig.returnType = (some .int)) (hth : (xL X).stackTraces = false ∧ (xC X).exceptionTable.toList = tableOf [(0, 17, 20, 13), (0, 17, 24, 32)]) (sr0 : Option Nat) (sx1 : Int32) (sl2 : Int64) : Sim X 5 (FiH X vI) 16 [] [.long sl2, .int sx1, va_rf sr0] (f_L_untell_16 sr0 sx1 sl2) := by
  unfold f_L_untell_16
  refine sm_last cx dL_untell_16 ?_
  refine sm_goto (tgt := 28) cx dL_untell_17 (by decide) ?_
  refine sm_iconst (v := 0) cx dL_untell_28 (by decide) ?_
  exact sh_iret cx hr dL_untell_29
def f_L_untell (r0 : Option Nat) (x1 : Int32) (x2 : Int32) (r3 : Option Nat) : Mo Int32 := mh [(eI, 20, 1), (eA, 24, 2)] (mo 14 r0 (f_X11_untell r0 x1 x2)) (fun v5 => (if v5 = 0 then f_L_untell_16 r3 (0 : Int32) (0 : Int64) else f_L_untell_16 r3 (0 : Int32) (1 : Int64)))
set_option maxRecDepth 100000 in
set_option maxHeartbeats 4000000 in
theorem s_L_untell {X : Cg} (cx : Cx X cL_untell RL 5) (hfr : 8 ≤ (xR X).frames) (hlo : 133 ≤ (xR X).locals) (hr : (xM X).sig.returnType = (some .int)) (hth : (xL X).stackTraces = false ∧ (xC X).exceptionTable.toList = tableOf [(0, 17, 20, 13), (0, 17, 24, 32)]) (r0 : Option Nat) (x1 : Int32) (x2 : Int32) (r3 : Option Nat) : Sim X 5 (FiH X vI) 0 [(0, va_rf r0), (1, .int x1), (2, .int x2), (3, va_rf r3)] [] (f_L_untell r0 x1 x2 r3) := by
  unfold f_L_untell
  refine sm_aload_n cx 3 dL_untell_0 rfl rfl ?_
  refine sm_iconst (v := 0) cx dL_untell_1 (by decide) ?_
  refine sm_aload_n cx 0 dL_untell_2 rfl rfl ?_
  refine sm_iload_n cx 1 dL_untell_3 rfl rfl ?_
  refine sm_iload_n cx 2 dL_untell_4 rfl rfl ?_
  refine sm_tryV (T := TX11) (N := 14) (toV := vI) cx hth [.int x1, .int x2] rfl cv_L_56 (fun a h => ct_X11_untell (xZ X) a h x1 x2) (Nat.le_trans (by decide) hfr) (Nat.le_trans (by decide) hlo) rfl (cat_le _ (Nat.le_of_ble_eq_true rfl)) dL_untell_5 tk_L_untell (fun e he q => (List.mem_cons.mp he).elim (fun h => by subst h; exact sm_astore cx [(4, va_rf (some q)), (0, va_rf r0), (1, .int x1), (2, .int x2), (3, va_rf r3)] dL_untell_20 (by decide) rfl (nc1 (rf_cat _)) rfl (sm_iconst (v := 1) cx dL_untell_22 (by decide) (sh_iret cx hr dL_untell_23))) (fun he => (List.mem_cons.mp he).elim (fun h => by subst h; exact sm_astore cx [(4, va_rf (some q)), (0, va_rf r0), (1, .int x1), (2, .int x2), (3, va_rf r3)] dL_untell_24 (by decide) rfl (nc1 (rf_cat _)) rfl (sm_iconst (v := 2) cx dL_untell_26 (by decide) (sh_iret cx hr dL_untell_27))) (fun he => nomatch he))) (fun v5 => ?_)
  refine sm_if_eq (tgt := 15) cx dL_untell_8 (by decide) ?_ ?_
  · refine sm_lconst (v := 0) cx dL_untell_15 (by decide) ?_
    exact sm_lv [] rfl (s_L_untell_16 cx hfr hlo hr hth r3 (0 : Int32) (0 : Int64))
  · refine sm_lconst (v := 1) cx dL_untell_11 (by decide) ?_
    refine sm_goto (tgt := 16) cx dL_untell_12 (by decide) ?_
    exact sm_lv [] rfl (s_L_untell_16 cx hfr hlo hr hth r3 (0 : Int32) (1 : Int64))
set_option maxRecDepth 100000 in
set_option maxHeartbeats 4000000 in
theorem ct_L_untell (Z : Nat → Nat) (r0 : Option Nat) (x1 : Int32) (x2 : Int32) (r3 : Option Nat) : CtH yL_untell cL_untell 5 (some .int) [(0, 17, 20, 13), (0, 17, 24, 32)] 8 133 Z [va_rf r0, .int x1, .int x2, va_rf r3] vI (f_L_untell r0 x1 x2 r3) := by
  refine cth_of (hh := [(0, 17, 20, 13), (0, 17, 24, 32)]) (lv0 := [(0, va_rf r0), (1, .int x1), (2, .int x2), (3, va_rf r3)]) (by decide +kernel) (by simp [lg_sl, ct_i, ct_l, ct_r, rf_cat]) (by show _ = ([(0, va_rf r0), (1, .int x1), (2, .int x2), (3, va_rf r3)] : List (Nat × Value)); simp [lv_args, ct_i, ct_l, ct_r, rf_cat]) (fun X cx hZ hfr hlo hr hth => ?_)
  subst hZ
  exact s_L_untell cx (Nat.le_of_eq hfr.symm) (Nat.le_of_eq hlo.symm) hr hth r0 x1 x2 r3
/-! PolicyTreeLaw.law(LPolicyTree;II[J)I -/
theorem dL_law_0 : decode cL_law 0 = .ok (.aload_n 3, 1) := by decide +kernel
theorem dL_law_1 : decode cL_law 1 = .ok (.iconst 0, 1) := by decide +kernel
theorem dL_law_2 : decode cL_law 2 = .ok (.aload_n 0, 1) := by decide +kernel
theorem dL_law_3 : decode cL_law 3 = .ok (.iload_n 1, 1) := by decide +kernel
theorem dL_law_4 : decode cL_law 4 = .ok (.iload_n 2, 1) := by decide +kernel
theorem dL_law_5 : decode cL_law 5 = .ok (.invokevirtual 59, 3) := by decide +kernel
theorem dL_law_8 : decode cL_law 8 = .ok (.i2l, 1) := by decide +kernel
theorem dL_law_9 : decode cL_law 9 = .ok (.lastore, 1) := by decide +kernel
theorem dL_law_10 : decode cL_law 10 = .ok (.goto 7, 3) := by decide +kernel
theorem dL_law_13 : decode cL_law 13 = .ok (.astore 4, 2) := by decide +kernel
theorem dL_law_15 : decode cL_law 15 = .ok (.iconst 1, 1) := by decide +kernel
theorem dL_law_16 : decode cL_law 16 = .ok (.ireturn, 1) := by decide +kernel
theorem dL_law_17 : decode cL_law 17 = .ok (.iconst 0, 1) := by decide +kernel
theorem dL_law_18 : decode cL_law 18 = .ok (.ireturn, 1) := by decide +kernel
def f_L_law (r0 : Option Nat) (x1 : Int32) (x2 : Int32) (r3 : Option Nat) : Mo Int32 := mh [(eA, 13, 1)] (mo 14 r0 (f_X11_law r0 x1 x2)) (fun v5 => mb (sL r3 (0 : Int32) (Int32.toInt64 v5)) (fun _ => mp (0 : Int32)))
set_option maxRecDepth 100000 in
set_option maxHeartbeats 4000000 in
theorem s_L_law {X : Cg} (cx : Cx X cL_law RL 5) (hfr : 8 ≤ (xR X).frames) (hlo : 134 ≤ (xR X).locals) (hr : (xM X).sig.returnType = (some .int)) (hth : (xL X).stackTraces = false ∧ (xC X).exceptionTable.toList = tableOf [(0, 10, 13, 32)]) (r0 : Option Nat) (x1 : Int32) (x2 : Int32) (r3 : Option Nat) : Sim X 5 (FiH X vI) 0 [(0, va_rf r0), (1, .int x1), (2, .int x2), (3, va_rf r3)] [] (f_L_law r0 x1 x2 r3) := by
  unfold f_L_law
  refine sm_aload_n cx 3 dL_law_0 rfl rfl ?_
  refine sm_iconst (v := 0) cx dL_law_1 (by decide) ?_
  refine sm_aload_n cx 0 dL_law_2 rfl rfl ?_
  refine sm_iload_n cx 1 dL_law_3 rfl rfl ?_
  refine sm_iload_n cx 2 dL_law_4 rfl rfl ?_
  refine sm_tryV (T := TX11) (N := 14) (toV := vI) cx hth [.int x1, .int x2] rfl cv_L_59 (fun a h => ct_X11_law (xZ X) a h x1 x2) (Nat.le_trans (by decide) hfr) (Nat.le_trans (by decide) hlo) rfl (cat_le _ (Nat.le_of_ble_eq_true rfl)) dL_law_5 tk_L_law (fun e he q => (List.mem_cons.mp he).elim (fun h => by subst h; exact sm_astore cx [(4, va_rf (some q)), (0, va_rf r0), (1, .int x1), (2, .int x2), (3, va_rf r3)] dL_law_13 (by decide) rfl (nc1 (rf_cat _)) rfl (sm_iconst (v := 1) cx dL_law_15 (by decide) (sh_iret cx hr dL_law_16))) (fun he => nomatch he)) (fun v5 => ?_)
  refine sm_i2l cx dL_law_8 ?_
  refine sm_last cx dL_law_9 ?_
  refine sm_goto (tgt := 17) cx dL_law_10 (by decide) ?_
  refine sm_iconst (v := 0) cx dL_law_17 (by decide) ?_
  exact sh_iret cx hr dL_law_18
set_option maxRecDepth 100000 in
set_option maxHeartbeats 4000000 in
theorem ct_L_law (Z : Nat → Nat) (r0 : Option Nat) (x1 : Int32) (x2 : Int32) (r3 : Option Nat) : CtH yL_law cL_law 5 (some .int) [(0, 10, 13, 32)] 8 134 Z [va_rf r0, .int x1, .int x2, va_rf r3] vI (f_L_law r0 x1 x2 r3) := by
  refine cth_of (hh := [(0, 10, 13, 32)]) (lv0 := [(0, va_rf r0), (1, .int x1), (2, .int x2), (3, va_rf r3)]) (by decide +kernel) (by simp [lg_sl, ct_i, ct_l, ct_r, rf_cat]) (by show _ = ([(0, va_rf r0), (1, .int x1), (2, .int x2), (3, va_rf r3)] : List (Nat × Value)); simp [lv_args, ct_i, ct_l, ct_r, rf_cat]) (fun X cx hZ hfr hlo hr hth => ?_)
  subst hZ
  exact s_L_law cx (Nat.le_of_eq hfr.symm) (Nat.le_of_eq hlo.symm) hr hth r0 x1 x2 r3
/-! PolicyTreeLaw.link(LPolicyTree;IIIZI[J)I -/
theorem dL_link_0 : decode cL_link 0 = .ok (.aload 6, 2) := by decide +kernel
theorem dL_link_2 : decode cL_link 2 = .ok (.iconst 0, 1) := by decide +kernel
theorem dL_link_3 : decode cL_link 3 = .ok (.aload_n 0, 1) := by decide +kernel
theorem dL_link_4 : decode cL_link 4 = .ok (.iload_n 1, 1) := by decide +kernel
theorem dL_link_5 : decode cL_link 5 = .ok (.iload_n 2, 1) := by decide +kernel
theorem dL_link_6 : decode cL_link 6 = .ok (.iload_n 3, 1) := by decide +kernel
theorem dL_link_7 : decode cL_link 7 = .ok (.iload 4, 2) := by decide +kernel
theorem dL_link_9 : decode cL_link 9 = .ok (.iload 5, 2) := by decide +kernel
theorem dL_link_11 : decode cL_link 11 = .ok (.invokevirtual 62, 3) := by decide +kernel
theorem dL_link_14 : decode cL_link 14 = .ok (.i2l, 1) := by decide +kernel
theorem dL_link_15 : decode cL_link 15 = .ok (.lastore, 1) := by decide +kernel
theorem dL_link_16 : decode cL_link 16 = .ok (.goto 15, 3) := by decide +kernel
theorem dL_link_19 : decode cL_link 19 = .ok (.astore 7, 2) := by decide +kernel
theorem dL_link_21 : decode cL_link 21 = .ok (.iconst 1, 1) := by decide +kernel
theorem dL_link_22 : decode cL_link 22 = .ok (.ireturn, 1) := by decide +kernel
theorem dL_link_23 : decode cL_link 23 = .ok (.astore 7, 2) := by decide +kernel
theorem dL_link_25 : decode cL_link 25 = .ok (.iconst 2, 1) := by decide +kernel
theorem dL_link_26 : decode cL_link 26 = .ok (.ireturn, 1) := by decide +kernel
theorem dL_link_27 : decode cL_link 27 = .ok (.astore 7, 2) := by decide +kernel
theorem dL_link_29 : decode cL_link 29 = .ok (.iconst 3, 1) := by decide +kernel
theorem dL_link_30 : decode cL_link 30 = .ok (.ireturn, 1) := by decide +kernel
theorem dL_link_31 : decode cL_link 31 = .ok (.iconst 0, 1) := by decide +kernel
theorem dL_link_32 : decode cL_link 32 = .ok (.ireturn, 1) := by decide +kernel
def f_L_link (Z : Nat → Nat) (r0 : Option Nat) (x1 : Int32) (x2 : Int32) (x3 : Int32) (x4 : Int32) (x5 : Int32) (r6 : Option Nat) : Mo Int32 := mh [(eI, 19, 1), (eA, 23, 2), (eS, 27, 3)] (mo 14 r0 (f_X11_link Z r0 x1 x2 x3 x4 x5)) (fun v11 => mb (sL r6 (0 : Int32) (Int32.toInt64 v11)) (fun _ => mp (0 : Int32)))
set_option maxRecDepth 100000 in
set_option maxHeartbeats 4000000 in
theorem s_L_link {X : Cg} (cx : Cx X cL_link RL 8) (hfr : 73 ≤ (xR X).frames) (hlo : 1473 ≤ (xR X).locals) (hr : (xM X).sig.returnType = (some .int)) (hth : (xL X).stackTraces = false ∧ (xC X).exceptionTable.toList = tableOf [(0, 16, 19, 13), (0, 16, 23, 32), (0, 16, 27, 15)]) (r0 : Option Nat) (x1 : Int32) (x2 : Int32) (x3 : Int32) (x4 : Int32) (x5 : Int32) (r6 : Option Nat) : Sim X 8 (FiH X vI) 0 [(0, va_rf r0), (1, .int x1), (2, .int x2), (3, .int x3), (4, .int x4), (5, .int x5), (6, va_rf r6)] [] (f_L_link (xZ X) r0 x1 x2 x3 x4 x5 r6) := by
  unfold f_L_link
  refine sm_aload cx 6 dL_link_0 rfl ?_
  refine sm_iconst (v := 0) cx dL_link_2 (by decide) ?_
  refine sm_aload_n cx 0 dL_link_3 rfl rfl ?_
  refine sm_iload_n cx 1 dL_link_4 rfl rfl ?_
  refine sm_iload_n cx 2 dL_link_5 rfl rfl ?_
  refine sm_iload_n cx 3 dL_link_6 rfl rfl ?_
  refine sm_iload cx 4 dL_link_7 rfl ?_
  refine sm_iload cx 5 dL_link_9 rfl ?_
  refine sm_tryV (T := TX11) (N := 14) (toV := vI) cx hth [.int x1, .int x2, .int x3, .int x4, .int x5] rfl cv_L_62 (fun a h => ct_X11_link (xZ X) a h x1 x2 x3 x4 x5) (Nat.le_trans (by decide) hfr) (Nat.le_trans (by decide) hlo) rfl (cat_le _ (Nat.le_of_ble_eq_true rfl)) dL_link_11 tk_L_link (fun e he q => (List.mem_cons.mp he).elim (fun h => by subst h; exact sm_astore cx [(7, va_rf (some q)), (0, va_rf r0), (1, .int x1), (2, .int x2), (3, .int x3), (4, .int x4), (5, .int x5), (6, va_rf r6)] dL_link_19 (by decide) rfl (nc1 (rf_cat _)) rfl (sm_iconst (v := 1) cx dL_link_21 (by decide) (sh_iret cx hr dL_link_22))) (fun he => (List.mem_cons.mp he).elim (fun h => by subst h; exact sm_astore cx [(7, va_rf (some q)), (0, va_rf r0), (1, .int x1), (2, .int x2), (3, .int x3), (4, .int x4), (5, .int x5), (6, va_rf r6)] dL_link_23 (by decide) rfl (nc1 (rf_cat _)) rfl (sm_iconst (v := 2) cx dL_link_25 (by decide) (sh_iret cx hr dL_link_26))) (fun he => (List.mem_cons.mp he).elim (fun h => by subst h; exact sm_astore cx [(7, va_rf (some q)), (0, va_rf r0), (1, .int x1), (2, .int x2), (3, .int x3), (4, .int x4), (5, .int x5), (6, va_rf r6)] dL_link_27 (by decide) rfl (nc1 (rf_cat _)) rfl (sm_iconst (v := 3) cx dL_link_29 (by decide) (sh_iret cx hr dL_link_30))) (fun he => nomatch he)))) (fun v11 => ?_)
  refine sm_i2l cx dL_link_14 ?_
  refine sm_last cx dL_link_15 ?_
  refine sm_goto (tgt := 31) cx dL_link_16 (by decide) ?_
  refine sm_iconst (v := 0) cx dL_link_31 (by decide) ?_
  exact sh_iret cx hr dL_link_32
set_option maxRecDepth 100000 in
set_option maxHeartbeats 4000000 in
theorem ct_L_link (Z : Nat → Nat) (r0 : Option Nat) (x1 : Int32) (x2 : Int32) (x3 : Int32) (x4 : Int32) (x5 : Int32) (r6 : Option Nat) : CtH yL_link cL_link 8 (some .int) [(0, 16, 19, 13), (0, 16, 23, 32), (0, 16, 27, 15)] 73 1473 Z [va_rf r0, .int x1, .int x2, .int x3, .int x4, .int x5, va_rf r6] vI (f_L_link Z r0 x1 x2 x3 x4 x5 r6) := by
  refine cth_of (hh := [(0, 16, 19, 13), (0, 16, 23, 32), (0, 16, 27, 15)]) (lv0 := [(0, va_rf r0), (1, .int x1), (2, .int x2), (3, .int x3), (4, .int x4), (5, .int x5), (6, va_rf r6)]) (by decide +kernel) (by simp [lg_sl, ct_i, ct_l, ct_r, rf_cat]) (by show _ = ([(0, va_rf r0), (1, .int x1), (2, .int x2), (3, .int x3), (4, .int x4), (5, .int x5), (6, va_rf r6)] : List (Nat × Value)); simp [lv_args, ct_i, ct_l, ct_r, rf_cat]) (fun X cx hZ hfr hlo hr hth => ?_)
  subst hZ
  exact s_L_link cx (Nat.le_of_eq hfr.symm) (Nat.le_of_eq hlo.symm) hr hth r0 x1 x2 x3 x4 x5 r6
/-! PolicyTreeLaw.end(LPolicyTree;I[J)I -/
theorem dL_end_0 : decode cL_end 0 = .ok (.aload_n 2, 1) := by decide +kernel
theorem dL_end_1 : decode cL_end 1 = .ok (.iconst 0, 1) := by decide +kernel
theorem dL_end_2 : decode cL_end 2 = .ok (.aload_n 0, 1) := by decide +kernel
theorem dL_end_3 : decode cL_end 3 = .ok (.iload_n 1, 1) := by decide +kernel
theorem dL_end_4 : decode cL_end 4 = .ok (.invokevirtual 66, 3) := by decide +kernel
theorem dL_end_7 : decode cL_end 7 = .ok (.ifCond .eq 7, 3) := by decide +kernel
theorem dL_end_10 : decode cL_end 10 = .ok (.lconst 1, 1) := by decide +kernel
theorem dL_end_11 : decode cL_end 11 = .ok (.goto 4, 3) := by decide +kernel
theorem dL_end_14 : decode cL_end 14 = .ok (.lconst 0, 1) := by decide +kernel
theorem dL_end_15 : decode cL_end 15 = .ok (.lastore, 1) := by decide +kernel
theorem dL_end_16 : decode cL_end 16 = .ok (.goto 6, 3) := by decide +kernel
theorem dL_end_19 : decode cL_end 19 = .ok (.astore_n 3, 1) := by decide +kernel
theorem dL_end_20 : decode cL_end 20 = .ok (.iconst 1, 1) := by decide +kernel
theorem dL_end_21 : decode cL_end 21 = .ok (.ireturn, 1) := by decide +kernel
theorem dL_end_22 : decode cL_end 22 = .ok (.iconst 0, 1) := by decide +kernel
theorem dL_end_23 : decode cL_end 23 = .ok (.ireturn, 1) := by decide +kernel
def f_L_end_15 (sr0 : Option Nat) (sx1 : Int32) (sl2 : Int64) : Mo Int32 := mb (sL sr0 sx1 sl2) (fun _ => mp (0 : Int32))
set_option maxRecDepth 100000 in
set_option maxHeartbeats 4000000 in
theorem s_L_end_15 {X : Cg} (cx : Cx X cL_end RL 4) (hfr : 8 ≤ (xR X).frames) (hlo : 133 ≤ (xR X).locals) (hr : (xM X).sig.returnType = (some .int)) (hth : (xL X).stackTraces = false ∧ (xC X).exceptionTable.toList = tableOf [(0, 16, 19, 13)]) (sr0 : Option Nat) (sx1 : Int32) (sl2 : Int64) : Sim X 4 (FiH X vI) 15 [] [.long sl2, .int sx1, va_rf sr0] (f_L_end_15 sr0 sx1 sl2) := by
  unfold f_L_end_15
  refine sm_last cx dL_end_15 ?_
  refine sm_goto (tgt := 22) cx dL_end_16 (by decide) ?_
  refine sm_iconst (v := 0) cx dL_end_22 (by decide) ?_
  exact sh_iret cx hr dL_end_23
def f_L_end (r0 : Option Nat) (x1 : Int32) (r2 : Option Nat) : Mo Int32 := mh [(eI, 19, 1)] (mo 14 r0 (f_X11_end r0 x1)) (fun v4 => (if v4 = 0 then f_L_end_15 r2 (0 : Int32) (0 : Int64) else f_L_end_15 r2 (0 : Int32) (1 : Int64)))
set_option maxRecDepth 100000 in
set_option maxHeartbeats 4000000 in
theorem s_L_end {X : Cg} (cx : Cx X cL_end RL 4) (hfr : 8 ≤ (xR X).frames) (hlo : 133 ≤ (xR X).locals) (hr : (xM X).sig.returnType = (some .int)) (hth : (xL X).stackTraces = false ∧ (xC X).exceptionTable.toList = tableOf [(0, 16, 19, 13)]) (r0 : Option Nat) (x1 : Int32) (r2 : Option Nat) : Sim X 4 (FiH X vI) 0 [(0, va_rf r0), (1, .int x1), (2, va_rf r2)] [] (f_L_end r0 x1 r2) := by
  unfold f_L_end
  refine sm_aload_n cx 2 dL_end_0 rfl rfl ?_
  refine sm_iconst (v := 0) cx dL_end_1 (by decide) ?_
  refine sm_aload_n cx 0 dL_end_2 rfl rfl ?_
  refine sm_iload_n cx 1 dL_end_3 rfl rfl ?_
  refine sm_tryV (T := TX11) (N := 14) (toV := vI) cx hth [.int x1] rfl cv_L_66 (fun a h => ct_X11_end (xZ X) a h x1) (Nat.le_trans (by decide) hfr) (Nat.le_trans (by decide) hlo) rfl (cat_le _ (Nat.le_of_ble_eq_true rfl)) dL_end_4 tk_L_end (fun e he q => (List.mem_cons.mp he).elim (fun h => by subst h; exact sm_astore_n cx [(3, va_rf (some q)), (0, va_rf r0), (1, .int x1), (2, va_rf r2)] dL_end_19 rfl (by decide) rfl (nc1 (rf_cat _)) rfl (sm_iconst (v := 1) cx dL_end_20 (by decide) (sh_iret cx hr dL_end_21))) (fun he => nomatch he)) (fun v4 => ?_)
  refine sm_if_eq (tgt := 14) cx dL_end_7 (by decide) ?_ ?_
  · refine sm_lconst (v := 0) cx dL_end_14 (by decide) ?_
    exact sm_lv [] rfl (s_L_end_15 cx hfr hlo hr hth r2 (0 : Int32) (0 : Int64))
  · refine sm_lconst (v := 1) cx dL_end_10 (by decide) ?_
    refine sm_goto (tgt := 15) cx dL_end_11 (by decide) ?_
    exact sm_lv [] rfl (s_L_end_15 cx hfr hlo hr hth r2 (0 : Int32) (1 : Int64))
set_option maxRecDepth 100000 in
set_option maxHeartbeats 4000000 in
theorem ct_L_end (Z : Nat → Nat) (r0 : Option Nat) (x1 : Int32) (r2 : Option Nat) : CtH yL_end cL_end 4 (some .int) [(0, 16, 19, 13)] 8 133 Z [va_rf r0, .int x1, va_rf r2] vI (f_L_end r0 x1 r2) := by
  refine cth_of (hh := [(0, 16, 19, 13)]) (lv0 := [(0, va_rf r0), (1, .int x1), (2, va_rf r2)]) (by decide +kernel) (by simp [lg_sl, ct_i, ct_l, ct_r, rf_cat]) (by show _ = ([(0, va_rf r0), (1, .int x1), (2, va_rf r2)] : List (Nat × Value)); simp [lv_args, ct_i, ct_l, ct_r, rf_cat]) (fun X cx hZ hfr hlo hr hth => ?_)
  subst hZ
  exact s_L_end cx (Nat.le_of_eq hfr.symm) (Nat.le_of_eq hlo.symm) hr hth r0 x1 r2
/-! PolicyTreeLaw.outcome(LPolicyTree;II[J)I -/
theorem dL_outcome_0 : decode cL_outcome 0 = .ok (.aload_n 3, 1) := by decide +kernel
theorem dL_outcome_1 : decode cL_outcome 1 = .ok (.iconst 0, 1) := by decide +kernel
theorem dL_outcome_2 : decode cL_outcome 2 = .ok (.aload_n 0, 1) := by decide +kernel
theorem dL_outcome_3 : decode cL_outcome 3 = .ok (.iload_n 1, 1) := by decide +kernel
theorem dL_outcome_4 : decode cL_outcome 4 = .ok (.iload_n 2, 1) := by decide +kernel
theorem dL_outcome_5 : decode cL_outcome 5 = .ok (.invokevirtual 70, 3) := by decide +kernel
theorem dL_outcome_8 : decode cL_outcome 8 = .ok (.i2l, 1) := by decide +kernel
theorem dL_outcome_9 : decode cL_outcome 9 = .ok (.lastore, 1) := by decide +kernel
theorem dL_outcome_10 : decode cL_outcome 10 = .ok (.goto 11, 3) := by decide +kernel
theorem dL_outcome_13 : decode cL_outcome 13 = .ok (.astore 4, 2) := by decide +kernel
theorem dL_outcome_15 : decode cL_outcome 15 = .ok (.iconst 1, 1) := by decide +kernel
theorem dL_outcome_16 : decode cL_outcome 16 = .ok (.ireturn, 1) := by decide +kernel
theorem dL_outcome_17 : decode cL_outcome 17 = .ok (.astore 4, 2) := by decide +kernel
theorem dL_outcome_19 : decode cL_outcome 19 = .ok (.iconst 2, 1) := by decide +kernel
theorem dL_outcome_20 : decode cL_outcome 20 = .ok (.ireturn, 1) := by decide +kernel
theorem dL_outcome_21 : decode cL_outcome 21 = .ok (.iconst 0, 1) := by decide +kernel
theorem dL_outcome_22 : decode cL_outcome 22 = .ok (.ireturn, 1) := by decide +kernel
def f_L_outcome (Z : Nat → Nat) (r0 : Option Nat) (x1 : Int32) (x2 : Int32) (r3 : Option Nat) : Mo Int32 := mh [(eI, 13, 1), (eA, 17, 2)] (mo 14 r0 (f_X11_outcome Z r0 x1 x2)) (fun v5 => mb (sL r3 (0 : Int32) (Int32.toInt64 v5)) (fun _ => mp (0 : Int32)))
set_option maxRecDepth 100000 in
set_option maxHeartbeats 4000000 in
theorem s_L_outcome {X : Cg} (cx : Cx X cL_outcome RL 5) (hfr : 11 ≤ (xR X).frames) (hlo : 266 ≤ (xR X).locals) (hr : (xM X).sig.returnType = (some .int)) (hth : (xL X).stackTraces = false ∧ (xC X).exceptionTable.toList = tableOf [(0, 10, 13, 13), (0, 10, 17, 32)]) (r0 : Option Nat) (x1 : Int32) (x2 : Int32) (r3 : Option Nat) : Sim X 5 (FiH X vI) 0 [(0, va_rf r0), (1, .int x1), (2, .int x2), (3, va_rf r3)] [] (f_L_outcome (xZ X) r0 x1 x2 r3) := by
  unfold f_L_outcome
  refine sm_aload_n cx 3 dL_outcome_0 rfl rfl ?_
  refine sm_iconst (v := 0) cx dL_outcome_1 (by decide) ?_
  refine sm_aload_n cx 0 dL_outcome_2 rfl rfl ?_
  refine sm_iload_n cx 1 dL_outcome_3 rfl rfl ?_
  refine sm_iload_n cx 2 dL_outcome_4 rfl rfl ?_
  refine sm_tryV (T := TX11) (N := 14) (toV := vI) cx hth [.int x1, .int x2] rfl cv_L_70 (fun a h => ct_X11_outcome (xZ X) a h x1 x2) (Nat.le_trans (by decide) hfr) (Nat.le_trans (by decide) hlo) rfl (cat_le _ (Nat.le_of_ble_eq_true rfl)) dL_outcome_5 tk_L_outcome (fun e he q => (List.mem_cons.mp he).elim (fun h => by subst h; exact sm_astore cx [(4, va_rf (some q)), (0, va_rf r0), (1, .int x1), (2, .int x2), (3, va_rf r3)] dL_outcome_13 (by decide) rfl (nc1 (rf_cat _)) rfl (sm_iconst (v := 1) cx dL_outcome_15 (by decide) (sh_iret cx hr dL_outcome_16))) (fun he => (List.mem_cons.mp he).elim (fun h => by subst h; exact sm_astore cx [(4, va_rf (some q)), (0, va_rf r0), (1, .int x1), (2, .int x2), (3, va_rf r3)] dL_outcome_17 (by decide) rfl (nc1 (rf_cat _)) rfl (sm_iconst (v := 2) cx dL_outcome_19 (by decide) (sh_iret cx hr dL_outcome_20))) (fun he => nomatch he))) (fun v5 => ?_)
  refine sm_i2l cx dL_outcome_8 ?_
  refine sm_last cx dL_outcome_9 ?_
  refine sm_goto (tgt := 21) cx dL_outcome_10 (by decide) ?_
  refine sm_iconst (v := 0) cx dL_outcome_21 (by decide) ?_
  exact sh_iret cx hr dL_outcome_22
set_option maxRecDepth 100000 in
set_option maxHeartbeats 4000000 in
theorem ct_L_outcome (Z : Nat → Nat) (r0 : Option Nat) (x1 : Int32) (x2 : Int32) (r3 : Option Nat) : CtH yL_outcome cL_outcome 5 (some .int) [(0, 10, 13, 13), (0, 10, 17, 32)] 11 266 Z [va_rf r0, .int x1, .int x2, va_rf r3] vI (f_L_outcome Z r0 x1 x2 r3) := by
  refine cth_of (hh := [(0, 10, 13, 13), (0, 10, 17, 32)]) (lv0 := [(0, va_rf r0), (1, .int x1), (2, .int x2), (3, va_rf r3)]) (by decide +kernel) (by simp [lg_sl, ct_i, ct_l, ct_r, rf_cat]) (by show _ = ([(0, va_rf r0), (1, .int x1), (2, .int x2), (3, va_rf r3)] : List (Nat × Value)); simp [lv_args, ct_i, ct_l, ct_r, rf_cat]) (fun X cx hZ hfr hlo hr hth => ?_)
  subst hZ
  exact s_L_outcome cx (Nat.le_of_eq hfr.symm) (Nat.le_of_eq hlo.symm) hr hth r0 x1 x2 r3
/-! PolicyTreeLaw.value(LPolicyTree;III[J)I -/
theorem dL_value_0 : decode cL_value 0 = .ok (.aload 4, 2) := by decide +kernel
theorem dL_value_2 : decode cL_value 2 = .ok (.iconst 0, 1) := by decide +kernel
theorem dL_value_3 : decode cL_value 3 = .ok (.aload_n 0, 1) := by decide +kernel
theorem dL_value_4 : decode cL_value 4 = .ok (.iload_n 1, 1) := by decide +kernel
theorem dL_value_5 : decode cL_value 5 = .ok (.iload_n 2, 1) := by decide +kernel
theorem dL_value_6 : decode cL_value 6 = .ok (.iload_n 3, 1) := by decide +kernel
theorem dL_value_7 : decode cL_value 7 = .ok (.invokevirtual 73, 3) := by decide +kernel
theorem dL_value_10 : decode cL_value 10 = .ok (.i2l, 1) := by decide +kernel
theorem dL_value_11 : decode cL_value 11 = .ok (.lastore, 1) := by decide +kernel
theorem dL_value_12 : decode cL_value 12 = .ok (.goto 11, 3) := by decide +kernel
theorem dL_value_15 : decode cL_value 15 = .ok (.astore 5, 2) := by decide +kernel
theorem dL_value_17 : decode cL_value 17 = .ok (.iconst 1, 1) := by decide +kernel
theorem dL_value_18 : decode cL_value 18 = .ok (.ireturn, 1) := by decide +kernel
theorem dL_value_19 : decode cL_value 19 = .ok (.astore 5, 2) := by decide +kernel
theorem dL_value_21 : decode cL_value 21 = .ok (.iconst 2, 1) := by decide +kernel
theorem dL_value_22 : decode cL_value 22 = .ok (.ireturn, 1) := by decide +kernel
theorem dL_value_23 : decode cL_value 23 = .ok (.iconst 0, 1) := by decide +kernel
theorem dL_value_24 : decode cL_value 24 = .ok (.ireturn, 1) := by decide +kernel
def f_L_value (Z : Nat → Nat) (r0 : Option Nat) (x1 : Int32) (x2 : Int32) (x3 : Int32) (r4 : Option Nat) : Mo Int32 := mh [(eI, 15, 1), (eA, 19, 2)] (mo 14 r0 (f_X11_value Z r0 x1 x2 x3)) (fun v7 => mb (sL r4 (0 : Int32) (Int32.toInt64 v7)) (fun _ => mp (0 : Int32)))
set_option maxRecDepth 100000 in
set_option maxHeartbeats 4000000 in
theorem s_L_value {X : Cg} (cx : Cx X cL_value RL 6) (hfr : 11 ≤ (xR X).frames) (hlo : 267 ≤ (xR X).locals) (hr : (xM X).sig.returnType = (some .int)) (hth : (xL X).stackTraces = false ∧ (xC X).exceptionTable.toList = tableOf [(0, 12, 15, 13), (0, 12, 19, 32)]) (r0 : Option Nat) (x1 : Int32) (x2 : Int32) (x3 : Int32) (r4 : Option Nat) : Sim X 6 (FiH X vI) 0 [(0, va_rf r0), (1, .int x1), (2, .int x2), (3, .int x3), (4, va_rf r4)] [] (f_L_value (xZ X) r0 x1 x2 x3 r4) := by
  unfold f_L_value
  refine sm_aload cx 4 dL_value_0 rfl ?_
  refine sm_iconst (v := 0) cx dL_value_2 (by decide) ?_
  refine sm_aload_n cx 0 dL_value_3 rfl rfl ?_
  refine sm_iload_n cx 1 dL_value_4 rfl rfl ?_
  refine sm_iload_n cx 2 dL_value_5 rfl rfl ?_
  refine sm_iload_n cx 3 dL_value_6 rfl rfl ?_
  refine sm_tryV (T := TX11) (N := 14) (toV := vI) cx hth [.int x1, .int x2, .int x3] rfl cv_L_73 (fun a h => ct_X11_value (xZ X) a h x1 x2 x3) (Nat.le_trans (by decide) hfr) (Nat.le_trans (by decide) hlo) rfl (cat_le _ (Nat.le_of_ble_eq_true rfl)) dL_value_7 tk_L_value (fun e he q => (List.mem_cons.mp he).elim (fun h => by subst h; exact sm_astore cx [(5, va_rf (some q)), (0, va_rf r0), (1, .int x1), (2, .int x2), (3, .int x3), (4, va_rf r4)] dL_value_15 (by decide) rfl (nc1 (rf_cat _)) rfl (sm_iconst (v := 1) cx dL_value_17 (by decide) (sh_iret cx hr dL_value_18))) (fun he => (List.mem_cons.mp he).elim (fun h => by subst h; exact sm_astore cx [(5, va_rf (some q)), (0, va_rf r0), (1, .int x1), (2, .int x2), (3, .int x3), (4, va_rf r4)] dL_value_19 (by decide) rfl (nc1 (rf_cat _)) rfl (sm_iconst (v := 2) cx dL_value_21 (by decide) (sh_iret cx hr dL_value_22))) (fun he => nomatch he))) (fun v7 => ?_)
  refine sm_i2l cx dL_value_10 ?_
  refine sm_last cx dL_value_11 ?_
  refine sm_goto (tgt := 23) cx dL_value_12 (by decide) ?_
  refine sm_iconst (v := 0) cx dL_value_23 (by decide) ?_
  exact sh_iret cx hr dL_value_24
set_option maxRecDepth 100000 in
set_option maxHeartbeats 4000000 in
theorem ct_L_value (Z : Nat → Nat) (r0 : Option Nat) (x1 : Int32) (x2 : Int32) (x3 : Int32) (r4 : Option Nat) : CtH yL_value cL_value 6 (some .int) [(0, 12, 15, 13), (0, 12, 19, 32)] 11 267 Z [va_rf r0, .int x1, .int x2, .int x3, va_rf r4] vI (f_L_value Z r0 x1 x2 x3 r4) := by
  refine cth_of (hh := [(0, 12, 15, 13), (0, 12, 19, 32)]) (lv0 := [(0, va_rf r0), (1, .int x1), (2, .int x2), (3, .int x3), (4, va_rf r4)]) (by decide +kernel) (by simp [lg_sl, ct_i, ct_l, ct_r, rf_cat]) (by show _ = ([(0, va_rf r0), (1, .int x1), (2, .int x2), (3, .int x3), (4, va_rf r4)] : List (Nat × Value)); simp [lv_args, ct_i, ct_l, ct_r, rf_cat]) (fun X cx hZ hfr hlo hr hth => ?_)
  subst hZ
  exact s_L_value cx (Nat.le_of_eq hfr.symm) (Nat.le_of_eq hlo.symm) hr hth r0 x1 x2 x3 r4
/-! PolicyTreeLaw.reason(LPolicyTree;II[J)I -/
theorem dL_reason_0 : decode cL_reason 0 = .ok (.aload_n 3, 1) := by decide +kernel
theorem dL_reason_1 : decode cL_reason 1 = .ok (.iconst 0, 1) := by decide +kernel
theorem dL_reason_2 : decode cL_reason 2 = .ok (.aload_n 0, 1) := by decide +kernel
theorem dL_reason_3 : decode cL_reason 3 = .ok (.iload_n 1, 1) := by decide +kernel
theorem dL_reason_4 : decode cL_reason 4 = .ok (.iload_n 2, 1) := by decide +kernel
theorem dL_reason_5 : decode cL_reason 5 = .ok (.invokevirtual 76, 3) := by decide +kernel
theorem dL_reason_8 : decode cL_reason 8 = .ok (.i2l, 1) := by decide +kernel
theorem dL_reason_9 : decode cL_reason 9 = .ok (.lastore, 1) := by decide +kernel
theorem dL_reason_10 : decode cL_reason 10 = .ok (.goto 11, 3) := by decide +kernel
theorem dL_reason_13 : decode cL_reason 13 = .ok (.astore 4, 2) := by decide +kernel
theorem dL_reason_15 : decode cL_reason 15 = .ok (.iconst 1, 1) := by decide +kernel
theorem dL_reason_16 : decode cL_reason 16 = .ok (.ireturn, 1) := by decide +kernel
theorem dL_reason_17 : decode cL_reason 17 = .ok (.astore 4, 2) := by decide +kernel
theorem dL_reason_19 : decode cL_reason 19 = .ok (.iconst 2, 1) := by decide +kernel
theorem dL_reason_20 : decode cL_reason 20 = .ok (.ireturn, 1) := by decide +kernel
theorem dL_reason_21 : decode cL_reason 21 = .ok (.iconst 0, 1) := by decide +kernel
theorem dL_reason_22 : decode cL_reason 22 = .ok (.ireturn, 1) := by decide +kernel
def f_L_reason (Z : Nat → Nat) (r0 : Option Nat) (x1 : Int32) (x2 : Int32) (r3 : Option Nat) : Mo Int32 := mh [(eI, 13, 1), (eA, 17, 2)] (mo 14 r0 (f_X11_reason Z r0 x1 x2)) (fun v5 => mb (sL r3 (0 : Int32) (Int32.toInt64 v5)) (fun _ => mp (0 : Int32)))
set_option maxRecDepth 100000 in
set_option maxHeartbeats 4000000 in
theorem s_L_reason {X : Cg} (cx : Cx X cL_reason RL 5) (hfr : 11 ≤ (xR X).frames) (hlo : 267 ≤ (xR X).locals) (hr : (xM X).sig.returnType = (some .int)) (hth : (xL X).stackTraces = false ∧ (xC X).exceptionTable.toList = tableOf [(0, 10, 13, 13), (0, 10, 17, 32)]) (r0 : Option Nat) (x1 : Int32) (x2 : Int32) (r3 : Option Nat) : Sim X 5 (FiH X vI) 0 [(0, va_rf r0), (1, .int x1), (2, .int x2), (3, va_rf r3)] [] (f_L_reason (xZ X) r0 x1 x2 r3) := by
  unfold f_L_reason
  refine sm_aload_n cx 3 dL_reason_0 rfl rfl ?_
  refine sm_iconst (v := 0) cx dL_reason_1 (by decide) ?_
  refine sm_aload_n cx 0 dL_reason_2 rfl rfl ?_
  refine sm_iload_n cx 1 dL_reason_3 rfl rfl ?_
  refine sm_iload_n cx 2 dL_reason_4 rfl rfl ?_
  refine sm_tryV (T := TX11) (N := 14) (toV := vI) cx hth [.int x1, .int x2] rfl cv_L_76 (fun a h => ct_X11_reason (xZ X) a h x1 x2) (Nat.le_trans (by decide) hfr) (Nat.le_trans (by decide) hlo) rfl (cat_le _ (Nat.le_of_ble_eq_true rfl)) dL_reason_5 tk_L_reason (fun e he q => (List.mem_cons.mp he).elim (fun h => by subst h; exact sm_astore cx [(4, va_rf (some q)), (0, va_rf r0), (1, .int x1), (2, .int x2), (3, va_rf r3)] dL_reason_13 (by decide) rfl (nc1 (rf_cat _)) rfl (sm_iconst (v := 1) cx dL_reason_15 (by decide) (sh_iret cx hr dL_reason_16))) (fun he => (List.mem_cons.mp he).elim (fun h => by subst h; exact sm_astore cx [(4, va_rf (some q)), (0, va_rf r0), (1, .int x1), (2, .int x2), (3, va_rf r3)] dL_reason_17 (by decide) rfl (nc1 (rf_cat _)) rfl (sm_iconst (v := 2) cx dL_reason_19 (by decide) (sh_iret cx hr dL_reason_20))) (fun he => nomatch he))) (fun v5 => ?_)
  refine sm_i2l cx dL_reason_8 ?_
  refine sm_last cx dL_reason_9 ?_
  refine sm_goto (tgt := 21) cx dL_reason_10 (by decide) ?_
  refine sm_iconst (v := 0) cx dL_reason_21 (by decide) ?_
  exact sh_iret cx hr dL_reason_22
set_option maxRecDepth 100000 in
set_option maxHeartbeats 4000000 in
theorem ct_L_reason (Z : Nat → Nat) (r0 : Option Nat) (x1 : Int32) (x2 : Int32) (r3 : Option Nat) : CtH yL_reason cL_reason 5 (some .int) [(0, 10, 13, 13), (0, 10, 17, 32)] 11 267 Z [va_rf r0, .int x1, .int x2, va_rf r3] vI (f_L_reason Z r0 x1 x2 r3) := by
  refine cth_of (hh := [(0, 10, 13, 13), (0, 10, 17, 32)]) (lv0 := [(0, va_rf r0), (1, .int x1), (2, .int x2), (3, va_rf r3)]) (by decide +kernel) (by simp [lg_sl, ct_i, ct_l, ct_r, rf_cat]) (by show _ = ([(0, va_rf r0), (1, .int x1), (2, .int x2), (3, va_rf r3)] : List (Nat × Value)); simp [lv_args, ct_i, ct_l, ct_r, rf_cat]) (fun X cx hZ hfr hlo hr hth => ?_)
  subst hZ
  exact s_L_reason cx (Nat.le_of_eq hfr.symm) (Nat.le_of_eq hlo.symm) hr hth r0 x1 x2 r3
/-! PolicyTreeLaw.beaten(LPolicyTree;III[J)I -/
theorem dL_beaten_0 : decode cL_beaten 0 = .ok (.aload 4, 2) := by decide +kernel
theorem dL_beaten_2 : decode cL_beaten 2 = .ok (.iconst 0, 1) := by decide +kernel
theorem dL_beaten_3 : decode cL_beaten 3 = .ok (.aload_n 0, 1) := by decide +kernel
theorem dL_beaten_4 : decode cL_beaten 4 = .ok (.iload_n 1, 1) := by decide +kernel
theorem dL_beaten_5 : decode cL_beaten 5 = .ok (.iload_n 2, 1) := by decide +kernel
theorem dL_beaten_6 : decode cL_beaten 6 = .ok (.iload_n 3, 1) := by decide +kernel
theorem dL_beaten_7 : decode cL_beaten 7 = .ok (.invokevirtual 79, 3) := by decide +kernel
theorem dL_beaten_10 : decode cL_beaten 10 = .ok (.i2l, 1) := by decide +kernel
theorem dL_beaten_11 : decode cL_beaten 11 = .ok (.lastore, 1) := by decide +kernel
theorem dL_beaten_12 : decode cL_beaten 12 = .ok (.goto 11, 3) := by decide +kernel
theorem dL_beaten_15 : decode cL_beaten 15 = .ok (.astore 5, 2) := by decide +kernel
theorem dL_beaten_17 : decode cL_beaten 17 = .ok (.iconst 1, 1) := by decide +kernel
theorem dL_beaten_18 : decode cL_beaten 18 = .ok (.ireturn, 1) := by decide +kernel
theorem dL_beaten_19 : decode cL_beaten 19 = .ok (.astore 5, 2) := by decide +kernel
theorem dL_beaten_21 : decode cL_beaten 21 = .ok (.iconst 2, 1) := by decide +kernel
theorem dL_beaten_22 : decode cL_beaten 22 = .ok (.ireturn, 1) := by decide +kernel
theorem dL_beaten_23 : decode cL_beaten 23 = .ok (.iconst 0, 1) := by decide +kernel
theorem dL_beaten_24 : decode cL_beaten 24 = .ok (.ireturn, 1) := by decide +kernel
def f_L_beaten (Z : Nat → Nat) (r0 : Option Nat) (x1 : Int32) (x2 : Int32) (x3 : Int32) (r4 : Option Nat) : Mo Int32 := mh [(eI, 15, 1), (eA, 19, 2)] (mo 14 r0 (f_X11_beaten Z r0 x1 x2 x3)) (fun v7 => mb (sL r4 (0 : Int32) (Int32.toInt64 v7)) (fun _ => mp (0 : Int32)))
set_option maxRecDepth 100000 in
set_option maxHeartbeats 4000000 in
theorem s_L_beaten {X : Cg} (cx : Cx X cL_beaten RL 6) (hfr : 11 ≤ (xR X).frames) (hlo : 270 ≤ (xR X).locals) (hr : (xM X).sig.returnType = (some .int)) (hth : (xL X).stackTraces = false ∧ (xC X).exceptionTable.toList = tableOf [(0, 12, 15, 13), (0, 12, 19, 32)]) (r0 : Option Nat) (x1 : Int32) (x2 : Int32) (x3 : Int32) (r4 : Option Nat) : Sim X 6 (FiH X vI) 0 [(0, va_rf r0), (1, .int x1), (2, .int x2), (3, .int x3), (4, va_rf r4)] [] (f_L_beaten (xZ X) r0 x1 x2 x3 r4) := by
  unfold f_L_beaten
  refine sm_aload cx 4 dL_beaten_0 rfl ?_
  refine sm_iconst (v := 0) cx dL_beaten_2 (by decide) ?_
  refine sm_aload_n cx 0 dL_beaten_3 rfl rfl ?_
  refine sm_iload_n cx 1 dL_beaten_4 rfl rfl ?_
  refine sm_iload_n cx 2 dL_beaten_5 rfl rfl ?_
  refine sm_iload_n cx 3 dL_beaten_6 rfl rfl ?_
  refine sm_tryV (T := TX11) (N := 14) (toV := vI) cx hth [.int x1, .int x2, .int x3] rfl cv_L_79 (fun a h => ct_X11_beaten (xZ X) a h x1 x2 x3) (Nat.le_trans (by decide) hfr) (Nat.le_trans (by decide) hlo) rfl (cat_le _ (Nat.le_of_ble_eq_true rfl)) dL_beaten_7 tk_L_beaten (fun e he q => (List.mem_cons.mp he).elim (fun h => by subst h; exact sm_astore cx [(5, va_rf (some q)), (0, va_rf r0), (1, .int x1), (2, .int x2), (3, .int x3), (4, va_rf r4)] dL_beaten_15 (by decide) rfl (nc1 (rf_cat _)) rfl (sm_iconst (v := 1) cx dL_beaten_17 (by decide) (sh_iret cx hr dL_beaten_18))) (fun he => (List.mem_cons.mp he).elim (fun h => by subst h; exact sm_astore cx [(5, va_rf (some q)), (0, va_rf r0), (1, .int x1), (2, .int x2), (3, .int x3), (4, va_rf r4)] dL_beaten_19 (by decide) rfl (nc1 (rf_cat _)) rfl (sm_iconst (v := 2) cx dL_beaten_21 (by decide) (sh_iret cx hr dL_beaten_22))) (fun he => nomatch he))) (fun v7 => ?_)
  refine sm_i2l cx dL_beaten_10 ?_
  refine sm_last cx dL_beaten_11 ?_
  refine sm_goto (tgt := 23) cx dL_beaten_12 (by decide) ?_
  refine sm_iconst (v := 0) cx dL_beaten_23 (by decide) ?_
  exact sh_iret cx hr dL_beaten_24
set_option maxRecDepth 100000 in
set_option maxHeartbeats 4000000 in
theorem ct_L_beaten (Z : Nat → Nat) (r0 : Option Nat) (x1 : Int32) (x2 : Int32) (x3 : Int32) (r4 : Option Nat) : CtH yL_beaten cL_beaten 6 (some .int) [(0, 12, 15, 13), (0, 12, 19, 32)] 11 270 Z [va_rf r0, .int x1, .int x2, .int x3, va_rf r4] vI (f_L_beaten Z r0 x1 x2 x3 r4) := by
  refine cth_of (hh := [(0, 12, 15, 13), (0, 12, 19, 32)]) (lv0 := [(0, va_rf r0), (1, .int x1), (2, .int x2), (3, .int x3), (4, va_rf r4)]) (by decide +kernel) (by simp [lg_sl, ct_i, ct_l, ct_r, rf_cat]) (by show _ = ([(0, va_rf r0), (1, .int x1), (2, .int x2), (3, .int x3), (4, va_rf r4)] : List (Nat × Value)); simp [lv_args, ct_i, ct_l, ct_r, rf_cat]) (fun X cx hZ hfr hlo hr hth => ?_)
  subst hZ
  exact s_L_beaten cx (Nat.le_of_eq hfr.symm) (Nat.le_of_eq hlo.symm) hr hth r0 x1 x2 x3 r4
/-! PolicyTreeLaw.sure(LPolicyTree;II[J)I -/
theorem dL_sure_0 : decode cL_sure 0 = .ok (.aload_n 3, 1) := by decide +kernel
theorem dL_sure_1 : decode cL_sure 1 = .ok (.iconst 0, 1) := by decide +kernel
theorem dL_sure_2 : decode cL_sure 2 = .ok (.aload_n 0, 1) := by decide +kernel
theorem dL_sure_3 : decode cL_sure 3 = .ok (.iload_n 1, 1) := by decide +kernel
theorem dL_sure_4 : decode cL_sure 4 = .ok (.iload_n 2, 1) := by decide +kernel
theorem dL_sure_5 : decode cL_sure 5 = .ok (.invokevirtual 82, 3) := by decide +kernel
theorem dL_sure_8 : decode cL_sure 8 = .ok (.ifCond .eq 7, 3) := by decide +kernel
theorem dL_sure_11 : decode cL_sure 11 = .ok (.lconst 1, 1) := by decide +kernel
theorem dL_sure_12 : decode cL_sure 12 = .ok (.goto 4, 3) := by decide +kernel
theorem dL_sure_15 : decode cL_sure 15 = .ok (.lconst 0, 1) := by decide +kernel
theorem dL_sure_16 : decode cL_sure 16 = .ok (.lastore, 1) := by decide +kernel
theorem dL_sure_17 : decode cL_sure 17 = .ok (.goto 11, 3) := by decide +kernel
theorem dL_sure_20 : decode cL_sure 20 = .ok (.astore 4, 2) := by decide +kernel
theorem dL_sure_22 : decode cL_sure 22 = .ok (.iconst 1, 1) := by decide +kernel
theorem dL_sure_23 : decode cL_sure 23 = .ok (.ireturn, 1) := by decide +kernel
theorem dL_sure_24 : decode cL_sure 24 = .ok (.astore 4, 2) := by decide +kernel
theorem dL_sure_26 : decode cL_sure 26 = .ok (.iconst 2, 1) := by decide +kernel
theorem dL_sure_27 : decode cL_sure 27 = .ok (.ireturn, 1) := by decide +kernel
theorem dL_sure_28 : decode cL_sure 28 = .ok (.iconst 0, 1) := by decide +kernel
theorem dL_sure_29 : decode cL_sure 29 = .ok (.ireturn, 1) := by decide +kernel
def f_L_sure_16 (Z : Nat → Nat) (sr0 : Option Nat) (sx1 : Int32) (sl2 : Int64) : Mo Int32 := mb (sL sr0 sx1 sl2) (fun _ => mp (0 : Int32))
set_option maxRecDepth 100000 in
set_option maxHeartbeats 4000000 in
theorem s_L_sure_16 {X : Cg} (cx : Cx X cL_sure RL 5) (hfr : 11 ≤ (xR X).frames) (hlo : 268 ≤ (xR X).locals) (hr : (xM X).sig.returnType = (some .int)) (hth : (xL X).stackTraces = false ∧ (xC X).exceptionTable.toList = tableOf [(0, 17, 20, 13), (0, 17, 24, 32)]) (sr0 : Option Nat) (sx1 : Int32) (sl2 : Int64) : Sim X 5 (FiH X vI) 16 [] [.long sl2, .int sx1, va_rf sr0] (f_L_sure_16 (xZ X) sr0 sx1 sl2) := by
  unfold f_L_sure_16
  refine sm_last cx dL_sure_16 ?_
  refine sm_goto (tgt := 28) cx dL_sure_17 (by decide) ?_
  refine sm_iconst (v := 0) cx dL_sure_28 (by decide) ?_
  exact sh_iret cx hr dL_sure_29
def f_L_sure (Z : Nat → Nat) (r0 : Option Nat) (x1 : Int32) (x2 : Int32) (r3 : Option Nat) : Mo Int32 := mh [(eI, 20, 1), (eA, 24, 2)] (mo 14 r0 (f_X11_sure Z r0 x1 x2)) (fun v5 => (if v5 = 0 then f_L_sure_16 Z r3 (0 : Int32) (0 : Int64) else f_L_sure_16 Z r3 (0 : Int32) (1 : Int64)))
set_option maxRecDepth 100000 in
set_option maxHeartbeats 4000000 in
theorem s_L_sure {X : Cg} (cx : Cx X cL_sure RL 5) (hfr : 11 ≤ (xR X).frames) (hlo : 268 ≤ (xR X).locals) (hr : (xM X).sig.returnType = (some .int)) (hth : (xL X).stackTraces = false ∧ (xC X).exceptionTable.toList = tableOf [(0, 17, 20, 13), (0, 17, 24, 32)]) (r0 : Option Nat) (x1 : Int32) (x2 : Int32) (r3 : Option Nat) : Sim X 5 (FiH X vI) 0 [(0, va_rf r0), (1, .int x1), (2, .int x2), (3, va_rf r3)] [] (f_L_sure (xZ X) r0 x1 x2 r3) := by
  unfold f_L_sure
  refine sm_aload_n cx 3 dL_sure_0 rfl rfl ?_
  refine sm_iconst (v := 0) cx dL_sure_1 (by decide) ?_
  refine sm_aload_n cx 0 dL_sure_2 rfl rfl ?_
  refine sm_iload_n cx 1 dL_sure_3 rfl rfl ?_
  refine sm_iload_n cx 2 dL_sure_4 rfl rfl ?_
  refine sm_tryV (T := TX11) (N := 14) (toV := vI) cx hth [.int x1, .int x2] rfl cv_L_82 (fun a h => ct_X11_sure (xZ X) a h x1 x2) (Nat.le_trans (by decide) hfr) (Nat.le_trans (by decide) hlo) rfl (cat_le _ (Nat.le_of_ble_eq_true rfl)) dL_sure_5 tk_L_sure (fun e he q => (List.mem_cons.mp he).elim (fun h => by subst h; exact sm_astore cx [(4, va_rf (some q)), (0, va_rf r0), (1, .int x1), (2, .int x2), (3, va_rf r3)] dL_sure_20 (by decide) rfl (nc1 (rf_cat _)) rfl (sm_iconst (v := 1) cx dL_sure_22 (by decide) (sh_iret cx hr dL_sure_23))) (fun he => (List.mem_cons.mp he).elim (fun h => by subst h; exact sm_astore cx [(4, va_rf (some q)), (0, va_rf r0), (1, .int x1), (2, .int x2), (3, va_rf r3)] dL_sure_24 (by decide) rfl (nc1 (rf_cat _)) rfl (sm_iconst (v := 2) cx dL_sure_26 (by decide) (sh_iret cx hr dL_sure_27))) (fun he => nomatch he))) (fun v5 => ?_)
  refine sm_if_eq (tgt := 15) cx dL_sure_8 (by decide) ?_ ?_
  · refine sm_lconst (v := 0) cx dL_sure_15 (by decide) ?_
    exact sm_lv [] rfl (s_L_sure_16 cx hfr hlo hr hth r3 (0 : Int32) (0 : Int64))
  · refine sm_lconst (v := 1) cx dL_sure_11 (by decide) ?_
    refine sm_goto (tgt := 16) cx dL_sure_12 (by decide) ?_
    exact sm_lv [] rfl (s_L_sure_16 cx hfr hlo hr hth r3 (0 : Int32) (1 : Int64))
set_option maxRecDepth 100000 in
set_option maxHeartbeats 4000000 in
theorem ct_L_sure (Z : Nat → Nat) (r0 : Option Nat) (x1 : Int32) (x2 : Int32) (r3 : Option Nat) : CtH yL_sure cL_sure 5 (some .int) [(0, 17, 20, 13), (0, 17, 24, 32)] 11 268 Z [va_rf r0, .int x1, .int x2, va_rf r3] vI (f_L_sure Z r0 x1 x2 r3) := by
  refine cth_of (hh := [(0, 17, 20, 13), (0, 17, 24, 32)]) (lv0 := [(0, va_rf r0), (1, .int x1), (2, .int x2), (3, va_rf r3)]) (by decide +kernel) (by simp [lg_sl, ct_i, ct_l, ct_r, rf_cat]) (by show _ = ([(0, va_rf r0), (1, .int x1), (2, .int x2), (3, va_rf r3)] : List (Nat × Value)); simp [lv_args, ct_i, ct_l, ct_r, rf_cat]) (fun X cx hZ hfr hlo hr hth => ?_)
  subst hZ
  exact s_L_sure cx (Nat.le_of_eq hfr.symm) (Nat.le_of_eq hlo.symm) hr hth r0 x1 x2 r3
/-! PolicyTreeLaw.reach(LPolicyTree;I[J)I -/
theorem dL_reach_0 : decode cL_reach 0 = .ok (.aload_n 2, 1) := by decide +kernel
theorem dL_reach_1 : decode cL_reach 1 = .ok (.iconst 0, 1) := by decide +kernel
theorem dL_reach_2 : decode cL_reach 2 = .ok (.aload_n 0, 1) := by decide +kernel
theorem dL_reach_3 : decode cL_reach 3 = .ok (.iload_n 1, 1) := by decide +kernel
theorem dL_reach_4 : decode cL_reach 4 = .ok (.invokevirtual 85, 3) := by decide +kernel
theorem dL_reach_7 : decode cL_reach 7 = .ok (.i2l, 1) := by decide +kernel
theorem dL_reach_8 : decode cL_reach 8 = .ok (.lastore, 1) := by decide +kernel
theorem dL_reach_9 : decode cL_reach 9 = .ok (.goto 6, 3) := by decide +kernel
theorem dL_reach_12 : decode cL_reach 12 = .ok (.astore_n 3, 1) := by decide +kernel
theorem dL_reach_13 : decode cL_reach 13 = .ok (.iconst 1, 1) := by decide +kernel
theorem dL_reach_14 : decode cL_reach 14 = .ok (.ireturn, 1) := by decide +kernel
theorem dL_reach_15 : decode cL_reach 15 = .ok (.iconst 0, 1) := by decide +kernel
theorem dL_reach_16 : decode cL_reach 16 = .ok (.ireturn, 1) := by decide +kernel
def f_L_reach (Z : Nat → Nat) (r0 : Option Nat) (x1 : Int32) (r2 : Option Nat) : Mo Int32 := mh [(eI, 12, 1)] (mo 14 r0 (f_X11_reach Z r0 x1)) (fun v4 => mb (sL r2 (0 : Int32) (Int32.toInt64 v4)) (fun _ => mp (0 : Int32)))
set_option maxRecDepth 100000 in
set_option maxHeartbeats 4000000 in
theorem s_L_reach {X : Cg} (cx : Cx X cL_reach RL 4) (hfr : 11 ≤ (xR X).frames) (hlo : 267 ≤ (xR X).locals) (hr : (xM X).sig.returnType = (some .int)) (hth : (xL X).stackTraces = false ∧ (xC X).exceptionTable.toList = tableOf [(0, 9, 12, 13)]) (r0 : Option Nat) (x1 : Int32) (r2 : Option Nat) : Sim X 4 (FiH X vI) 0 [(0, va_rf r0), (1, .int x1), (2, va_rf r2)] [] (f_L_reach (xZ X) r0 x1 r2) := by
  unfold f_L_reach
  refine sm_aload_n cx 2 dL_reach_0 rfl rfl ?_
  refine sm_iconst (v := 0) cx dL_reach_1 (by decide) ?_
  refine sm_aload_n cx 0 dL_reach_2 rfl rfl ?_
  refine sm_iload_n cx 1 dL_reach_3 rfl rfl ?_
  refine sm_tryV (T := TX11) (N := 14) (toV := vI) cx hth [.int x1] rfl cv_L_85 (fun a h => ct_X11_reach (xZ X) a h x1) (Nat.le_trans (by decide) hfr) (Nat.le_trans (by decide) hlo) rfl (cat_le _ (Nat.le_of_ble_eq_true rfl)) dL_reach_4 tk_L_reach (fun e he q => (List.mem_cons.mp he).elim (fun h => by subst h; exact sm_astore_n cx [(3, va_rf (some q)), (0, va_rf r0), (1, .int x1), (2, va_rf r2)] dL_reach_12 rfl (by decide) rfl (nc1 (rf_cat _)) rfl (sm_iconst (v := 1) cx dL_reach_13 (by decide) (sh_iret cx hr dL_reach_14))) (fun he => nomatch he)) (fun v4 => ?_)
  refine sm_i2l cx dL_reach_7 ?_
  refine sm_last cx dL_reach_8 ?_
  refine sm_goto (tgt := 15) cx dL_reach_9 (by decide) ?_
  refine sm_iconst (v := 0) cx dL_reach_15 (by decide) ?_
  exact sh_iret cx hr dL_reach_16
set_option maxRecDepth 100000 in
set_option maxHeartbeats 4000000 in
theorem ct_L_reach (Z : Nat → Nat) (r0 : Option Nat) (x1 : Int32) (r2 : Option Nat) : CtH yL_reach cL_reach 4 (some .int) [(0, 9, 12, 13)] 11 267 Z [va_rf r0, .int x1, va_rf r2] vI (f_L_reach Z r0 x1 r2) := by
  refine cth_of (hh := [(0, 9, 12, 13)]) (lv0 := [(0, va_rf r0), (1, .int x1), (2, va_rf r2)]) (by decide +kernel) (by simp [lg_sl, ct_i, ct_l, ct_r, rf_cat]) (by show _ = ([(0, va_rf r0), (1, .int x1), (2, va_rf r2)] : List (Nat × Value)); simp [lv_args, ct_i, ct_l, ct_r, rf_cat]) (fun X cx hZ hfr hlo hr hth => ?_)
  subst hZ
  exact s_L_reach cx (Nat.le_of_eq hfr.symm) (Nat.le_of_eq hlo.symm) hr hth r0 x1 r2
/-! PolicyTreeLaw.reached(LPolicyTree;III[J)I -/
theorem dL_reached_0 : decode cL_reached 0 = .ok (.aload 4, 2) := by decide +kernel
theorem dL_reached_2 : decode cL_reached 2 = .ok (.iconst 0, 1) := by decide +kernel
theorem dL_reached_3 : decode cL_reached 3 = .ok (.aload_n 0, 1) := by decide +kernel
theorem dL_reached_4 : decode cL_reached 4 = .ok (.iload_n 1, 1) := by decide +kernel
theorem dL_reached_5 : decode cL_reached 5 = .ok (.iload_n 2, 1) := by decide +kernel
theorem dL_reached_6 : decode cL_reached 6 = .ok (.iload_n 3, 1) := by decide +kernel
theorem dL_reached_7 : decode cL_reached 7 = .ok (.invokevirtual 88, 3) := by decide +kernel
theorem dL_reached_10 : decode cL_reached 10 = .ok (.i2l, 1) := by decide +kernel
theorem dL_reached_11 : decode cL_reached 11 = .ok (.lastore, 1) := by decide +kernel
theorem dL_reached_12 : decode cL_reached 12 = .ok (.goto 11, 3) := by decide +kernel
theorem dL_reached_15 : decode cL_reached 15 = .ok (.astore 5, 2) := by decide +kernel
theorem dL_reached_17 : decode cL_reached 17 = .ok (.iconst 1, 1) := by decide +kernel
theorem dL_reached_18 : decode cL_reached 18 = .ok (.ireturn, 1) := by decide +kernel
theorem dL_reached_19 : decode cL_reached 19 = .ok (.astore 5, 2) := by decide +kernel
theorem dL_reached_21 : decode cL_reached 21 = .ok (.iconst 2, 1) := by decide +kernel
theorem dL_reached_22 : decode cL_reached 22 = .ok (.ireturn, 1) := by decide +kernel
theorem dL_reached_23 : decode cL_reached 23 = .ok (.iconst 0, 1) := by decide +kernel
theorem dL_reached_24 : decode cL_reached 24 = .ok (.ireturn, 1) := by decide +kernel
def f_L_reached (Z : Nat → Nat) (r0 : Option Nat) (x1 : Int32) (x2 : Int32) (x3 : Int32) (r4 : Option Nat) : Mo Int32 := mh [(eI, 15, 1), (eA, 19, 2)] (mo 14 r0 (f_X11_reached Z r0 x1 x2 x3)) (fun v7 => mb (sL r4 (0 : Int32) (Int32.toInt64 v7)) (fun _ => mp (0 : Int32)))
set_option maxRecDepth 100000 in
set_option maxHeartbeats 4000000 in
theorem s_L_reached {X : Cg} (cx : Cx X cL_reached RL 6) (hfr : 11 ≤ (xR X).frames) (hlo : 270 ≤ (xR X).locals) (hr : (xM X).sig.returnType = (some .int)) (hth : (xL X).stackTraces = false ∧ (xC X).exceptionTable.toList = tableOf [(0, 12, 15, 13), (0, 12, 19, 32)]) (r0 : Option Nat) (x1 : Int32) (x2 : Int32) (x3 : Int32) (r4 : Option Nat) : Sim X 6 (FiH X vI) 0 [(0, va_rf r0), (1, .int x1), (2, .int x2), (3, .int x3), (4, va_rf r4)] [] (f_L_reached (xZ X) r0 x1 x2 x3 r4) := by
  unfold f_L_reached
  refine sm_aload cx 4 dL_reached_0 rfl ?_
  refine sm_iconst (v := 0) cx dL_reached_2 (by decide) ?_
  refine sm_aload_n cx 0 dL_reached_3 rfl rfl ?_
  refine sm_iload_n cx 1 dL_reached_4 rfl rfl ?_
  refine sm_iload_n cx 2 dL_reached_5 rfl rfl ?_
  refine sm_iload_n cx 3 dL_reached_6 rfl rfl ?_
  refine sm_tryV (T := TX11) (N := 14) (toV := vI) cx hth [.int x1, .int x2, .int x3] rfl cv_L_88 (fun a h => ct_X11_reached (xZ X) a h x1 x2 x3) (Nat.le_trans (by decide) hfr) (Nat.le_trans (by decide) hlo) rfl (cat_le _ (Nat.le_of_ble_eq_true rfl)) dL_reached_7 tk_L_reached (fun e he q => (List.mem_cons.mp he).elim (fun h => by subst h; exact sm_astore cx [(5, va_rf (some q)), (0, va_rf r0), (1, .int x1), (2, .int x2), (3, .int x3), (4, va_rf r4)] dL_reached_15 (by decide) rfl (nc1 (rf_cat _)) rfl (sm_iconst (v := 1) cx dL_reached_17 (by decide) (sh_iret cx hr dL_reached_18))) (fun he => (List.mem_cons.mp he).elim (fun h => by subst h; exact sm_astore cx [(5, va_rf (some q)), (0, va_rf r0), (1, .int x1), (2, .int x2), (3, .int x3), (4, va_rf r4)] dL_reached_19 (by decide) rfl (nc1 (rf_cat _)) rfl (sm_iconst (v := 2) cx dL_reached_21 (by decide) (sh_iret cx hr dL_reached_22))) (fun he => nomatch he))) (fun v7 => ?_)
  refine sm_i2l cx dL_reached_10 ?_
  refine sm_last cx dL_reached_11 ?_
  refine sm_goto (tgt := 23) cx dL_reached_12 (by decide) ?_
  refine sm_iconst (v := 0) cx dL_reached_23 (by decide) ?_
  exact sh_iret cx hr dL_reached_24
set_option maxRecDepth 100000 in
set_option maxHeartbeats 4000000 in
theorem ct_L_reached (Z : Nat → Nat) (r0 : Option Nat) (x1 : Int32) (x2 : Int32) (x3 : Int32) (r4 : Option Nat) : CtH yL_reached cL_reached 6 (some .int) [(0, 12, 15, 13), (0, 12, 19, 32)] 11 270 Z [va_rf r0, .int x1, .int x2, .int x3, va_rf r4] vI (f_L_reached Z r0 x1 x2 x3 r4) := by
  refine cth_of (hh := [(0, 12, 15, 13), (0, 12, 19, 32)]) (lv0 := [(0, va_rf r0), (1, .int x1), (2, .int x2), (3, .int x3), (4, va_rf r4)]) (by decide +kernel) (by simp [lg_sl, ct_i, ct_l, ct_r, rf_cat]) (by show _ = ([(0, va_rf r0), (1, .int x1), (2, .int x2), (3, .int x3), (4, va_rf r4)] : List (Nat × Value)); simp [lv_args, ct_i, ct_l, ct_r, rf_cat]) (fun X cx hZ hfr hlo hr hth => ?_)
  subst hZ
  exact s_L_reached cx (Nat.le_of_eq hfr.symm) (Nat.le_of_eq hlo.symm) hr hth r0 x1 x2 x3 r4
/-! PolicyTreeLaw.quarrel(LPolicyTree;II[J)I -/
theorem dL_quarrel_0 : decode cL_quarrel 0 = .ok (.aload_n 3, 1) := by decide +kernel
theorem dL_quarrel_1 : decode cL_quarrel 1 = .ok (.iconst 0, 1) := by decide +kernel
theorem dL_quarrel_2 : decode cL_quarrel 2 = .ok (.aload_n 0, 1) := by decide +kernel
theorem dL_quarrel_3 : decode cL_quarrel 3 = .ok (.iload_n 1, 1) := by decide +kernel
theorem dL_quarrel_4 : decode cL_quarrel 4 = .ok (.iload_n 2, 1) := by decide +kernel
theorem dL_quarrel_5 : decode cL_quarrel 5 = .ok (.invokevirtual 91, 3) := by decide +kernel
theorem dL_quarrel_8 : decode cL_quarrel 8 = .ok (.i2l, 1) := by decide +kernel
theorem dL_quarrel_9 : decode cL_quarrel 9 = .ok (.lastore, 1) := by decide +kernel
theorem dL_quarrel_10 : decode cL_quarrel 10 = .ok (.goto 7, 3) := by decide +kernel
theorem dL_quarrel_13 : decode cL_quarrel 13 = .ok (.astore 4, 2) := by decide +kernel
theorem dL_quarrel_15 : decode cL_quarrel 15 = .ok (.iconst 1, 1) := by decide +kernel
theorem dL_quarrel_16 : decode cL_quarrel 16 = .ok (.ireturn, 1) := by decide +kernel
theorem dL_quarrel_17 : decode cL_quarrel 17 = .ok (.iconst 0, 1) := by decide +kernel
theorem dL_quarrel_18 : decode cL_quarrel 18 = .ok (.ireturn, 1) := by decide +kernel
def f_L_quarrel (r0 : Option Nat) (x1 : Int32) (x2 : Int32) (r3 : Option Nat) : Mo Int32 := mh [(eA, 13, 1)] (mo 14 r0 (f_X11_quarrel r0 x1 x2)) (fun v5 => mb (sL r3 (0 : Int32) (Int32.toInt64 v5)) (fun _ => mp (0 : Int32)))
set_option maxRecDepth 100000 in
set_option maxHeartbeats 4000000 in
theorem s_L_quarrel {X : Cg} (cx : Cx X cL_quarrel RL 5) (hfr : 8 ≤ (xR X).frames) (hlo : 137 ≤ (xR X).locals) (hr : (xM X).sig.returnType = (some .int)) (hth : (xL X).stackTraces = false ∧ (xC X).exceptionTable.toList = tableOf [(0, 10, 13, 32)]) (r0 : Option Nat) (x1 : Int32) (x2 : Int32) (r3 : Option Nat) : Sim X 5 (FiH X vI) 0 [(0, va_rf r0), (1, .int x1), (2, .int x2), (3, va_rf r3)] [] (f_L_quarrel r0 x1 x2 r3) := by
  unfold f_L_quarrel
  refine sm_aload_n cx 3 dL_quarrel_0 rfl rfl ?_
  refine sm_iconst (v := 0) cx dL_quarrel_1 (by decide) ?_
  refine sm_aload_n cx 0 dL_quarrel_2 rfl rfl ?_
  refine sm_iload_n cx 1 dL_quarrel_3 rfl rfl ?_
  refine sm_iload_n cx 2 dL_quarrel_4 rfl rfl ?_
  refine sm_tryV (T := TX11) (N := 14) (toV := vI) cx hth [.int x1, .int x2] rfl cv_L_91 (fun a h => ct_X11_quarrel (xZ X) a h x1 x2) (Nat.le_trans (by decide) hfr) (Nat.le_trans (by decide) hlo) rfl (cat_le _ (Nat.le_of_ble_eq_true rfl)) dL_quarrel_5 tk_L_quarrel (fun e he q => (List.mem_cons.mp he).elim (fun h => by subst h; exact sm_astore cx [(4, va_rf (some q)), (0, va_rf r0), (1, .int x1), (2, .int x2), (3, va_rf r3)] dL_quarrel_13 (by decide) rfl (nc1 (rf_cat _)) rfl (sm_iconst (v := 1) cx dL_quarrel_15 (by decide) (sh_iret cx hr dL_quarrel_16))) (fun he => nomatch he)) (fun v5 => ?_)
  refine sm_i2l cx dL_quarrel_8 ?_
  refine sm_last cx dL_quarrel_9 ?_
  refine sm_goto (tgt := 17) cx dL_quarrel_10 (by decide) ?_
  refine sm_iconst (v := 0) cx dL_quarrel_17 (by decide) ?_
  exact sh_iret cx hr dL_quarrel_18
set_option maxRecDepth 100000 in
set_option maxHeartbeats 4000000 in
theorem ct_L_quarrel (Z : Nat → Nat) (r0 : Option Nat) (x1 : Int32) (x2 : Int32) (r3 : Option Nat) : CtH yL_quarrel cL_quarrel 5 (some .int) [(0, 10, 13, 32)] 8 137 Z [va_rf r0, .int x1, .int x2, va_rf r3] vI (f_L_quarrel r0 x1 x2 r3) := by
  refine cth_of (hh := [(0, 10, 13, 32)]) (lv0 := [(0, va_rf r0), (1, .int x1), (2, .int x2), (3, va_rf r3)]) (by decide +kernel) (by simp [lg_sl, ct_i, ct_l, ct_r, rf_cat]) (by show _ = ([(0, va_rf r0), (1, .int x1), (2, .int x2), (3, va_rf r3)] : List (Nat × Value)); simp [lv_args, ct_i, ct_l, ct_r, rf_cat]) (fun X cx hZ hfr hlo hr hth => ?_)
  subst hZ
  exact s_L_quarrel cx (Nat.le_of_eq hfr.symm) (Nat.le_of_eq hlo.symm) hr hth r0 x1 x2 r3
