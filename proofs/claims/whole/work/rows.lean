section
-- ===== PART A: goes FIRST, ahead of the names: the tables' words, and 'selects' of the private methods out of them =====
/-- a private method of a class that the tables say can be made, by its rows of tables_1 -/
def lw_okq (q : MethodName × Nat) : Prop := (q.1.cls ≠ "java/lang/invoke/MethodHandle" ∧ q.1.cls ≠ "java/lang/invoke/VarHandle") ∧ Cond.instantiable q.1.cls q.2 ∈ tables_1 ∧ Cond.privateMethod q.1 ∈ tables_1 ∧ Cond.instanceMethod q.1 ∈ tables_1
theorem lw_p0 : lw_okq (⟨"PolicyRoutes$World", "setCut", "(III)V"⟩, 1) := ⟨⟨by decide +kernel, by decide +kernel⟩, List.mem_of_getElem? (i := 27) (by decide +kernel), List.mem_of_getElem? (i := 318) (by decide +kernel), List.mem_of_getElem? (i := 319) (by decide +kernel)⟩
theorem lw_p1 : lw_okq (⟨"PolicyRoutes$Ways", "isBasis", "(LPolicyRoutes$World;)Z"⟩, 11) := ⟨⟨by decide +kernel, by decide +kernel⟩, List.mem_of_getElem? (i := 78) (by decide +kernel), List.mem_of_getElem? (i := 409) (by decide +kernel), List.mem_of_getElem? (i := 410) (by decide +kernel)⟩
theorem lw_p2 : lw_okq (⟨"PolicyRoutes$Ways", "add", "(III)V"⟩, 11) := ⟨⟨by decide +kernel, by decide +kernel⟩, List.mem_of_getElem? (i := 78) (by decide +kernel), List.mem_of_getElem? (i := 417) (by decide +kernel), List.mem_of_getElem? (i := 418) (by decide +kernel)⟩
theorem lw_p3 : lw_okq (⟨"PolicyRoutes$Ways", "insert", "(II)V"⟩, 11) := ⟨⟨by decide +kernel, by decide +kernel⟩, List.mem_of_getElem? (i := 78) (by decide +kernel), List.mem_of_getElem? (i := 429) (by decide +kernel), List.mem_of_getElem? (i := 430) (by decide +kernel)⟩
theorem lw_p4 : lw_okq (⟨"PolicyRoutes$Ways", "extend", "(LPolicyRoutes$World;I)V"⟩, 11) := ⟨⟨by decide +kernel, by decide +kernel⟩, List.mem_of_getElem? (i := 78) (by decide +kernel), List.mem_of_getElem? (i := 433) (by decide +kernel), List.mem_of_getElem? (i := 434) (by decide +kernel)⟩
theorem lw_p5 : lw_okq (⟨"PolicyRoutes$Ways", "notePlaces", "()V"⟩, 11) := ⟨⟨by decide +kernel, by decide +kernel⟩, List.mem_of_getElem? (i := 78) (by decide +kernel), List.mem_of_getElem? (i := 463) (by decide +kernel), List.mem_of_getElem? (i := 464) (by decide +kernel)⟩
theorem lw_p6 : lw_okq (⟨"PolicyRoutes$Choice", "put", "(II)V"⟩, 5) := ⟨⟨by decide +kernel, by decide +kernel⟩, List.mem_of_getElem? (i := 56) (by decide +kernel), List.mem_of_getElem? (i := 484) (by decide +kernel), List.mem_of_getElem? (i := 485) (by decide +kernel)⟩
theorem lw_p7 : lw_okq (⟨"PolicyRoutes$Choice", "putNone", "(I)V"⟩, 5) := ⟨⟨by decide +kernel, by decide +kernel⟩, List.mem_of_getElem? (i := 56) (by decide +kernel), List.mem_of_getElem? (i := 488) (by decide +kernel), List.mem_of_getElem? (i := 489) (by decide +kernel)⟩
theorem lw_p8 : lw_okq (⟨"PolicyRoutes$Choice", "together", "(II)I"⟩, 5) := ⟨⟨by decide +kernel, by decide +kernel⟩, List.mem_of_getElem? (i := 56) (by decide +kernel), List.mem_of_getElem? (i := 502) (by decide +kernel), List.mem_of_getElem? (i := 503) (by decide +kernel)⟩
theorem lw_p9 : lw_okq (⟨"PolicyRoutes", "reasonAgainst", "(II)I"⟩, 13) := ⟨⟨by decide +kernel, by decide +kernel⟩, List.mem_of_getElem? (i := 19) (by decide +kernel), List.mem_of_getElem? (i := 523) (by decide +kernel), List.mem_of_getElem? (i := 524) (by decide +kernel)⟩
theorem lw_p10 : lw_okq (⟨"PolicyRoutes", "reasonOf", "(IIII)I"⟩, 13) := ⟨⟨by decide +kernel, by decide +kernel⟩, List.mem_of_getElem? (i := 19) (by decide +kernel), List.mem_of_getElem? (i := 527) (by decide +kernel), List.mem_of_getElem? (i := 528) (by decide +kernel)⟩
theorem lw_p11 : lw_okq (⟨"PolicyRoutes", "discontent", "()I"⟩, 13) := ⟨⟨by decide +kernel, by decide +kernel⟩, List.mem_of_getElem? (i := 19) (by decide +kernel), List.mem_of_getElem? (i := 550) (by decide +kernel), List.mem_of_getElem? (i := 551) (by decide +kernel)⟩
theorem lw_p12 : lw_okq (⟨"PolicyRoutes", "stableOnes", "()I"⟩, 13) := ⟨⟨by decide +kernel, by decide +kernel⟩, List.mem_of_getElem? (i := 19) (by decide +kernel), List.mem_of_getElem? (i := 563) (by decide +kernel), List.mem_of_getElem? (i := 564) (by decide +kernel)⟩
theorem lw_p13 : lw_okq (⟨"PolicyRoutes$Rests", "search", "(LPolicyRoutes$World;LPolicyRoutes$Choice;I)V"⟩, 4) := ⟨⟨by decide +kernel, by decide +kernel⟩, List.mem_of_getElem? (i := 156) (by decide +kernel), List.mem_of_getElem? (i := 575) (by decide +kernel), List.mem_of_getElem? (i := 576) (by decide +kernel)⟩
theorem lw_p14 : lw_okq (⟨"PolicyRoutes$Rests", "keepIfStable", "(LPolicyRoutes$World;LPolicyRoutes$Choice;)V"⟩, 4) := ⟨⟨by decide +kernel, by decide +kernel⟩, List.mem_of_getElem? (i := 156) (by decide +kernel), List.mem_of_getElem? (i := 580) (by decide +kernel), List.mem_of_getElem? (i := 581) (by decide +kernel)⟩
theorem lw_p15 : lw_okq (⟨"PolicyRoutes$Choice", "walk", "(I[I)V"⟩, 5) := ⟨⟨by decide +kernel, by decide +kernel⟩, List.mem_of_getElem? (i := 56) (by decide +kernel), List.mem_of_getElem? (i := 588) (by decide +kernel), List.mem_of_getElem? (i := 589) (by decide +kernel)⟩
def lw_privs_1 : List (MethodName × Nat) := [(⟨"PolicyRoutes$World", "setCut", "(III)V"⟩, 1), (⟨"PolicyRoutes$Ways", "isBasis", "(LPolicyRoutes$World;)Z"⟩, 11), (⟨"PolicyRoutes$Ways", "add", "(III)V"⟩, 11), (⟨"PolicyRoutes$Ways", "insert", "(II)V"⟩, 11), (⟨"PolicyRoutes$Ways", "extend", "(LPolicyRoutes$World;I)V"⟩, 11), (⟨"PolicyRoutes$Ways", "notePlaces", "()V"⟩, 11), (⟨"PolicyRoutes$Choice", "put", "(II)V"⟩, 5), (⟨"PolicyRoutes$Choice", "putNone", "(I)V"⟩, 5), (⟨"PolicyRoutes$Choice", "together", "(II)I"⟩, 5), (⟨"PolicyRoutes", "reasonAgainst", "(II)I"⟩, 13), (⟨"PolicyRoutes", "reasonOf", "(IIII)I"⟩, 13), (⟨"PolicyRoutes", "discontent", "()I"⟩, 13), (⟨"PolicyRoutes", "stableOnes", "()I"⟩, 13), (⟨"PolicyRoutes$Rests", "search", "(LPolicyRoutes$World;LPolicyRoutes$Choice;I)V"⟩, 4), (⟨"PolicyRoutes$Rests", "keepIfStable", "(LPolicyRoutes$World;LPolicyRoutes$Choice;)V"⟩, 4), (⟨"PolicyRoutes$Choice", "walk", "(I[I)V"⟩, 5)]
theorem lw_r1 : ∀ q ∈ lw_privs_1, lw_okq q := List.forall_mem_cons.mpr ⟨lw_p0, List.forall_mem_cons.mpr ⟨lw_p1, List.forall_mem_cons.mpr ⟨lw_p2, List.forall_mem_cons.mpr ⟨lw_p3, List.forall_mem_cons.mpr ⟨lw_p4, List.forall_mem_cons.mpr ⟨lw_p5, List.forall_mem_cons.mpr ⟨lw_p6, List.forall_mem_cons.mpr ⟨lw_p7, List.forall_mem_cons.mpr ⟨lw_p8, List.forall_mem_cons.mpr ⟨lw_p9, List.forall_mem_cons.mpr ⟨lw_p10, List.forall_mem_cons.mpr ⟨lw_p11, List.forall_mem_cons.mpr ⟨lw_p12, List.forall_mem_cons.mpr ⟨lw_p13, List.forall_mem_cons.mpr ⟨lw_p14, List.forall_mem_cons.mpr ⟨lw_p15, fun _ h => absurd h List.not_mem_nil⟩⟩⟩⟩⟩⟩⟩⟩⟩⟩⟩⟩⟩⟩⟩⟩
theorem lw_p16 : lw_okq (⟨"PolicyRoutes$Rests", "mayLead", "(I)Z"⟩, 4) := ⟨⟨by decide +kernel, by decide +kernel⟩, List.mem_of_getElem? (i := 156) (by decide +kernel), List.mem_of_getElem? (i := 599) (by decide +kernel), List.mem_of_getElem? (i := 600) (by decide +kernel)⟩
theorem lw_p17 : lw_okq (⟨"PolicyRoutes$Tape", "accepts", "(II)Z"⟩, 9) := ⟨⟨by decide +kernel, by decide +kernel⟩, List.mem_of_getElem? (i := 193) (by decide +kernel), List.mem_of_getElem? (i := 628) (by decide +kernel), List.mem_of_getElem? (i := 629) (by decide +kernel)⟩
theorem lw_p18 : lw_okq (⟨"PolicyRoutes$Tape", "acceptsFirst", "(II)Z"⟩, 9) := ⟨⟨by decide +kernel, by decide +kernel⟩, List.mem_of_getElem? (i := 193) (by decide +kernel), List.mem_of_getElem? (i := 632) (by decide +kernel), List.mem_of_getElem? (i := 633) (by decide +kernel)⟩
theorem lw_p19 : lw_okq (⟨"PolicyRoutes$Tape", "acceptsSign", "(I)Z"⟩, 9) := ⟨⟨by decide +kernel, by decide +kernel⟩, List.mem_of_getElem? (i := 193) (by decide +kernel), List.mem_of_getElem? (i := 636) (by decide +kernel), List.mem_of_getElem? (i := 637) (by decide +kernel)⟩
theorem lw_p20 : lw_okq (⟨"PolicyRoutes$Tape", "acceptsSecond", "(II)Z"⟩, 9) := ⟨⟨by decide +kernel, by decide +kernel⟩, List.mem_of_getElem? (i := 193) (by decide +kernel), List.mem_of_getElem? (i := 640) (by decide +kernel), List.mem_of_getElem? (i := 641) (by decide +kernel)⟩
theorem lw_p21 : lw_okq (⟨"PolicyRoutes$Tape", "acceptsBehind", "(I)Z"⟩, 9) := ⟨⟨by decide +kernel, by decide +kernel⟩, List.mem_of_getElem? (i := 193) (by decide +kernel), List.mem_of_getElem? (i := 644) (by decide +kernel), List.mem_of_getElem? (i := 645) (by decide +kernel)⟩
theorem lw_p22 : lw_okq (⟨"PolicyRoutes", "turnAll", "()I"⟩, 13) := ⟨⟨by decide +kernel, by decide +kernel⟩, List.mem_of_getElem? (i := 19) (by decide +kernel), List.mem_of_getElem? (i := 672) (by decide +kernel), List.mem_of_getElem? (i := 673) (by decide +kernel)⟩
theorem lw_p23 : lw_okq (⟨"PolicyRoutes", "chooseAnew", "(I)I"⟩, 13) := ⟨⟨by decide +kernel, by decide +kernel⟩, List.mem_of_getElem? (i := 19) (by decide +kernel), List.mem_of_getElem? (i := 689) (by decide +kernel), List.mem_of_getElem? (i := 690) (by decide +kernel)⟩
theorem lw_p24 : lw_okq (⟨"PolicyRoutes$Foresight", "note", "(LPolicyRoutes$Choice;I)V"⟩, 3) := ⟨⟨by decide +kernel, by decide +kernel⟩, List.mem_of_getElem? (i := 175) (by decide +kernel), List.mem_of_getElem? (i := 717) (by decide +kernel), List.mem_of_getElem? (i := 718) (by decide +kernel)⟩
theorem lw_p25 : lw_okq (⟨"PolicyRoutes$Foresight", "earlier", "(I)I"⟩, 3) := ⟨⟨by decide +kernel, by decide +kernel⟩, List.mem_of_getElem? (i := 175) (by decide +kernel), List.mem_of_getElem? (i := 723) (by decide +kernel), List.mem_of_getElem? (i := 724) (by decide +kernel)⟩
theorem lw_p26 : lw_okq (⟨"PolicyRoutes$Foresight", "areAlike", "(II)Z"⟩, 3) := ⟨⟨by decide +kernel, by decide +kernel⟩, List.mem_of_getElem? (i := 175) (by decide +kernel), List.mem_of_getElem? (i := 727) (by decide +kernel), List.mem_of_getElem? (i := 728) (by decide +kernel)⟩
theorem lw_p27 : lw_okq (⟨"PolicyRoutes$Rings", "noteLeading", "(LPolicyRoutes$World;LPolicyRoutes$Ways;I)V"⟩, 9) := ⟨⟨by decide +kernel, by decide +kernel⟩, List.mem_of_getElem? (i := 118) (by decide +kernel), List.mem_of_getElem? (i := 754) (by decide +kernel), List.mem_of_getElem? (i := 755) (by decide +kernel)⟩
theorem lw_p28 : lw_okq (⟨"PolicyRoutes$Rings", "mark", "(II)V"⟩, 9) := ⟨⟨by decide +kernel, by decide +kernel⟩, List.mem_of_getElem? (i := 118) (by decide +kernel), List.mem_of_getElem? (i := 766) (by decide +kernel), List.mem_of_getElem? (i := 767) (by decide +kernel)⟩
theorem lw_p29 : lw_okq (⟨"PolicyRoutes$Rings", "thinOut", "()Z"⟩, 9) := ⟨⟨by decide +kernel, by decide +kernel⟩, List.mem_of_getElem? (i := 118) (by decide +kernel), List.mem_of_getElem? (i := 785) (by decide +kernel), List.mem_of_getElem? (i := 786) (by decide +kernel)⟩
theorem lw_p30 : lw_okq (⟨"PolicyRoutes$Rings", "join", "(I)Z"⟩, 9) := ⟨⟨by decide +kernel, by decide +kernel⟩, List.mem_of_getElem? (i := 118) (by decide +kernel), List.mem_of_getElem? (i := 792) (by decide +kernel), List.mem_of_getElem? (i := 793) (by decide +kernel)⟩
theorem lw_p31 : lw_okq (⟨"PolicyRoutes$Rings", "measure", "(LPolicyRoutes$Ways;)V"⟩, 9) := ⟨⟨by decide +kernel, by decide +kernel⟩, List.mem_of_getElem? (i := 118) (by decide +kernel), List.mem_of_getElem? (i := 797) (by decide +kernel), List.mem_of_getElem? (i := 798) (by decide +kernel)⟩
def lw_privs_2 : List (MethodName × Nat) := [(⟨"PolicyRoutes$Rests", "mayLead", "(I)Z"⟩, 4), (⟨"PolicyRoutes$Tape", "accepts", "(II)Z"⟩, 9), (⟨"PolicyRoutes$Tape", "acceptsFirst", "(II)Z"⟩, 9), (⟨"PolicyRoutes$Tape", "acceptsSign", "(I)Z"⟩, 9), (⟨"PolicyRoutes$Tape", "acceptsSecond", "(II)Z"⟩, 9), (⟨"PolicyRoutes$Tape", "acceptsBehind", "(I)Z"⟩, 9), (⟨"PolicyRoutes", "turnAll", "()I"⟩, 13), (⟨"PolicyRoutes", "chooseAnew", "(I)I"⟩, 13), (⟨"PolicyRoutes$Foresight", "note", "(LPolicyRoutes$Choice;I)V"⟩, 3), (⟨"PolicyRoutes$Foresight", "earlier", "(I)I"⟩, 3), (⟨"PolicyRoutes$Foresight", "areAlike", "(II)Z"⟩, 3), (⟨"PolicyRoutes$Rings", "noteLeading", "(LPolicyRoutes$World;LPolicyRoutes$Ways;I)V"⟩, 9), (⟨"PolicyRoutes$Rings", "mark", "(II)V"⟩, 9), (⟨"PolicyRoutes$Rings", "thinOut", "()Z"⟩, 9), (⟨"PolicyRoutes$Rings", "join", "(I)Z"⟩, 9), (⟨"PolicyRoutes$Rings", "measure", "(LPolicyRoutes$Ways;)V"⟩, 9)]
theorem lw_r2 : ∀ q ∈ lw_privs_2, lw_okq q := List.forall_mem_cons.mpr ⟨lw_p16, List.forall_mem_cons.mpr ⟨lw_p17, List.forall_mem_cons.mpr ⟨lw_p18, List.forall_mem_cons.mpr ⟨lw_p19, List.forall_mem_cons.mpr ⟨lw_p20, List.forall_mem_cons.mpr ⟨lw_p21, List.forall_mem_cons.mpr ⟨lw_p22, List.forall_mem_cons.mpr ⟨lw_p23, List.forall_mem_cons.mpr ⟨lw_p24, List.forall_mem_cons.mpr ⟨lw_p25, List.forall_mem_cons.mpr ⟨lw_p26, List.forall_mem_cons.mpr ⟨lw_p27, List.forall_mem_cons.mpr ⟨lw_p28, List.forall_mem_cons.mpr ⟨lw_p29, List.forall_mem_cons.mpr ⟨lw_p30, List.forall_mem_cons.mpr ⟨lw_p31, fun _ h => absurd h List.not_mem_nil⟩⟩⟩⟩⟩⟩⟩⟩⟩⟩⟩⟩⟩⟩⟩⟩
theorem lw_p32 : lw_okq (⟨"PolicyRoutes$Rings", "lengthThrough", "(I)I"⟩, 9) := ⟨⟨by decide +kernel, by decide +kernel⟩, List.mem_of_getElem? (i := 118) (by decide +kernel), List.mem_of_getElem? (i := 801) (by decide +kernel), List.mem_of_getElem? (i := 802) (by decide +kernel)⟩
theorem lw_p33 : lw_okq (⟨"PolicyRoutes$Rings", "spread", "()Z"⟩, 9) := ⟨⟨by decide +kernel, by decide +kernel⟩, List.mem_of_getElem? (i := 118) (by decide +kernel), List.mem_of_getElem? (i := 805) (by decide +kernel), List.mem_of_getElem? (i := 806) (by decide +kernel)⟩
theorem lw_p34 : lw_okq (⟨"PolicyRoutes", "driftOnce", "()V"⟩, 13) := ⟨⟨by decide +kernel, by decide +kernel⟩, List.mem_of_getElem? (i := 19) (by decide +kernel), List.mem_of_getElem? (i := 848) (by decide +kernel), List.mem_of_getElem? (i := 849) (by decide +kernel)⟩
theorem lw_p35 : lw_okq (⟨"PolicyRoutes", "driftPair", "(IIII)V"⟩, 13) := ⟨⟨by decide +kernel, by decide +kernel⟩, List.mem_of_getElem? (i := 19) (by decide +kernel), List.mem_of_getElem? (i := 864) (by decide +kernel), List.mem_of_getElem? (i := 865) (by decide +kernel)⟩
theorem lw_p36 : lw_okq (⟨"PolicyRoutesModel", "areTwo", "(II)Z"⟩, 28) := ⟨⟨by decide +kernel, by decide +kernel⟩, List.mem_of_getElem? (i := 983) (by decide +kernel), List.mem_of_getElem? (i := 1078) (by decide +kernel), List.mem_of_getElem? (i := 1079) (by decide +kernel)⟩
theorem lw_p37 : lw_okq (⟨"PolicyRoutesModel", "isDomain", "(I)Z"⟩, 28) := ⟨⟨by decide +kernel, by decide +kernel⟩, List.mem_of_getElem? (i := 983) (by decide +kernel), List.mem_of_getElem? (i := 1082) (by decide +kernel), List.mem_of_getElem? (i := 1083) (by decide +kernel)⟩
theorem lw_p38 : lw_okq (⟨"PolicyRoutesModel", "notes", "()V"⟩, 28) := ⟨⟨by decide +kernel, by decide +kernel⟩, List.mem_of_getElem? (i := 983) (by decide +kernel), List.mem_of_getElem? (i := 1093) (by decide +kernel), List.mem_of_getElem? (i := 1094) (by decide +kernel)⟩
theorem lw_p39 : lw_okq (⟨"PolicyRoutesModel", "links", "(IIII)V"⟩, 28) := ⟨⟨by decide +kernel, by decide +kernel⟩, List.mem_of_getElem? (i := 983) (by decide +kernel), List.mem_of_getElem? (i := 1100) (by decide +kernel), List.mem_of_getElem? (i := 1101) (by decide +kernel)⟩
theorem lw_p40 : lw_okq (⟨"PolicyRoutesModel", "becomes", "(II)I"⟩, 28) := ⟨⟨by decide +kernel, by decide +kernel⟩, List.mem_of_getElem? (i := 983) (by decide +kernel), List.mem_of_getElem? (i := 1113) (by decide +kernel), List.mem_of_getElem? (i := 1114) (by decide +kernel)⟩
theorem lw_p41 : lw_okq (⟨"PolicyRoutesModel", "laysWays", "()V"⟩, 28) := ⟨⟨by decide +kernel, by decide +kernel⟩, List.mem_of_getElem? (i := 983) (by decide +kernel), List.mem_of_getElem? (i := 1142) (by decide +kernel), List.mem_of_getElem? (i := 1143) (by decide +kernel)⟩
theorem lw_p42 : lw_okq (⟨"PolicyRoutesModel", "takes", "(II)Z"⟩, 28) := ⟨⟨by decide +kernel, by decide +kernel⟩, List.mem_of_getElem? (i := 983) (by decide +kernel), List.mem_of_getElem? (i := 1146) (by decide +kernel), List.mem_of_getElem? (i := 1147) (by decide +kernel)⟩
theorem lw_p43 : lw_okq (⟨"PolicyRoutesModel", "areLinked", "(II)Z"⟩, 28) := ⟨⟨by decide +kernel, by decide +kernel⟩, List.mem_of_getElem? (i := 983) (by decide +kernel), List.mem_of_getElem? (i := 1159) (by decide +kernel), List.mem_of_getElem? (i := 1160) (by decide +kernel)⟩
theorem lw_p44 : lw_okq (⟨"PolicyRoutesModel", "lets", "(III)Z"⟩, 28) := ⟨⟨by decide +kernel, by decide +kernel⟩, List.mem_of_getElem? (i := 983) (by decide +kernel), List.mem_of_getElem? (i := 1166) (by decide +kernel), List.mem_of_getElem? (i := 1167) (by decide +kernel)⟩
theorem lw_p45 : lw_okq (⟨"PolicyRoutesModel", "isCustomer", "(II)Z"⟩, 28) := ⟨⟨by decide +kernel, by decide +kernel⟩, List.mem_of_getElem? (i := 983) (by decide +kernel), List.mem_of_getElem? (i := 1170) (by decide +kernel), List.mem_of_getElem? (i := 1171) (by decide +kernel)⟩
theorem lw_p46 : lw_okq (⟨"PolicyRoutesModel", "isBetter", "(III)Z"⟩, 28) := ⟨⟨by decide +kernel, by decide +kernel⟩, List.mem_of_getElem? (i := 983) (by decide +kernel), List.mem_of_getElem? (i := 1180) (by decide +kernel), List.mem_of_getElem? (i := 1181) (by decide +kernel)⟩
theorem lw_p47 : lw_okq (⟨"PolicyRoutesModel", "isRow", "(I)Z"⟩, 28) := ⟨⟨by decide +kernel, by decide +kernel⟩, List.mem_of_getElem? (i := 983) (by decide +kernel), List.mem_of_getElem? (i := 1188) (by decide +kernel), List.mem_of_getElem? (i := 1189) (by decide +kernel)⟩
def lw_privs_3 : List (MethodName × Nat) := [(⟨"PolicyRoutes$Rings", "lengthThrough", "(I)I"⟩, 9), (⟨"PolicyRoutes$Rings", "spread", "()Z"⟩, 9), (⟨"PolicyRoutes", "driftOnce", "()V"⟩, 13), (⟨"PolicyRoutes", "driftPair", "(IIII)V"⟩, 13), (⟨"PolicyRoutesModel", "areTwo", "(II)Z"⟩, 28), (⟨"PolicyRoutesModel", "isDomain", "(I)Z"⟩, 28), (⟨"PolicyRoutesModel", "notes", "()V"⟩, 28), (⟨"PolicyRoutesModel", "links", "(IIII)V"⟩, 28), (⟨"PolicyRoutesModel", "becomes", "(II)I"⟩, 28), (⟨"PolicyRoutesModel", "laysWays", "()V"⟩, 28), (⟨"PolicyRoutesModel", "takes", "(II)Z"⟩, 28), (⟨"PolicyRoutesModel", "areLinked", "(II)Z"⟩, 28), (⟨"PolicyRoutesModel", "lets", "(III)Z"⟩, 28), (⟨"PolicyRoutesModel", "isCustomer", "(II)Z"⟩, 28), (⟨"PolicyRoutesModel", "isBetter", "(III)Z"⟩, 28), (⟨"PolicyRoutesModel", "isRow", "(I)Z"⟩, 28)]
theorem lw_r3 : ∀ q ∈ lw_privs_3, lw_okq q := List.forall_mem_cons.mpr ⟨lw_p32, List.forall_mem_cons.mpr ⟨lw_p33, List.forall_mem_cons.mpr ⟨lw_p34, List.forall_mem_cons.mpr ⟨lw_p35, List.forall_mem_cons.mpr ⟨lw_p36, List.forall_mem_cons.mpr ⟨lw_p37, List.forall_mem_cons.mpr ⟨lw_p38, List.forall_mem_cons.mpr ⟨lw_p39, List.forall_mem_cons.mpr ⟨lw_p40, List.forall_mem_cons.mpr ⟨lw_p41, List.forall_mem_cons.mpr ⟨lw_p42, List.forall_mem_cons.mpr ⟨lw_p43, List.forall_mem_cons.mpr ⟨lw_p44, List.forall_mem_cons.mpr ⟨lw_p45, List.forall_mem_cons.mpr ⟨lw_p46, List.forall_mem_cons.mpr ⟨lw_p47, fun _ h => absurd h List.not_mem_nil⟩⟩⟩⟩⟩⟩⟩⟩⟩⟩⟩⟩⟩⟩⟩⟩
theorem lw_p48 : lw_okq (⟨"PolicyRoutesModel", "whyAt", "(II)I"⟩, 28) := ⟨⟨by decide +kernel, by decide +kernel⟩, List.mem_of_getElem? (i := 983) (by decide +kernel), List.mem_of_getElem? (i := 1193) (by decide +kernel), List.mem_of_getElem? (i := 1194) (by decide +kernel)⟩
theorem lw_p49 : lw_okq (⟨"PolicyRoutesModel", "permittedTo", "(I)I"⟩, 28) := ⟨⟨by decide +kernel, by decide +kernel⟩, List.mem_of_getElem? (i := 983) (by decide +kernel), List.mem_of_getElem? (i := 1201) (by decide +kernel), List.mem_of_getElem? (i := 1202) (by decide +kernel)⟩
theorem lw_p50 : lw_okq (⟨"PolicyRoutesModel", "thinks", "()V"⟩, 28) := ⟨⟨by decide +kernel, by decide +kernel⟩, List.mem_of_getElem? (i := 983) (by decide +kernel), List.mem_of_getElem? (i := 1205) (by decide +kernel), List.mem_of_getElem? (i := 1206) (by decide +kernel)⟩
theorem lw_p51 : lw_okq (⟨"PolicyRoutesModel", "wouldChoose", "(I)I"⟩, 28) := ⟨⟨by decide +kernel, by decide +kernel⟩, List.mem_of_getElem? (i := 983) (by decide +kernel), List.mem_of_getElem? (i := 1209) (by decide +kernel), List.mem_of_getElem? (i := 1210) (by decide +kernel)⟩
theorem lw_p52 : lw_okq (⟨"PolicyRoutesModel", "linkMany", "(I)I"⟩, 28) := ⟨⟨by decide +kernel, by decide +kernel⟩, List.mem_of_getElem? (i := 983) (by decide +kernel), List.mem_of_getElem? (i := 1217) (by decide +kernel), List.mem_of_getElem? (i := 1218) (by decide +kernel)⟩
theorem lw_p53 : lw_okq (⟨"PolicyRoutesModel", "chosenSet", "()I"⟩, 28) := ⟨⟨by decide +kernel, by decide +kernel⟩, List.mem_of_getElem? (i := 983) (by decide +kernel), List.mem_of_getElem? (i := 1221) (by decide +kernel), List.mem_of_getElem? (i := 1222) (by decide +kernel)⟩
theorem lw_p54 : lw_okq (⟨"PolicyRoutesModel", "notContent", "()I"⟩, 28) := ⟨⟨by decide +kernel, by decide +kernel⟩, List.mem_of_getElem? (i := 983) (by decide +kernel), List.mem_of_getElem? (i := 1225) (by decide +kernel), List.mem_of_getElem? (i := 1226) (by decide +kernel)⟩
theorem lw_p55 : lw_okq (⟨"PolicyRoutesModel", "stableTo", "(I)I"⟩, 28) := ⟨⟨by decide +kernel, by decide +kernel⟩, List.mem_of_getElem? (i := 983) (by decide +kernel), List.mem_of_getElem? (i := 1229) (by decide +kernel), List.mem_of_getElem? (i := 1230) (by decide +kernel)⟩
theorem lw_p56 : lw_okq (⟨"PolicyRoutesModel", "nextOne", "(II)I"⟩, 28) := ⟨⟨by decide +kernel, by decide +kernel⟩, List.mem_of_getElem? (i := 983) (by decide +kernel), List.mem_of_getElem? (i := 1233) (by decide +kernel), List.mem_of_getElem? (i := 1234) (by decide +kernel)⟩
theorem lw_p57 : lw_okq (⟨"PolicyRoutesModel", "thinksOfNexts", "()Z"⟩, 28) := ⟨⟨by decide +kernel, by decide +kernel⟩, List.mem_of_getElem? (i := 983) (by decide +kernel), List.mem_of_getElem? (i := 1237) (by decide +kernel), List.mem_of_getElem? (i := 1238) (by decide +kernel)⟩
theorem lw_p58 : lw_okq (⟨"PolicyRoutesModel", "wayBy", "(I)I"⟩, 28) := ⟨⟨by decide +kernel, by decide +kernel⟩, List.mem_of_getElem? (i := 983) (by decide +kernel), List.mem_of_getElem? (i := 1241) (by decide +kernel), List.mem_of_getElem? (i := 1242) (by decide +kernel)⟩
theorem lw_p59 : lw_okq (⟨"PolicyRoutesModel", "goesOn", "()Z"⟩, 28) := ⟨⟨by decide +kernel, by decide +kernel⟩, List.mem_of_getElem? (i := 983) (by decide +kernel), List.mem_of_getElem? (i := 1245) (by decide +kernel), List.mem_of_getElem? (i := 1246) (by decide +kernel)⟩
theorem lw_p60 : lw_okq (⟨"PolicyRoutesModel", "turnsOnce", "()I"⟩, 28) := ⟨⟨by decide +kernel, by decide +kernel⟩, List.mem_of_getElem? (i := 983) (by decide +kernel), List.mem_of_getElem? (i := 1253) (by decide +kernel), List.mem_of_getElem? (i := 1254) (by decide +kernel)⟩
theorem lw_p61 : lw_okq (⟨"PolicyRoutesModel", "turnsInMind", "()I"⟩, 28) := ⟨⟨by decide +kernel, by decide +kernel⟩, List.mem_of_getElem? (i := 983) (by decide +kernel), List.mem_of_getElem? (i := 1257) (by decide +kernel), List.mem_of_getElem? (i := 1258) (by decide +kernel)⟩
theorem lw_p62 : lw_okq (⟨"PolicyRoutesModel", "choosesAnew", "(I)I"⟩, 28) := ⟨⟨by decide +kernel, by decide +kernel⟩, List.mem_of_getElem? (i := 983) (by decide +kernel), List.mem_of_getElem? (i := 1265) (by decide +kernel), List.mem_of_getElem? (i := 1266) (by decide +kernel)⟩
theorem lw_p63 : lw_okq (⟨"PolicyRoutesModel", "isAsBehind", "(I)Z"⟩, 28) := ⟨⟨by decide +kernel, by decide +kernel⟩, List.mem_of_getElem? (i := 983) (by decide +kernel), List.mem_of_getElem? (i := 1281) (by decide +kernel), List.mem_of_getElem? (i := 1282) (by decide +kernel)⟩
def lw_privs_4 : List (MethodName × Nat) := [(⟨"PolicyRoutesModel", "whyAt", "(II)I"⟩, 28), (⟨"PolicyRoutesModel", "permittedTo", "(I)I"⟩, 28), (⟨"PolicyRoutesModel", "thinks", "()V"⟩, 28), (⟨"PolicyRoutesModel", "wouldChoose", "(I)I"⟩, 28), (⟨"PolicyRoutesModel", "linkMany", "(I)I"⟩, 28), (⟨"PolicyRoutesModel", "chosenSet", "()I"⟩, 28), (⟨"PolicyRoutesModel", "notContent", "()I"⟩, 28), (⟨"PolicyRoutesModel", "stableTo", "(I)I"⟩, 28), (⟨"PolicyRoutesModel", "nextOne", "(II)I"⟩, 28), (⟨"PolicyRoutesModel", "thinksOfNexts", "()Z"⟩, 28), (⟨"PolicyRoutesModel", "wayBy", "(I)I"⟩, 28), (⟨"PolicyRoutesModel", "goesOn", "()Z"⟩, 28), (⟨"PolicyRoutesModel", "turnsOnce", "()I"⟩, 28), (⟨"PolicyRoutesModel", "turnsInMind", "()I"⟩, 28), (⟨"PolicyRoutesModel", "choosesAnew", "(I)I"⟩, 28), (⟨"PolicyRoutesModel", "isAsBehind", "(I)Z"⟩, 28)]
theorem lw_r4 : ∀ q ∈ lw_privs_4, lw_okq q := List.forall_mem_cons.mpr ⟨lw_p48, List.forall_mem_cons.mpr ⟨lw_p49, List.forall_mem_cons.mpr ⟨lw_p50, List.forall_mem_cons.mpr ⟨lw_p51, List.forall_mem_cons.mpr ⟨lw_p52, List.forall_mem_cons.mpr ⟨lw_p53, List.forall_mem_cons.mpr ⟨lw_p54, List.forall_mem_cons.mpr ⟨lw_p55, List.forall_mem_cons.mpr ⟨lw_p56, List.forall_mem_cons.mpr ⟨lw_p57, List.forall_mem_cons.mpr ⟨lw_p58, List.forall_mem_cons.mpr ⟨lw_p59, List.forall_mem_cons.mpr ⟨lw_p60, List.forall_mem_cons.mpr ⟨lw_p61, List.forall_mem_cons.mpr ⟨lw_p62, List.forall_mem_cons.mpr ⟨lw_p63, fun _ h => absurd h List.not_mem_nil⟩⟩⟩⟩⟩⟩⟩⟩⟩⟩⟩⟩⟩⟩⟩⟩
theorem lw_p64 : lw_okq (⟨"PolicyRoutesModel", "laysLeads", "()V"⟩, 28) := ⟨⟨by decide +kernel, by decide +kernel⟩, List.mem_of_getElem? (i := 983) (by decide +kernel), List.mem_of_getElem? (i := 1293) (by decide +kernel), List.mem_of_getElem? (i := 1294) (by decide +kernel)⟩
theorem lw_p65 : lw_okq (⟨"PolicyRoutesModel", "leadsTo", "(II)Z"⟩, 28) := ⟨⟨by decide +kernel, by decide +kernel⟩, List.mem_of_getElem? (i := 983) (by decide +kernel), List.mem_of_getElem? (i := 1297) (by decide +kernel), List.mem_of_getElem? (i := 1298) (by decide +kernel)⟩
theorem lw_p66 : lw_okq (⟨"PolicyRoutesModel", "roundOf", "(I)I"⟩, 28) := ⟨⟨by decide +kernel, by decide +kernel⟩, List.mem_of_getElem? (i := 983) (by decide +kernel), List.mem_of_getElem? (i := 1304) (by decide +kernel), List.mem_of_getElem? (i := 1305) (by decide +kernel)⟩
theorem lw_p67 : lw_okq (⟨"PolicyRoutesModel", "movesOn", "()Z"⟩, 28) := ⟨⟨by decide +kernel, by decide +kernel⟩, List.mem_of_getElem? (i := 983) (by decide +kernel), List.mem_of_getElem? (i := 1308) (by decide +kernel), List.mem_of_getElem? (i := 1309) (by decide +kernel)⟩
theorem lw_p68 : lw_okq (⟨"PolicyRoutesModel", "laysLinks", "()I"⟩, 28) := ⟨⟨by decide +kernel, by decide +kernel⟩, List.mem_of_getElem? (i := 983) (by decide +kernel), List.mem_of_getElem? (i := 1321) (by decide +kernel), List.mem_of_getElem? (i := 1322) (by decide +kernel)⟩
theorem lw_p69 : lw_okq (⟨"PolicyRoutesModel", "above", "(III)J"⟩, 28) := ⟨⟨by decide +kernel, by decide +kernel⟩, List.mem_of_getElem? (i := 983) (by decide +kernel), List.mem_of_getElem? (i := 1325) (by decide +kernel), List.mem_of_getElem? (i := 1326) (by decide +kernel)⟩
theorem lw_p70 : lw_okq (⟨"PolicyRoutesModel", "maskOf", "(I)I"⟩, 28) := ⟨⟨by decide +kernel, by decide +kernel⟩, List.mem_of_getElem? (i := 983) (by decide +kernel), List.mem_of_getElem? (i := 1329) (by decide +kernel), List.mem_of_getElem? (i := 1330) (by decide +kernel)⟩
theorem lw_p71 : lw_okq (⟨"PolicyRoutesModel", "readsAll", "()V"⟩, 28) := ⟨⟨by decide +kernel, by decide +kernel⟩, List.mem_of_getElem? (i := 983) (by decide +kernel), List.mem_of_getElem? (i := 1353) (by decide +kernel), List.mem_of_getElem? (i := 1354) (by decide +kernel)⟩
theorem lw_p72 : lw_okq (⟨"PolicyRoutesModel", "looks", "()I"⟩, 28) := ⟨⟨by decide +kernel, by decide +kernel⟩, List.mem_of_getElem? (i := 983) (by decide +kernel), List.mem_of_getElem? (i := 1357) (by decide +kernel), List.mem_of_getElem? (i := 1358) (by decide +kernel)⟩
theorem lw_p73 : lw_okq (⟨"PolicyRoutesModel", "readsLink", "()V"⟩, 28) := ⟨⟨by decide +kernel, by decide +kernel⟩, List.mem_of_getElem? (i := 983) (by decide +kernel), List.mem_of_getElem? (i := 1361) (by decide +kernel), List.mem_of_getElem? (i := 1362) (by decide +kernel)⟩
theorem lw_p74 : lw_okq (⟨"PolicyRoutesModel", "reads", "(Z)V"⟩, 28) := ⟨⟨by decide +kernel, by decide +kernel⟩, List.mem_of_getElem? (i := 983) (by decide +kernel), List.mem_of_getElem? (i := 1365) (by decide +kernel), List.mem_of_getElem? (i := 1366) (by decide +kernel)⟩
theorem lw_p75 : lw_okq (⟨"PolicyRoutesModel", "drifts", "(I)V"⟩, 28) := ⟨⟨by decide +kernel, by decide +kernel⟩, List.mem_of_getElem? (i := 983) (by decide +kernel), List.mem_of_getElem? (i := 1378) (by decide +kernel), List.mem_of_getElem? (i := 1379) (by decide +kernel)⟩
theorem lw_p76 : lw_okq (⟨"PolicyRoutesModel", "found", "(IIII)I"⟩, 28) := ⟨⟨by decide +kernel, by decide +kernel⟩, List.mem_of_getElem? (i := 983) (by decide +kernel), List.mem_of_getElem? (i := 1405) (by decide +kernel), List.mem_of_getElem? (i := 1406) (by decide +kernel)⟩
def lw_privs_5 : List (MethodName × Nat) := [(⟨"PolicyRoutesModel", "laysLeads", "()V"⟩, 28), (⟨"PolicyRoutesModel", "leadsTo", "(II)Z"⟩, 28), (⟨"PolicyRoutesModel", "roundOf", "(I)I"⟩, 28), (⟨"PolicyRoutesModel", "movesOn", "()Z"⟩, 28), (⟨"PolicyRoutesModel", "laysLinks", "()I"⟩, 28), (⟨"PolicyRoutesModel", "above", "(III)J"⟩, 28), (⟨"PolicyRoutesModel", "maskOf", "(I)I"⟩, 28), (⟨"PolicyRoutesModel", "readsAll", "()V"⟩, 28), (⟨"PolicyRoutesModel", "looks", "()I"⟩, 28), (⟨"PolicyRoutesModel", "readsLink", "()V"⟩, 28), (⟨"PolicyRoutesModel", "reads", "(Z)V"⟩, 28), (⟨"PolicyRoutesModel", "drifts", "(I)V"⟩, 28), (⟨"PolicyRoutesModel", "found", "(IIII)I"⟩, 28)]
theorem lw_r5 : ∀ q ∈ lw_privs_5, lw_okq q := List.forall_mem_cons.mpr ⟨lw_p64, List.forall_mem_cons.mpr ⟨lw_p65, List.forall_mem_cons.mpr ⟨lw_p66, List.forall_mem_cons.mpr ⟨lw_p67, List.forall_mem_cons.mpr ⟨lw_p68, List.forall_mem_cons.mpr ⟨lw_p69, List.forall_mem_cons.mpr ⟨lw_p70, List.forall_mem_cons.mpr ⟨lw_p71, List.forall_mem_cons.mpr ⟨lw_p72, List.forall_mem_cons.mpr ⟨lw_p73, List.forall_mem_cons.mpr ⟨lw_p74, List.forall_mem_cons.mpr ⟨lw_p75, List.forall_mem_cons.mpr ⟨lw_p76, fun _ h => absurd h List.not_mem_nil⟩⟩⟩⟩⟩⟩⟩⟩⟩⟩⟩⟩⟩
def lw_privs : List (MethodName × Nat) := lw_privs_1 ++ (lw_privs_2 ++ (lw_privs_3 ++ (lw_privs_4 ++ (lw_privs_5))))
def lw_tbl : List Cond := k2_sels lw_privs ++ tables_1
theorem lw_privs_ok : ∀ q ∈ lw_privs, lw_okq q := by
  show ∀ q ∈ lw_privs_1 ++ (lw_privs_2 ++ (lw_privs_3 ++ (lw_privs_4 ++ (lw_privs_5)))), lw_okq q
  exact List.forall_mem_append.mpr ⟨lw_r1, List.forall_mem_append.mpr ⟨lw_r2, List.forall_mem_append.mpr ⟨lw_r3, List.forall_mem_append.mpr ⟨lw_r4, lw_r5⟩⟩⟩⟩
end
section
def RX0 : String := "PolicyRoutes$Choice"
def TX0 : u_T := fun k => match k with
  | 0 => ("PolicyRoutes$Choice", "way", "[I", true)
  | 1 => ("PolicyRoutes$Choice", "members", "[I", true)
  | 2 => ("PolicyRoutes$Choice", "second", "[I", true)
  | 3 => ("PolicyRoutes$Choice", "length", "[I", true)
  | _ => ("PolicyRoutes$Choice", "coming", "[I", true)
def tyX0 : Nat → FieldType := fun k => match k with
  | 0 => .array .int
  | 1 => .array .int
  | 2 => .array .int
  | 3 => .array .int
  | _ => .array .int
abbrev wsX00 : List Cond := u_ws RX0 TX0 5
theorem nmX0 : ∀ a, a < 5 → ∀ b, b < 5 → a ≠ b → (TX0 a).2.1 ≠ (TX0 b).2.1 := by decide +kernel
theorem tyX0_ok : ∀ k, k < 5 → parseFieldDescriptor (TX0 k).2.2.1 = some (tyX0 k) := by decide +kernel
abbrev cX0_init : ByteArray := prog_2_method_1_code
def yX0_init : MethodName := ⟨RX0, "<init>", "()V"⟩
abbrev cX0_load : ByteArray := prog_2_method_2_code
def yX0_load : MethodName := ⟨RX0, "load", "(LPolicyRoutes$World;)V"⟩
abbrev cX0_store : ByteArray := prog_2_method_3_code
def yX0_store : MethodName := ⟨RX0, "store", "(LPolicyRoutes$World;)V"⟩
abbrev cX0_follow : ByteArray := prog_2_method_4_code
def yX0_follow : MethodName := ⟨RX0, "follow", "([II)V"⟩
abbrev cX0_walk : ByteArray := prog_2_method_5_code
def yX0_walk : MethodName := ⟨RX0, "walk", "(I[I)V"⟩
abbrev cX0_putNone : ByteArray := prog_2_method_6_code
def yX0_putNone : MethodName := ⟨RX0, "putNone", "(I)V"⟩
abbrev cX0_put : ByteArray := prog_2_method_7_code
def yX0_put : MethodName := ⟨RX0, "put", "(II)V"⟩
abbrev cX0_wayOf : ByteArray := prog_2_method_8_code
def yX0_wayOf : MethodName := ⟨RX0, "wayOf", "(I)I"⟩
abbrev cX0_secondOf : ByteArray := prog_2_method_9_code
def yX0_secondOf : MethodName := ⟨RX0, "secondOf", "(I)I"⟩
abbrev cX0_best : ByteArray := prog_2_method_10_code
def yX0_best : MethodName := ⟨RX0, "best", "(LPolicyRoutes$World;I)I"⟩
abbrev cX0_together : ByteArray := prog_2_method_11_code
def yX0_together : MethodName := ⟨RX0, "together", "(II)I"⟩
abbrev cX0_discontents : ByteArray := prog_2_method_12_code
def yX0_discontents : MethodName := ⟨RX0, "discontents", "(LPolicyRoutes$World;)I"⟩
abbrev cX0_advance : ByteArray := prog_2_method_13_code
def yX0_advance : MethodName := ⟨RX0, "advance", "(LPolicyRoutes$World;)I"⟩
def RX1 : String := "PolicyRoutes$Foresight"
def TX1 : u_T := fun k => match k with
  | 0 => ("PolicyRoutes$Foresight", "begin", "I", false)
  | 1 => ("PolicyRoutes$Foresight", "period", "I", false)
  | _ => ("PolicyRoutes$Foresight", "chosen", "[I", true)
def tyX1 : Nat → FieldType := fun k => match k with
  | 0 => .int
  | 1 => .int
  | _ => .array .int
abbrev wsX10 : List Cond := u_ws RX1 TX1 3
theorem nmX1 : ∀ a, a < 3 → ∀ b, b < 3 → a ≠ b → (TX1 a).2.1 ≠ (TX1 b).2.1 := by decide +kernel
theorem tyX1_ok : ∀ k, k < 3 → parseFieldDescriptor (TX1 k).2.2.1 = some (tyX1 k) := by decide +kernel
abbrev cX1_init : ByteArray := prog_3_method_1_code
def yX1_init : MethodName := ⟨RX1, "<init>", "()V"⟩
abbrev cX1_look : ByteArray := prog_3_method_2_code
def yX1_look : MethodName := ⟨RX1, "look", "(LPolicyRoutes$World;LPolicyRoutes$Choice;)V"⟩
abbrev cX1_note : ByteArray := prog_3_method_3_code
def yX1_note : MethodName := ⟨RX1, "note", "(LPolicyRoutes$Choice;I)V"⟩
abbrev cX1_earlier : ByteArray := prog_3_method_4_code
def yX1_earlier : MethodName := ⟨RX1, "earlier", "(I)I"⟩
abbrev cX1_areAlike : ByteArray := prog_3_method_5_code
def yX1_areAlike : MethodName := ⟨RX1, "areAlike", "(II)Z"⟩
def RX2 : String := "PolicyRoutes$Odds"
def TX2 : u_T := fun k => match k with
  | _ => ("", "", "", false)
def tyX2 : Nat → FieldType := fun k => match k with
  | _ => .int
abbrev wsX20 : List Cond := u_ws RX2 TX2 0
theorem nmX2 : ∀ a, a < 0 → ∀ b, b < 0 → a ≠ b → (TX2 a).2.1 ≠ (TX2 b).2.1 := by decide +kernel
theorem tyX2_ok : ∀ k, k < 0 → parseFieldDescriptor (TX2 k).2.2.1 = some (tyX2 k) := by decide +kernel
abbrev cX2_power : ByteArray := prog_4_method_2_code
def yX2_power : MethodName := ⟨RX2, "power", "(I)J"⟩
abbrev cX2_lasting : ByteArray := prog_4_method_3_code
def yX2_lasting : MethodName := ⟨RX2, "lasting", "(LPolicyRoutes$Ways;IIIII)J"⟩
abbrev cX2_commonDivisor : ByteArray := prog_4_method_4_code
def yX2_commonDivisor : MethodName := ⟨RX2, "commonDivisor", "(JJ)J"⟩
def RX3 : String := "PolicyRoutes$Past"
def TX3 : u_T := fun k => match k with
  | 0 => ("PolicyRoutes$Past", "shots", "[I", true)
  | 1 => ("PolicyRoutes$Past", "known", "I", false)
  | _ => ("PolicyRoutes$Past", "next", "I", false)
def tyX3 : Nat → FieldType := fun k => match k with
  | 0 => .array .int
  | 1 => .int
  | _ => .int
abbrev wsX30 : List Cond := u_ws RX3 TX3 3
theorem nmX3 : ∀ a, a < 3 → ∀ b, b < 3 → a ≠ b → (TX3 a).2.1 ≠ (TX3 b).2.1 := by decide +kernel
theorem tyX3_ok : ∀ k, k < 3 → parseFieldDescriptor (TX3 k).2.2.1 = some (tyX3 k) := by decide +kernel
abbrev cX3_init : ByteArray := prog_5_method_1_code
def yX3_init : MethodName := ⟨RX3, "<init>", "()V"⟩
abbrev cX3_known : ByteArray := prog_5_method_2_code
def yX3_known : MethodName := ⟨RX3, "known", "()I"⟩
abbrev cX3_keep : ByteArray := prog_5_method_3_code
def yX3_keep : MethodName := ⟨RX3, "keep", "(LPolicyRoutes$World;)V"⟩
abbrev cX3_bringBack : ByteArray := prog_5_method_4_code
def yX3_bringBack : MethodName := ⟨RX3, "bringBack", "(LPolicyRoutes$World;)V"⟩
abbrev cX3_become : ByteArray := prog_5_method_5_code
def yX3_become : MethodName := ⟨RX3, "become", "(LPolicyRoutes$Past;)V"⟩
def RX4 : String := "PolicyRoutes$Rests"
def TX4 : u_T := fun k => match k with
  | 0 => ("PolicyRoutes$Rests", "version", "I", false)
  | 1 => ("PolicyRoutes$Rests", "found", "I", false)
  | 2 => ("PolicyRoutes$Rests", "figures", "[I", true)
  | _ => ("PolicyRoutes$Rests", "nextOf", "[I", true)
def tyX4 : Nat → FieldType := fun k => match k with
  | 0 => .int
  | 1 => .int
  | 2 => .array .int
  | _ => .array .int
abbrev wsX40 : List Cond := u_ws RX4 TX4 4
theorem nmX4 : ∀ a, a < 4 → ∀ b, b < 4 → a ≠ b → (TX4 a).2.1 ≠ (TX4 b).2.1 := by decide +kernel
theorem tyX4_ok : ∀ k, k < 4 → parseFieldDescriptor (TX4 k).2.2.1 = some (tyX4 k) := by decide +kernel
abbrev cX4_init : ByteArray := prog_6_method_1_code
def yX4_init : MethodName := ⟨RX4, "<init>", "()V"⟩
abbrev cX4_found : ByteArray := prog_6_method_2_code
def yX4_found : MethodName := ⟨RX4, "found", "()I"⟩
abbrev cX4_freshen : ByteArray := prog_6_method_3_code
def yX4_freshen : MethodName := ⟨RX4, "freshen", "(LPolicyRoutes$World;LPolicyRoutes$Choice;I)V"⟩
abbrev cX4_search : ByteArray := prog_6_method_4_code
def yX4_search : MethodName := ⟨RX4, "search", "(LPolicyRoutes$World;LPolicyRoutes$Choice;I)V"⟩
abbrev cX4_mayLead : ByteArray := prog_6_method_5_code
def yX4_mayLead : MethodName := ⟨RX4, "mayLead", "(I)Z"⟩
abbrev cX4_keepIfStable : ByteArray := prog_6_method_6_code
def yX4_keepIfStable : MethodName := ⟨RX4, "keepIfStable", "(LPolicyRoutes$World;LPolicyRoutes$Choice;)V"⟩
abbrev cX4_nextsOf : ByteArray := prog_6_method_7_code
def yX4_nextsOf : MethodName := ⟨RX4, "nextsOf", "(II[I)V"⟩
def RX5 : String := "PolicyRoutes$Rings"
def TX5 : u_T := fun k => match k with
  | 0 => ("PolicyRoutes$Rings", "shortest", "I", false)
  | 1 => ("PolicyRoutes$Rings", "members", "I", false)
  | 2 => ("PolicyRoutes$Rings", "least", "I", false)
  | 3 => ("PolicyRoutes$Rings", "version", "I", false)
  | 4 => ("PolicyRoutes$Rings", "leads", "[J", true)
  | 5 => ("PolicyRoutes$Rings", "live", "[J", true)
  | 6 => ("PolicyRoutes$Rings", "reached", "[J", true)
  | 7 => ("PolicyRoutes$Rings", "edge", "[J", true)
  | _ => ("PolicyRoutes$Rings", "coming", "[J", true)
def tyX5 : Nat → FieldType := fun k => match k with
  | 0 => .int
  | 1 => .int
  | 2 => .int
  | 3 => .int
  | 4 => .array .long
  | 5 => .array .long
  | 6 => .array .long
  | 7 => .array .long
  | _ => .array .long
abbrev wsX50 : List Cond := u_ws RX5 TX5 9
theorem nmX5 : ∀ a, a < 9 → ∀ b, b < 9 → a ≠ b → (TX5 a).2.1 ≠ (TX5 b).2.1 := by decide +kernel
theorem tyX5_ok : ∀ k, k < 9 → parseFieldDescriptor (TX5 k).2.2.1 = some (tyX5 k) := by decide +kernel
abbrev cX5_init : ByteArray := prog_7_method_1_code
def yX5_init : MethodName := ⟨RX5, "<init>", "()V"⟩
abbrev cX5_freshen : ByteArray := prog_7_method_2_code
def yX5_freshen : MethodName := ⟨RX5, "freshen", "(LPolicyRoutes$World;LPolicyRoutes$Ways;)V"⟩
abbrev cX5_noteLeading : ByteArray := prog_7_method_3_code
def yX5_noteLeading : MethodName := ⟨RX5, "noteLeading", "(LPolicyRoutes$World;LPolicyRoutes$Ways;I)V"⟩
abbrev cX5_mark : ByteArray := prog_7_method_4_code
def yX5_mark : MethodName := ⟨RX5, "mark", "(II)V"⟩
abbrev cX5_thinOut : ByteArray := prog_7_method_5_code
def yX5_thinOut : MethodName := ⟨RX5, "thinOut", "()Z"⟩
abbrev cX5_has : ByteArray := prog_7_method_6_code
def yX5_has : MethodName := ⟨RX5, "has", "([JI)Z"⟩
abbrev cX5_join : ByteArray := prog_7_method_7_code
def yX5_join : MethodName := ⟨RX5, "join", "(I)Z"⟩
abbrev cX5_measure : ByteArray := prog_7_method_8_code
def yX5_measure : MethodName := ⟨RX5, "measure", "(LPolicyRoutes$Ways;)V"⟩
abbrev cX5_lengthThrough : ByteArray := prog_7_method_9_code
def yX5_lengthThrough : MethodName := ⟨RX5, "lengthThrough", "(I)I"⟩
abbrev cX5_spread : ByteArray := prog_7_method_10_code
def yX5_spread : MethodName := ⟨RX5, "spread", "()Z"⟩
def RX6 : String := "PolicyRoutes$Sheets"
def TX6 : u_T := fun k => match k with
  | 0 => ("PolicyRoutes$Sheets", "lanes", "[I", true)
  | 1 => ("PolicyRoutes$Sheets", "lengths", "[I", true)
  | _ => ("PolicyRoutes$Sheets", "items", "[J", true)
def tyX6 : Nat → FieldType := fun k => match k with
  | 0 => .array .int
  | 1 => .array .int
  | _ => .array .long
abbrev wsX60 : List Cond := u_ws RX6 TX6 3
theorem nmX6 : ∀ a, a < 3 → ∀ b, b < 3 → a ≠ b → (TX6 a).2.1 ≠ (TX6 b).2.1 := by decide +kernel
theorem tyX6_ok : ∀ k, k < 3 → parseFieldDescriptor (TX6 k).2.2.1 = some (tyX6 k) := by decide +kernel
abbrev cX6_init : ByteArray := prog_8_method_1_code
def yX6_init : MethodName := ⟨RX6, "<init>", "()V"⟩
abbrev cX6_isSheet : ByteArray := prog_8_method_2_code
def yX6_isSheet : MethodName := ⟨RX6, "isSheet", "(I)Z"⟩
abbrev cX6_isLane : ByteArray := prog_8_method_3_code
def yX6_isLane : MethodName := ⟨RX6, "isLane", "(I)Z"⟩
abbrev cX6_isMissing : ByteArray := prog_8_method_4_code
def yX6_isMissing : MethodName := ⟨RX6, "isMissing", "(I)Z"⟩
abbrev cX6_laneOf : ByteArray := prog_8_method_5_code
def yX6_laneOf : MethodName := ⟨RX6, "laneOf", "(I)I"⟩
abbrev cX6_lengthOf : ByteArray := prog_8_method_6_code
def yX6_lengthOf : MethodName := ⟨RX6, "lengthOf", "(I)I"⟩
abbrev cX6_holds : ByteArray := prog_8_method_7_code
def yX6_holds : MethodName := ⟨RX6, "holds", "(III)Z"⟩
abbrev cX6_refusal : ByteArray := prog_8_method_8_code
def yX6_refusal : MethodName := ⟨RX6, "refusal", "(IIII)I"⟩
abbrev cX6_renew : ByteArray := prog_8_method_9_code
def yX6_renew : MethodName := ⟨RX6, "renew", "(III)V"⟩
abbrev cX6_lose : ByteArray := prog_8_method_10_code
def yX6_lose : MethodName := ⟨RX6, "lose", "(I)V"⟩
abbrev cX6_itemAt : ByteArray := prog_8_method_11_code
def yX6_itemAt : MethodName := ⟨RX6, "itemAt", "(II)J"⟩
abbrev cX6_setItem : ByteArray := prog_8_method_12_code
def yX6_setItem : MethodName := ⟨RX6, "setItem", "(IIJ)V"⟩
abbrev cX6_narrowed : ByteArray := prog_8_method_13_code
def yX6_narrowed : MethodName := ⟨RX6, "narrowed", "(IJ)J"⟩
abbrev cX6_move : ByteArray := prog_8_method_14_code
def yX6_move : MethodName := ⟨RX6, "move", "(IIIII)V"⟩
def RX7 : String := "PolicyRoutes$Tape"
def TX7 : u_T := fun k => match k with
  | 0 => ("PolicyRoutes$Tape", "letters", "[I", true)
  | 1 => ("PolicyRoutes$Tape", "size", "I", false)
  | 2 => ("PolicyRoutes$Tape", "state", "I", false)
  | 3 => ("PolicyRoutes$Tape", "first", "I", false)
  | 4 => ("PolicyRoutes$Tape", "second", "I", false)
  | 5 => ("PolicyRoutes$Tape", "sort", "I", false)
  | 6 => ("PolicyRoutes$Tape", "links", "I", false)
  | 7 => ("PolicyRoutes$Tape", "sorts", "[I", true)
  | _ => ("PolicyRoutes$Tape", "cuts", "[Z", true)
def tyX7 : Nat → FieldType := fun k => match k with
  | 0 => .array .int
  | 1 => .int
  | 2 => .int
  | 3 => .int
  | 4 => .int
  | 5 => .int
  | 6 => .int
  | 7 => .array .int
  | _ => .array .boolean
abbrev wsX70 : List Cond := u_ws RX7 TX7 9
theorem nmX7 : ∀ a, a < 9 → ∀ b, b < 9 → a ≠ b → (TX7 a).2.1 ≠ (TX7 b).2.1 := by decide +kernel
theorem tyX7_ok : ∀ k, k < 9 → parseFieldDescriptor (TX7 k).2.2.1 = some (tyX7 k) := by decide +kernel
abbrev cX7_init : ByteArray := prog_9_method_1_code
def yX7_init : MethodName := ⟨RX7, "<init>", "()V"⟩
abbrev cX7_append : ByteArray := prog_9_method_2_code
def yX7_append : MethodName := ⟨RX7, "append", "(I)I"⟩
abbrev cX7_empty : ByteArray := prog_9_method_3_code
def yX7_empty : MethodName := ⟨RX7, "empty", "()V"⟩
abbrev cX7_parse : ByteArray := prog_9_method_4_code
def yX7_parse : MethodName := ⟨RX7, "parse", "(I)I"⟩
abbrev cX7_accepts : ByteArray := prog_9_method_5_code
def yX7_accepts : MethodName := ⟨RX7, "accepts", "(II)Z"⟩
abbrev cX7_acceptsFirst : ByteArray := prog_9_method_6_code
def yX7_acceptsFirst : MethodName := ⟨RX7, "acceptsFirst", "(II)Z"⟩
abbrev cX7_acceptsSign : ByteArray := prog_9_method_7_code
def yX7_acceptsSign : MethodName := ⟨RX7, "acceptsSign", "(I)Z"⟩
abbrev cX7_acceptsSecond : ByteArray := prog_9_method_8_code
def yX7_acceptsSecond : MethodName := ⟨RX7, "acceptsSecond", "(II)Z"⟩
abbrev cX7_acceptsBehind : ByteArray := prog_9_method_9_code
def yX7_acceptsBehind : MethodName := ⟨RX7, "acceptsBehind", "(I)Z"⟩
abbrev cX7_tellTo : ByteArray := prog_9_method_10_code
def yX7_tellTo : MethodName := ⟨RX7, "tellTo", "(LPolicyRoutes$World;)V"⟩
def RX8 : String := "PolicyRoutes$Ways"
def TX8 : u_T := fun k => match k with
  | 0 => ("PolicyRoutes$Ways", "basis", "[I", true)
  | 1 => ("PolicyRoutes$Ways", "version", "I", false)
  | 2 => ("PolicyRoutes$Ways", "all", "I", false)
  | 3 => ("PolicyRoutes$Ways", "owner", "[I", true)
  | 4 => ("PolicyRoutes$Ways", "tail", "[I", true)
  | 5 => ("PolicyRoutes$Ways", "rank", "[I", true)
  | 6 => ("PolicyRoutes$Ways", "members", "[I", true)
  | 7 => ("PolicyRoutes$Ways", "links", "[I", true)
  | 8 => ("PolicyRoutes$Ways", "place", "[I", true)
  | 9 => ("PolicyRoutes$Ways", "owned", "[I", true)
  | _ => ("PolicyRoutes$Ways", "ranked", "[I", true)
def tyX8 : Nat → FieldType := fun k => match k with
  | 0 => .array .int
  | 1 => .int
  | 2 => .int
  | 3 => .array .int
  | 4 => .array .int
  | 5 => .array .int
  | 6 => .array .int
  | 7 => .array .int
  | 8 => .array .int
  | 9 => .array .int
  | _ => .array .int
abbrev wsX80 : List Cond := u_ws RX8 TX8 11
theorem nmX8 : ∀ a, a < 11 → ∀ b, b < 11 → a ≠ b → (TX8 a).2.1 ≠ (TX8 b).2.1 := by decide +kernel
theorem tyX8_ok : ∀ k, k < 11 → parseFieldDescriptor (TX8 k).2.2.1 = some (tyX8 k) := by decide +kernel
abbrev cX8_init : ByteArray := prog_10_method_1_code
def yX8_init : MethodName := ⟨RX8, "<init>", "()V"⟩
abbrev cX8_version : ByteArray := prog_10_method_2_code
def yX8_version : MethodName := ⟨RX8, "version", "()I"⟩
abbrev cX8_countAll : ByteArray := prog_10_method_3_code
def yX8_countAll : MethodName := ⟨RX8, "countAll", "()I"⟩
abbrev cX8_countOf : ByteArray := prog_10_method_4_code
def yX8_countOf : MethodName := ⟨RX8, "countOf", "(I)I"⟩
abbrev cX8_ownerOf : ByteArray := prog_10_method_5_code
def yX8_ownerOf : MethodName := ⟨RX8, "ownerOf", "(I)I"⟩
abbrev cX8_tailOf : ByteArray := prog_10_method_6_code
def yX8_tailOf : MethodName := ⟨RX8, "tailOf", "(I)I"⟩
abbrev cX8_placeOf : ByteArray := prog_10_method_7_code
def yX8_placeOf : MethodName := ⟨RX8, "placeOf", "(I)I"⟩
abbrev cX8_membersOf : ByteArray := prog_10_method_8_code
def yX8_membersOf : MethodName := ⟨RX8, "membersOf", "(I)I"⟩
abbrev cX8_numberOf : ByteArray := prog_10_method_9_code
def yX8_numberOf : MethodName := ⟨RX8, "numberOf", "(I)I"⟩
abbrev cX8_rankedAt : ByteArray := prog_10_method_10_code
def yX8_rankedAt : MethodName := ⟨RX8, "rankedAt", "(II)I"⟩
abbrev cX8_secondOf : ByteArray := prog_10_method_11_code
def yX8_secondOf : MethodName := ⟨RX8, "secondOf", "(I)I"⟩
abbrev cX8_isBriefer : ByteArray := prog_10_method_12_code
def yX8_isBriefer : MethodName := ⟨RX8, "isBriefer", "(II)Z"⟩
abbrev cX8_numberAt : ByteArray := prog_10_method_13_code
def yX8_numberAt : MethodName := ⟨RX8, "numberAt", "(II)I"⟩
abbrev cX8_freshen : ByteArray := prog_10_method_14_code
def yX8_freshen : MethodName := ⟨RX8, "freshen", "(LPolicyRoutes$World;)V"⟩
abbrev cX8_isBasis : ByteArray := prog_10_method_15_code
def yX8_isBasis : MethodName := ⟨RX8, "isBasis", "(LPolicyRoutes$World;)Z"⟩
abbrev cX8_extend : ByteArray := prog_10_method_16_code
def yX8_extend : MethodName := ⟨RX8, "extend", "(LPolicyRoutes$World;I)V"⟩
abbrev cX8_unitAbove : ByteArray := prog_10_method_17_code
def yX8_unitAbove : MethodName := ⟨RX8, "unitAbove", "(I)I"⟩
abbrev cX8_add : ByteArray := prog_10_method_18_code
def yX8_add : MethodName := ⟨RX8, "add", "(III)V"⟩
abbrev cX8_insert : ByteArray := prog_10_method_19_code
def yX8_insert : MethodName := ⟨RX8, "insert", "(II)V"⟩
abbrev cX8_notePlaces : ByteArray := prog_10_method_20_code
def yX8_notePlaces : MethodName := ⟨RX8, "notePlaces", "()V"⟩
abbrev cX8_pairOf : ByteArray := prog_10_method_21_code
def yX8_pairOf : MethodName := ⟨RX8, "pairOf", "(II)I"⟩
abbrev cX8_linkInDoubt : ByteArray := prog_10_method_22_code
def yX8_linkInDoubt : MethodName := ⟨RX8, "linkInDoubt", "(III)I"⟩
def RX9 : String := "PolicyRoutes$World"
def TX9 : u_T := fun k => match k with
  | _ => ("PolicyRoutes$World", "cells", "[I", true)
def tyX9 : Nat → FieldType := fun k => match k with
  | _ => .array .int
abbrev wsX90 : List Cond := u_ws RX9 TX9 1
theorem nmX9 : ∀ a, a < 1 → ∀ b, b < 1 → a ≠ b → (TX9 a).2.1 ≠ (TX9 b).2.1 := by decide +kernel
theorem tyX9_ok : ∀ k, k < 1 → parseFieldDescriptor (TX9 k).2.2.1 = some (tyX9 k) := by decide +kernel
abbrev cX9_init : ByteArray := prog_11_method_1_code
def yX9_init : MethodName := ⟨RX9, "<init>", "()V"⟩
abbrev cX9_become : ByteArray := prog_11_method_2_code
def yX9_become : MethodName := ⟨RX9, "become", "(LPolicyRoutes$World;)V"⟩
abbrev cX9_size : ByteArray := prog_11_method_3_code
def yX9_size : MethodName := ⟨RX9, "size", "()I"⟩
abbrev cX9_isDomain : ByteArray := prog_11_method_4_code
def yX9_isDomain : MethodName := ⟨RX9, "isDomain", "(I)Z"⟩
abbrev cX9_arePair : ByteArray := prog_11_method_5_code
def yX9_arePair : MethodName := ⟨RX9, "arePair", "(II)Z"⟩
abbrev cX9_areOthers : ByteArray := prog_11_method_6_code
def yX9_areOthers : MethodName := ⟨RX9, "areOthers", "(II)Z"⟩
abbrev cX9_sortOf : ByteArray := prog_11_method_7_code
def yX9_sortOf : MethodName := ⟨RX9, "sortOf", "(II)I"⟩
abbrev cX9_isCut : ByteArray := prog_11_method_8_code
def yX9_isCut : MethodName := ⟨RX9, "isCut", "(II)Z"⟩
abbrev cX9_areJoined : ByteArray := prog_11_method_9_code
def yX9_areJoined : MethodName := ⟨RX9, "areJoined", "(II)Z"⟩
abbrev cX9_setLink : ByteArray := prog_11_method_10_code
def yX9_setLink : MethodName := ⟨RX9, "setLink", "(III)V"⟩
abbrev cX9_turnCut : ByteArray := prog_11_method_11_code
def yX9_turnCut : MethodName := ⟨RX9, "turnCut", "(II)V"⟩
abbrev cX9_setCut : ByteArray := prog_11_method_12_code
def yX9_setCut : MethodName := ⟨RX9, "setCut", "(III)V"⟩
abbrev cX9_likingOf : ByteArray := prog_11_method_13_code
def yX9_likingOf : MethodName := ⟨RX9, "likingOf", "(II)I"⟩
abbrev cX9_setLiking : ByteArray := prog_11_method_14_code
def yX9_setLiking : MethodName := ⟨RX9, "setLiking", "(III)V"⟩
abbrev cX9_mannerOf : ByteArray := prog_11_method_15_code
def yX9_mannerOf : MethodName := ⟨RX9, "mannerOf", "(I)I"⟩
abbrev cX9_setManner : ByteArray := prog_11_method_16_code
def yX9_setManner : MethodName := ⟨RX9, "setManner", "(II)V"⟩
abbrev cX9_barsOf : ByteArray := prog_11_method_17_code
def yX9_barsOf : MethodName := ⟨RX9, "barsOf", "(I)I"⟩
abbrev cX9_setBars : ByteArray := prog_11_method_18_code
def yX9_setBars : MethodName := ⟨RX9, "setBars", "(II)V"⟩
abbrev cX9_chosenBy : ByteArray := prog_11_method_19_code
def yX9_chosenBy : MethodName := ⟨RX9, "chosenBy", "(I)I"⟩
abbrev cX9_setChosen : ByteArray := prog_11_method_20_code
def yX9_setChosen : MethodName := ⟨RX9, "setChosen", "(II)V"⟩
abbrev cX9_draw : ByteArray := prog_11_method_21_code
def yX9_draw : MethodName := ⟨RX9, "draw", "()I"⟩
abbrev cX9_setDraw : ByteArray := prog_11_method_22_code
def yX9_setDraw : MethodName := ⟨RX9, "setDraw", "(I)V"⟩
abbrev cX9_forgetChosen : ByteArray := prog_11_method_23_code
def yX9_forgetChosen : MethodName := ⟨RX9, "forgetChosen", "()V"⟩
abbrev cX9_loseLinks : ByteArray := prog_11_method_24_code
def yX9_loseLinks : MethodName := ⟨RX9, "loseLinks", "()V"⟩
abbrev cX9_resize : ByteArray := prog_11_method_25_code
def yX9_resize : MethodName := ⟨RX9, "resize", "(I)V"⟩
abbrev cX9_countLinks : ByteArray := prog_11_method_26_code
def yX9_countLinks : MethodName := ⟨RX9, "countLinks", "(Z)I"⟩
abbrev cX9_choosers : ByteArray := prog_11_method_27_code
def yX9_choosers : MethodName := ⟨RX9, "choosers", "()I"⟩
abbrev cX9_lets : ByteArray := prog_11_method_28_code
def yX9_lets : MethodName := ⟨RX9, "lets", "(III)Z"⟩
abbrev cX9_takes : ByteArray := prog_11_method_29_code
def yX9_takes : MethodName := ⟨RX9, "takes", "(IIII)Z"⟩
abbrev cX9_rankOf : ByteArray := prog_11_method_30_code
def yX9_rankOf : MethodName := ⟨RX9, "rankOf", "(IIII)I"⟩
def RX10 : String := "PolicyRoutes"
def TX10 : u_T := fun k => match k with
  | 0 => ("PolicyRoutes", "world", "LPolicyRoutes$World;", true)
  | 1 => ("PolicyRoutes", "past", "LPolicyRoutes$Past;", true)
  | 2 => ("PolicyRoutes", "keptWorld", "LPolicyRoutes$World;", true)
  | 3 => ("PolicyRoutes", "keptPast", "LPolicyRoutes$Past;", true)
  | 4 => ("PolicyRoutes", "kept", "Z", false)
  | 5 => ("PolicyRoutes", "choice", "LPolicyRoutes$Choice;", true)
  | 6 => ("PolicyRoutes", "ways", "LPolicyRoutes$Ways;", true)
  | 7 => ("PolicyRoutes", "rings", "LPolicyRoutes$Rings;", true)
  | 8 => ("PolicyRoutes", "rests", "LPolicyRoutes$Rests;", true)
  | 9 => ("PolicyRoutes", "foresight", "LPolicyRoutes$Foresight;", true)
  | 10 => ("PolicyRoutes", "tape", "LPolicyRoutes$Tape;", true)
  | 11 => ("PolicyRoutes", "sheets", "LPolicyRoutes$Sheets;", true)
  | _ => ("PolicyRoutes", "nextOf", "[I", true)
def tyX10 : Nat → FieldType := fun k => match k with
  | 0 => .object "PolicyRoutes$World"
  | 1 => .object "PolicyRoutes$Past"
  | 2 => .object "PolicyRoutes$World"
  | 3 => .object "PolicyRoutes$Past"
  | 4 => .boolean
  | 5 => .object "PolicyRoutes$Choice"
  | 6 => .object "PolicyRoutes$Ways"
  | 7 => .object "PolicyRoutes$Rings"
  | 8 => .object "PolicyRoutes$Rests"
  | 9 => .object "PolicyRoutes$Foresight"
  | 10 => .object "PolicyRoutes$Tape"
  | 11 => .object "PolicyRoutes$Sheets"
  | _ => .array .int
abbrev wsX100 : List Cond := u_ws RX10 TX10 13
theorem nmX10 : ∀ a, a < 13 → ∀ b, b < 13 → a ≠ b → (TX10 a).2.1 ≠ (TX10 b).2.1 := by decide +kernel
theorem tyX10_ok : ∀ k, k < 13 → parseFieldDescriptor (TX10 k).2.2.1 = some (tyX10 k) := by decide +kernel
abbrev cX10_init : ByteArray := prog_1_method_1_code
def yX10_init : MethodName := ⟨RX10, "<init>", "()V"⟩
abbrev cX10_link : ByteArray := prog_1_method_2_code
def yX10_link : MethodName := ⟨RX10, "link", "(III)I"⟩
abbrev cX10_cut : ByteArray := prog_1_method_3_code
def yX10_cut : MethodName := ⟨RX10, "cut", "(II)I"⟩
abbrev cX10_like : ByteArray := prog_1_method_4_code
def yX10_like : MethodName := ⟨RX10, "like", "(III)I"⟩
abbrev cX10_manner : ByteArray := prog_1_method_5_code
def yX10_manner : MethodName := ⟨RX10, "manner", "(II)I"⟩
abbrev cX10_bar : ByteArray := prog_1_method_6_code
def yX10_bar : MethodName := ⟨RX10, "bar", "(II)I"⟩
abbrev cX10_domains : ByteArray := prog_1_method_7_code
def yX10_domains : MethodName := ⟨RX10, "domains", "(I)I"⟩
abbrev cX10_told : ByteArray := prog_1_method_8_code
def yX10_told : MethodName := ⟨RX10, "told", "(III)I"⟩
abbrev cX10_own : ByteArray := prog_1_method_9_code
def yX10_own : MethodName := ⟨RX10, "own", "(II)I"⟩
abbrev cX10_way : ByteArray := prog_1_method_10_code
def yX10_way : MethodName := ⟨RX10, "way", "(II)I"⟩
abbrev cX10_why : ByteArray := prog_1_method_11_code
def yX10_why : MethodName := ⟨RX10, "why", "(I)I"⟩
abbrev cX10_count : ByteArray := prog_1_method_12_code
def yX10_count : MethodName := ⟨RX10, "count", "(I)I"⟩
abbrev cX10_type : ByteArray := prog_1_method_13_code
def yX10_type : MethodName := ⟨RX10, "type", "(I)I"⟩
abbrev cX10_read : ByteArray := prog_1_method_14_code
def yX10_read : MethodName := ⟨RX10, "read", "()I"⟩
abbrev cX10_turn : ByteArray := prog_1_method_15_code
def yX10_turn : MethodName := ⟨RX10, "turn", "()I"⟩
abbrev cX10_choose : ByteArray := prog_1_method_16_code
def yX10_choose : MethodName := ⟨RX10, "choose", "(I)I"⟩
abbrev cX10_rest : ByteArray := prog_1_method_17_code
def yX10_rest : MethodName := ⟨RX10, "rest", "()I"⟩
abbrev cX10_clear : ByteArray := prog_1_method_18_code
def yX10_clear : MethodName := ⟨RX10, "clear", "()I"⟩
abbrev cX10_foreseen : ByteArray := prog_1_method_19_code
def yX10_foreseen : MethodName := ⟨RX10, "foreseen", "(I)I"⟩
abbrev cX10_stable : ByteArray := prog_1_method_20_code
def yX10_stable : MethodName := ⟨RX10, "stable", "(II)I"⟩
abbrev cX10_ring : ByteArray := prog_1_method_21_code
def yX10_ring : MethodName := ⟨RX10, "ring", "(I)I"⟩
abbrev cX10_fail : ByteArray := prog_1_method_22_code
def yX10_fail : MethodName := ⟨RX10, "fail", "(III)J"⟩
abbrev cX10_seen : ByteArray := prog_1_method_23_code
def yX10_seen : MethodName := ⟨RX10, "seen", "(I)I"⟩
abbrev cX10_drift : ByteArray := prog_1_method_24_code
def yX10_drift : MethodName := ⟨RX10, "drift", "(I)I"⟩
abbrev cX10_undo : ByteArray := prog_1_method_25_code
def yX10_undo : MethodName := ⟨RX10, "undo", "()I"⟩
abbrev cX10_seed : ByteArray := prog_1_method_26_code
def yX10_seed : MethodName := ⟨RX10, "seed", "(I)I"⟩
abbrev cX10_image : ByteArray := prog_1_method_27_code
def yX10_image : MethodName := ⟨RX10, "image", "()I"⟩
abbrev cX10_restore : ByteArray := prog_1_method_28_code
def yX10_restore : MethodName := ⟨RX10, "restore", "()I"⟩
abbrev cX10_tried : ByteArray := prog_1_method_29_code
def yX10_tried : MethodName := ⟨RX10, "tried", "(III)I"⟩
abbrev cX10_film : ByteArray := prog_1_method_30_code
def yX10_film : MethodName := ⟨RX10, "film", "(III)I"⟩
abbrev cX10_sheet : ByteArray := prog_1_method_31_code
def yX10_sheet : MethodName := ⟨RX10, "sheet", "(III)I"⟩
abbrev cX10_drop : ByteArray := prog_1_method_32_code
def yX10_drop : MethodName := ⟨RX10, "drop", "(I)I"⟩
abbrev cX10_item : ByteArray := prog_1_method_33_code
def yX10_item : MethodName := ⟨RX10, "item", "(IIIJ)I"⟩
abbrev cX10_copy : ByteArray := prog_1_method_34_code
def yX10_copy : MethodName := ⟨RX10, "copy", "(IIIII)I"⟩
abbrev cX10_discontent : ByteArray := prog_1_method_35_code
def yX10_discontent : MethodName := ⟨RX10, "discontent", "()I"⟩
abbrev cX10_stableOnes : ByteArray := prog_1_method_36_code
def yX10_stableOnes : MethodName := ⟨RX10, "stableOnes", "()I"⟩
abbrev cX10_turnAll : ByteArray := prog_1_method_37_code
def yX10_turnAll : MethodName := ⟨RX10, "turnAll", "()I"⟩
abbrev cX10_chooseAnew : ByteArray := prog_1_method_38_code
def yX10_chooseAnew : MethodName := ⟨RX10, "chooseAnew", "(I)I"⟩
abbrev cX10_driftOnce : ByteArray := prog_1_method_39_code
def yX10_driftOnce : MethodName := ⟨RX10, "driftOnce", "()V"⟩
abbrev cX10_driftPair : ByteArray := prog_1_method_40_code
def yX10_driftPair : MethodName := ⟨RX10, "driftPair", "(IIII)V"⟩
abbrev cX10_reasonAgainst : ByteArray := prog_1_method_41_code
def yX10_reasonAgainst : MethodName := ⟨RX10, "reasonAgainst", "(II)I"⟩
abbrev cX10_reasonOf : ByteArray := prog_1_method_42_code
def yX10_reasonOf : MethodName := ⟨RX10, "reasonOf", "(IIII)I"⟩
abbrev cX10_figuresOf : ByteArray := prog_1_method_43_code
def yX10_figuresOf : MethodName := ⟨RX10, "figuresOf", "(I)I"⟩
def RX11 : String := "PolicyRoutesModel"
def TX11 : u_T := fun k => match k with
  | 0 => ("PolicyRoutesModel", "st", "[I", true)
  | 1 => ("PolicyRoutesModel", "past", "[I", true)
  | 2 => ("PolicyRoutesModel", "acts", "I", false)
  | 3 => ("PolicyRoutesModel", "image", "[I", true)
  | 4 => ("PolicyRoutesModel", "imagePast", "[I", true)
  | 5 => ("PolicyRoutesModel", "imageActs", "I", false)
  | 6 => ("PolicyRoutesModel", "tape", "[I", true)
  | 7 => ("PolicyRoutesModel", "tapeMany", "I", false)
  | 8 => ("PolicyRoutesModel", "laneOf", "[I", true)
  | 9 => ("PolicyRoutesModel", "sizeOf", "[I", true)
  | 10 => ("PolicyRoutesModel", "items", "[J", true)
  | 11 => ("PolicyRoutesModel", "ways", "[I", true)
  | 12 => ("PolicyRoutesModel", "whose", "[I", true)
  | 13 => ("PolicyRoutesModel", "permitted", "I", false)
  | 14 => ("PolicyRoutesModel", "mind", "[I", true)
  | 15 => ("PolicyRoutesModel", "next", "[I", true)
  | 16 => ("PolicyRoutesModel", "trail", "[I", true)
  | 17 => ("PolicyRoutesModel", "nexts", "[I", true)
  | 18 => ("PolicyRoutesModel", "leads", "[J", true)
  | 19 => ("PolicyRoutesModel", "front", "[J", true)
  | 20 => ("PolicyRoutesModel", "seenWays", "[J", true)
  | 21 => ("PolicyRoutesModel", "then", "[J", true)
  | 22 => ("PolicyRoutesModel", "linkNo", "[I", true)
  | 23 => ("PolicyRoutesModel", "masks", "[I", true)
  | 24 => ("PolicyRoutesModel", "readAt", "I", false)
  | 25 => ("PolicyRoutesModel", "isFault", "Z", false)
  | 26 => ("PolicyRoutesModel", "readSort", "[I", true)
  | _ => ("PolicyRoutesModel", "readCut", "[I", true)
def tyX11 : Nat → FieldType := fun k => match k with
  | 0 => .array .int
  | 1 => .array .int
  | 2 => .int
  | 3 => .array .int
  | 4 => .array .int
  | 5 => .int
  | 6 => .array .int
  | 7 => .int
  | 8 => .array .int
  | 9 => .array .int
  | 10 => .array .long
  | 11 => .array .int
  | 12 => .array .int
  | 13 => .int
  | 14 => .array .int
  | 15 => .array .int
  | 16 => .array .int
  | 17 => .array .int
  | 18 => .array .long
  | 19 => .array .long
  | 20 => .array .long
  | 21 => .array .long
  | 22 => .array .int
  | 23 => .array .int
  | 24 => .int
  | 25 => .boolean
  | 26 => .array .int
  | _ => .array .int
abbrev wsX110 : List Cond := u_ws RX11 TX11 28
theorem nmX11 : ∀ a, a < 28 → ∀ b, b < 28 → a ≠ b → (TX11 a).2.1 ≠ (TX11 b).2.1 := by decide +kernel
theorem tyX11_ok : ∀ k, k < 28 → parseFieldDescriptor (TX11 k).2.2.1 = some (tyX11 k) := by decide +kernel
abbrev cX11_init : ByteArray := prog_13_method_1_code
def yX11_init : MethodName := ⟨RX11, "<init>", "()V"⟩
abbrev cX11_in : ByteArray := prog_13_method_2_code
def yX11_in : MethodName := ⟨RX11, "in", "(JJJ)Z"⟩
abbrev cX11_bring : ByteArray := prog_13_method_3_code
def yX11_bring : MethodName := ⟨RX11, "bring", "([II[III)V"⟩
abbrev cX11_has : ByteArray := prog_13_method_4_code
def yX11_has : MethodName := ⟨RX11, "has", "(II)Z"⟩
abbrev cX11_notes : ByteArray := prog_13_method_5_code
def yX11_notes : MethodName := ⟨RX11, "notes", "()V"⟩
abbrev cX11_isDomain : ByteArray := prog_13_method_6_code
def yX11_isDomain : MethodName := ⟨RX11, "isDomain", "(I)Z"⟩
abbrev cX11_areTwo : ByteArray := prog_13_method_7_code
def yX11_areTwo : MethodName := ⟨RX11, "areTwo", "(II)Z"⟩
abbrev cX11_pair : ByteArray := prog_13_method_8_code
def yX11_pair : MethodName := ⟨RX11, "pair", "(II)I"⟩
abbrev cX11_links : ByteArray := prog_13_method_9_code
def yX11_links : MethodName := ⟨RX11, "links", "(IIII)V"⟩
abbrev cX11_link : ByteArray := prog_13_method_10_code
def yX11_link : MethodName := ⟨RX11, "link", "(III)I"⟩
abbrev cX11_cut : ByteArray := prog_13_method_11_code
def yX11_cut : MethodName := ⟨RX11, "cut", "(II)I"⟩
abbrev cX11_becomes : ByteArray := prog_13_method_12_code
def yX11_becomes : MethodName := ⟨RX11, "becomes", "(II)I"⟩
abbrev cX11_like : ByteArray := prog_13_method_13_code
def yX11_like : MethodName := ⟨RX11, "like", "(III)I"⟩
abbrev cX11_manner : ByteArray := prog_13_method_14_code
def yX11_manner : MethodName := ⟨RX11, "manner", "(II)I"⟩
abbrev cX11_bar : ByteArray := prog_13_method_15_code
def yX11_bar : MethodName := ⟨RX11, "bar", "(II)I"⟩
abbrev cX11_domains : ByteArray := prog_13_method_16_code
def yX11_domains : MethodName := ⟨RX11, "domains", "(I)I"⟩
abbrev cX11_told : ByteArray := prog_13_method_17_code
def yX11_told : MethodName := ⟨RX11, "told", "(III)I"⟩
abbrev cX11_figures : ByteArray := prog_13_method_18_code
def yX11_figures : MethodName := ⟨RX11, "figures", "(I)I"⟩
abbrev cX11_figure : ByteArray := prog_13_method_19_code
def yX11_figure : MethodName := ⟨RX11, "figure", "(II)I"⟩
abbrev cX11_setOf : ByteArray := prog_13_method_20_code
def yX11_setOf : MethodName := ⟨RX11, "setOf", "(I)I"⟩
abbrev cX11_ten : ByteArray := prog_13_method_21_code
def yX11_ten : MethodName := ⟨RX11, "ten", "(I)I"⟩
abbrev cX11_together : ByteArray := prog_13_method_22_code
def yX11_together : MethodName := ⟨RX11, "together", "(II)I"⟩
abbrev cX11_behind : ByteArray := prog_13_method_23_code
def yX11_behind : MethodName := ⟨RX11, "behind", "(I)I"⟩
abbrev cX11_isCustomer : ByteArray := prog_13_method_24_code
def yX11_isCustomer : MethodName := ⟨RX11, "isCustomer", "(II)Z"⟩
abbrev cX11_lets : ByteArray := prog_13_method_25_code
def yX11_lets : MethodName := ⟨RX11, "lets", "(III)Z"⟩
abbrev cX11_areLinked : ByteArray := prog_13_method_26_code
def yX11_areLinked : MethodName := ⟨RX11, "areLinked", "(II)Z"⟩
abbrev cX11_second : ByteArray := prog_13_method_27_code
def yX11_second : MethodName := ⟨RX11, "second", "(I)I"⟩
abbrev cX11_takes : ByteArray := prog_13_method_28_code
def yX11_takes : MethodName := ⟨RX11, "takes", "(II)Z"⟩
abbrev cX11_isBetter : ByteArray := prog_13_method_29_code
def yX11_isBetter : MethodName := ⟨RX11, "isBetter", "(III)Z"⟩
abbrev cX11_laysWays : ByteArray := prog_13_method_30_code
def yX11_laysWays : MethodName := ⟨RX11, "laysWays", "()V"⟩
abbrev cX11_permittedTo : ByteArray := prog_13_method_31_code
def yX11_permittedTo : MethodName := ⟨RX11, "permittedTo", "(I)I"⟩
abbrev cX11_way : ByteArray := prog_13_method_32_code
def yX11_way : MethodName := ⟨RX11, "way", "(II)I"⟩
abbrev cX11_whyAt : ByteArray := prog_13_method_33_code
def yX11_whyAt : MethodName := ⟨RX11, "whyAt", "(II)I"⟩
abbrev cX11_isRow : ByteArray := prog_13_method_34_code
def yX11_isRow : MethodName := ⟨RX11, "isRow", "(I)Z"⟩
abbrev cX11_why : ByteArray := prog_13_method_35_code
def yX11_why : MethodName := ⟨RX11, "why", "(I)I"⟩
abbrev cX11_thinks : ByteArray := prog_13_method_36_code
def yX11_thinks : MethodName := ⟨RX11, "thinks", "()V"⟩
abbrev cX11_wouldChoose : ByteArray := prog_13_method_37_code
def yX11_wouldChoose : MethodName := ⟨RX11, "wouldChoose", "(I)I"⟩
abbrev cX11_notContent : ByteArray := prog_13_method_38_code
def yX11_notContent : MethodName := ⟨RX11, "notContent", "()I"⟩
abbrev cX11_turnsInMind : ByteArray := prog_13_method_39_code
def yX11_turnsInMind : MethodName := ⟨RX11, "turnsInMind", "()I"⟩
abbrev cX11_turnsOnce : ByteArray := prog_13_method_40_code
def yX11_turnsOnce : MethodName := ⟨RX11, "turnsOnce", "()I"⟩
abbrev cX11_chosenSet : ByteArray := prog_13_method_41_code
def yX11_chosenSet : MethodName := ⟨RX11, "chosenSet", "()I"⟩
abbrev cX11_own : ByteArray := prog_13_method_42_code
def yX11_own : MethodName := ⟨RX11, "own", "(II)I"⟩
abbrev cX11_linkMany : ByteArray := prog_13_method_43_code
def yX11_linkMany : MethodName := ⟨RX11, "linkMany", "(I)I"⟩
abbrev cX11_count : ByteArray := prog_13_method_44_code
def yX11_count : MethodName := ⟨RX11, "count", "(I)I"⟩
abbrev cX11_turn : ByteArray := prog_13_method_45_code
def yX11_turn : MethodName := ⟨RX11, "turn", "()I"⟩
abbrev cX11_choosesAnew : ByteArray := prog_13_method_46_code
def yX11_choosesAnew : MethodName := ⟨RX11, "choosesAnew", "(I)I"⟩
abbrev cX11_choose : ByteArray := prog_13_method_47_code
def yX11_choose : MethodName := ⟨RX11, "choose", "(I)I"⟩
abbrev cX11_rest : ByteArray := prog_13_method_48_code
def yX11_rest : MethodName := ⟨RX11, "rest", "()I"⟩
abbrev cX11_clear : ByteArray := prog_13_method_49_code
def yX11_clear : MethodName := ⟨RX11, "clear", "()I"⟩
abbrev cX11_isAsBehind : ByteArray := prog_13_method_50_code
def yX11_isAsBehind : MethodName := ⟨RX11, "isAsBehind", "(I)Z"⟩
abbrev cX11_foreseen : ByteArray := prog_13_method_51_code
def yX11_foreseen : MethodName := ⟨RX11, "foreseen", "(I)I"⟩
abbrev cX11_wayBy : ByteArray := prog_13_method_52_code
def yX11_wayBy : MethodName := ⟨RX11, "wayBy", "(I)I"⟩
abbrev cX11_thinksOfNexts : ByteArray := prog_13_method_53_code
def yX11_thinksOfNexts : MethodName := ⟨RX11, "thinksOfNexts", "()Z"⟩
abbrev cX11_nextOne : ByteArray := prog_13_method_54_code
def yX11_nextOne : MethodName := ⟨RX11, "nextOne", "(II)I"⟩
abbrev cX11_goesOn : ByteArray := prog_13_method_55_code
def yX11_goesOn : MethodName := ⟨RX11, "goesOn", "()Z"⟩
abbrev cX11_stableTo : ByteArray := prog_13_method_56_code
def yX11_stableTo : MethodName := ⟨RX11, "stableTo", "(I)I"⟩
abbrev cX11_stable : ByteArray := prog_13_method_57_code
def yX11_stable : MethodName := ⟨RX11, "stable", "(II)I"⟩
abbrev cX11_leadsTo : ByteArray := prog_13_method_58_code
def yX11_leadsTo : MethodName := ⟨RX11, "leadsTo", "(II)Z"⟩
abbrev cX11_laysLeads : ByteArray := prog_13_method_59_code
def yX11_laysLeads : MethodName := ⟨RX11, "laysLeads", "()V"⟩
abbrev cX11_isIn : ByteArray := prog_13_method_60_code
def yX11_isIn : MethodName := ⟨RX11, "isIn", "([JI)Z"⟩
abbrev cX11_movesOn : ByteArray := prog_13_method_61_code
def yX11_movesOn : MethodName := ⟨RX11, "movesOn", "()Z"⟩
abbrev cX11_roundOf : ByteArray := prog_13_method_62_code
def yX11_roundOf : MethodName := ⟨RX11, "roundOf", "(I)I"⟩
abbrev cX11_ring : ByteArray := prog_13_method_63_code
def yX11_ring : MethodName := ⟨RX11, "ring", "(I)I"⟩
abbrev cX11_laysLinks : ByteArray := prog_13_method_64_code
def yX11_laysLinks : MethodName := ⟨RX11, "laysLinks", "()I"⟩
abbrev cX11_maskOf : ByteArray := prog_13_method_65_code
def yX11_maskOf : MethodName := ⟨RX11, "maskOf", "(I)I"⟩
abbrev cX11_bits : ByteArray := prog_13_method_66_code
def yX11_bits : MethodName := ⟨RX11, "bits", "(I)I"⟩
abbrev cX11_power : ByteArray := prog_13_method_67_code
def yX11_power : MethodName := ⟨RX11, "power", "(JI)J"⟩
abbrev cX11_above : ByteArray := prog_13_method_68_code
def yX11_above : MethodName := ⟨RX11, "above", "(III)J"⟩
abbrev cX11_fail : ByteArray := prog_13_method_69_code
def yX11_fail : MethodName := ⟨RX11, "fail", "(III)J"⟩
abbrev cX11_seen : ByteArray := prog_13_method_70_code
def yX11_seen : MethodName := ⟨RX11, "seen", "(I)I"⟩
abbrev cX11_type : ByteArray := prog_13_method_71_code
def yX11_type : MethodName := ⟨RX11, "type", "(I)I"⟩
abbrev cX11_looks : ByteArray := prog_13_method_72_code
def yX11_looks : MethodName := ⟨RX11, "looks", "()I"⟩
abbrev cX11_reads : ByteArray := prog_13_method_73_code
def yX11_reads : MethodName := ⟨RX11, "reads", "(Z)V"⟩
abbrev cX11_readsLink : ByteArray := prog_13_method_74_code
def yX11_readsLink : MethodName := ⟨RX11, "readsLink", "()V"⟩
abbrev cX11_readsAll : ByteArray := prog_13_method_75_code
def yX11_readsAll : MethodName := ⟨RX11, "readsAll", "()V"⟩
abbrev cX11_read : ByteArray := prog_13_method_76_code
def yX11_read : MethodName := ⟨RX11, "read", "()I"⟩
abbrev cX11_drifts : ByteArray := prog_13_method_77_code
def yX11_drifts : MethodName := ⟨RX11, "drifts", "(I)V"⟩
abbrev cX11_drift : ByteArray := prog_13_method_78_code
def yX11_drift : MethodName := ⟨RX11, "drift", "(I)I"⟩
abbrev cX11_undo : ByteArray := prog_13_method_79_code
def yX11_undo : MethodName := ⟨RX11, "undo", "()I"⟩
abbrev cX11_seed : ByteArray := prog_13_method_80_code
def yX11_seed : MethodName := ⟨RX11, "seed", "(I)I"⟩
abbrev cX11_image : ByteArray := prog_13_method_81_code
def yX11_image : MethodName := ⟨RX11, "image", "()I"⟩
abbrev cX11_restore : ByteArray := prog_13_method_82_code
def yX11_restore : MethodName := ⟨RX11, "restore", "()I"⟩
abbrev cX11_isSheet : ByteArray := prog_13_method_83_code
def yX11_isSheet : MethodName := ⟨RX11, "isSheet", "(II)Z"⟩
abbrev cX11_found : ByteArray := prog_13_method_84_code
def yX11_found : MethodName := ⟨RX11, "found", "(IIII)I"⟩
abbrev cX11_tried : ByteArray := prog_13_method_85_code
def yX11_tried : MethodName := ⟨RX11, "tried", "(III)I"⟩
abbrev cX11_film : ByteArray := prog_13_method_86_code
def yX11_film : MethodName := ⟨RX11, "film", "(III)I"⟩
abbrev cX11_lowest : ByteArray := prog_13_method_87_code
def yX11_lowest : MethodName := ⟨RX11, "lowest", "(JI)J"⟩
abbrev cX11_sheet : ByteArray := prog_13_method_88_code
def yX11_sheet : MethodName := ⟨RX11, "sheet", "(III)I"⟩
abbrev cX11_drop : ByteArray := prog_13_method_89_code
def yX11_drop : MethodName := ⟨RX11, "drop", "(I)I"⟩
abbrev cX11_item : ByteArray := prog_13_method_90_code
def yX11_item : MethodName := ⟨RX11, "item", "(IIIJ)I"⟩
abbrev cX11_copy : ByteArray := prog_13_method_91_code
def yX11_copy : MethodName := ⟨RX11, "copy", "(IIIII)I"⟩
def RL : String := "PolicyRoutesLaw"
abbrev cL_law : ByteArray := code
def yL_law : MethodName := ⟨RL, "law", "([I)Z"⟩
abbrev vwCl : List vw_C := [(RX0, TX0, 5), (RX1, TX1, 3), (RX3, TX3, 3), (RX4, TX4, 4), (RX5, TX5, 9), (RX6, TX6, 3), (RX7, TX7, 9), (RX8, TX8, 11), (RX9, TX9, 1), (RX10, TX10, 13), (RX11, TX11, 28)]
end
section
/-! THE MACHINE OVER A PICTURE OF NUMBERED CELLS: a reference in the picture is a cell's number; ad tells each number's address. mx_X: from here the method goes on to its end Qs. A row an instruction, generic once for all methods. -/
abbrev mx_C : Type := (FieldType × vp_A) ⊕ (Nat × List Value)
def mx_v (ad : Nat → Nat) (v : Value) : Value := match v with
  | .ref i => .ref (ad i)
  | w => w
def mx_c (cT : FieldType → ClassId) (ad : Nat → Nat) (q : mx_C) : va_E := match q with
  | .inl (t, a) => .inl (cT t, a)
  | .inr (ci, fs) => .inr (ci, fs.map (mx_v ad))
def mx_w (cT : FieldType → ClassId) (ad : Nat → Nat) (h : List mx_C) : va_W := h.mapIdx (fun i c => (ad i, mx_c cT ad c))
def mx_l (ad : Nat → Nat) (loc : List (Nat × Value)) : List (Nat × Value) := loc.map (fun q => (q.1, mx_v ad q.2))
def mx_T : List Cond := lw_tbl.filter goodWord
def mx_tys (cT : FieldType → ClassId) : List (ClassId × FieldType) := [(cT .int, .int), (cT .long, .long), (cT .boolean, .boolean)]
abbrev mx_E : Type := State → (Nat → Prop) → Prop
abbrev mx_Qt : Type := List Frame → Array Value → State → (Nat → Prop) → (Nat → ClassId) → (Nat → Nat → Nat) → (FieldType → ClassId) → (Nat → Nat) → State → Prop
def mx_B (E : mx_E) (own : String) (cc : ByteArray) (nL : Nat) (rt : Option FieldType) (nm : String) (p : Program) (s : State) (m : MethodId) (args : Array Value) (meth : Method) (c : Code) (dC : Nat → ClassId) (dI : Nat → Nat → Nat) (cT : FieldType → ClassId) (A : Nat → Prop) : Prop :=
  p.tables.exec = Jvm.exec ∧ c.code = cc ∧ c.maxLocals = nL ∧ meth.sig.returnType = rt ∧ meth.name = nm ∧ meth.locks = false ∧ s.vm.findClass own = some m.cls ∧ (∀ w ∈ mx_T, w.before args s = true) ∧ va_K (dC, dI) vwCl (mx_tys cT) s ∧ (∀ q : Nat, s.heap.size ≤ q → A q) ∧ E s A
def mx_X (l : Launch) (E : mx_E) (own : String) (cc : ByteArray) (nL : Nat) (rt : Option FieldType) (nm : String) (R : Room) (Qs : mx_Qt) (n0 : Nat) (pc : Nat) (loc : List (Nat × Value)) (stk : List Value) (h : List mx_C) (kc ks : Nat) : Prop :=
  ∀ (p : Program) (e : Env) (s : State) (m : MethodId) (args : Array Value) (below : List Frame) (meth : Method) (c : Code) (dC : Nat → ClassId) (dI : Nat → Nat → Nat) (cT : FieldType → ClassId) (A : Nat → Prop) (ad0 ad : Nat → Nat) (H : Heap) (locs : List Loc) (ls : Array Slot),
    mx_B E own cc nL rt nm p s m args meth c dC dI cT A → (∀ i : Nat, i < n0 → ad i = ad0 i) → va_P (dC, dI) vwCl (mx_w cT ad h) H → va_D A (mx_w cT ad h) → va_S A s.heap H locs → lv_has ls nL (mx_l ad loc) →
    W p l e R s m args below meth c H locs kc ks (Qs below args s A dC dI cT ad0) (F0 m pc ls (stk.map (mx_v ad)))
theorem mx_at {ad : Nat → Nat} {ls : Array Slot} {nL : Nat} {loc : List (Nat × Value)} (h : lv_has ls nL (mx_l ad loc)) (k : Nat) {i : Nat} {v : Value} (hk : loc[k]? = some (i, v)) : ls[i]? = some (.val (mx_v ad v)) :=
  lv_at h k (i := i) (v := mx_v ad v) (by simp [mx_l, hk])
theorem mx_cat (ad : Nat → Nat) (v : Value) : (mx_v ad v).category = v.category := by cases v <;> rfl
theorem mx_flt {ad : Nat → Nat} {loc : List (Nat × Value)} (f : Nat → Nat → Bool) : (mx_l ad loc).filter (fun q => f q.1 q.2.category) = mx_l ad (loc.filter (fun q => f q.1 q.2.category)) := by
  unfold mx_l
  rw [List.filter_map]
  congr 1
  apply List.filter_congr
  intro q _
  simp [mx_cat]
def mx_st1 (i : Nat) (v : Value) (loc : List (Nat × Value)) : List (Nat × Value) := (i, v) :: loc.filter (fun q => !(q.1 == i) && !(q.1 + 1 == i && q.2.category == 2))
def mx_st2 (i : Nat) (v : Value) (loc : List (Nat × Value)) : List (Nat × Value) := (i, v) :: loc.filter (fun q => !(q.1 == i) && (!(q.1 == i + 1) && !(q.1 + 1 == i && q.2.category == 2)))
theorem mx_st1_ok {ad : Nat → Nat} {loc loc' : List (Nat × Value)} {i : Nat} {v : Value} (h : mx_st1 i v loc = loc') : (i, mx_v ad v) :: (mx_l ad loc).filter (fun q => !(q.1 == i) && !(q.1 + 1 == i && q.2.category == 2)) = mx_l ad loc' := by
  subst h
  rw [mx_flt (fun a b => !(a == i) && !(a + 1 == i && b == 2))]
  rfl
theorem mx_st2_ok {ad : Nat → Nat} {loc loc' : List (Nat × Value)} {i : Nat} {v : Value} (h : mx_st2 i v loc = loc') : (i, mx_v ad v) :: (mx_l ad loc).filter (fun q => !(q.1 == i) && (!(q.1 == i + 1) && !(q.1 + 1 == i && q.2.category == 2))) = mx_l ad loc' := by
  subst h
  rw [mx_flt (fun a b => !(a == i) && (!(a == i + 1) && !(a + 1 == i && b == 2)))]
  rfl
theorem mx_wat {cT : FieldType → ClassId} {ad : Nat → Nat} {h : List mx_C} {i : Nat} {q : mx_C} (hi : h[i]? = some q) : (mx_w cT ad h)[i]? = some (ad i, mx_c cT ad q) := by
  simp [mx_w, List.getElem?_mapIdx, hi]
theorem mx_wset {cT : FieldType → ClassId} {ad : Nat → Nat} {h : List mx_C} {i : Nat} {q : mx_C} : (mx_w cT ad h).set i (ad i, mx_c cT ad q) = mx_w cT ad (h.set i q) := by
  apply List.ext_getElem?
  intro j
  simp only [mx_w, List.getElem?_set, List.getElem?_mapIdx, List.length_mapIdx]
  by_cases hij : i = j
  · subst hij
    by_cases hl : i < h.length
    · simp [hl]
    · simp [hl]
  · simp [hij]
def mv_shl (x y : Int32) : Int32 := x <<< (y &&& 31)
def mv_shr (x y : Int32) : Int32 := x >>> (y &&& 31)
def mv_ushr (x y : Int32) : Int32 := (x.toUInt32 >>> (y.toUInt32 &&& Int32.toUInt32 31)).toInt32
def mv_rem (x y : Int32) : Int32 := x - x / y * y
def mv_lrem (x y : Int64) : Int64 := x - x / y * y
def mv_lshl (x : Int64) (y : Int32) : Int64 := x <<< (y.toInt64 &&& 63)
def mv_lshr (x : Int64) (y : Int32) : Int64 := x >>> (y.toInt64 &&& 63)
def mv_lushr (x : Int64) (y : Int32) : Int64 := (x.toUInt64 >>> (y.toInt64.toUInt64 &&& Int64.toUInt64 63)).toInt64
section MX
variable {l : Launch} {E : mx_E} {own : String} {cc : ByteArray} {nL : Nat} {rt : Option FieldType} {nm : String} {R : Room} {Qs : mx_Qt} {n0 pc : Nat} {loc : List (Nat × Value)} {stk : List Value} {h : List mx_C} {kc ks : Nat}
theorem mx_iconst (v : Int32) {n : Int} (d : decode cc pc = .ok (.iconst n, 1)) (hv : Int32.ofInt n = v) (k : mx_X l E own cc nL rt nm R Qs n0 (pc + 1) loc (.int v :: stk) h kc ks) : mx_X l E own cc nL rt nm R Qs n0 pc loc stk h kc ks := by
  intro p e s m args below meth c dC dI cT A ad0 ad H locs ls hB ha hP hD hS hl
  exact lv_iconst hB.1 hB.2.1 d hv (k p e s m args below meth c dC dI cT A ad0 ad H locs ls hB ha hP hD hS hl)
theorem mx_bipush (v : Int32) {n : Int} (d : decode cc pc = .ok (.bipush n, 2)) (hv : (Int8.ofInt n).toInt32 = v) (k : mx_X l E own cc nL rt nm R Qs n0 (pc + 2) loc (.int v :: stk) h kc ks) : mx_X l E own cc nL rt nm R Qs n0 pc loc stk h kc ks := by
  intro p e s m args below meth c dC dI cT A ad0 ad H locs ls hB ha hP hD hS hl
  exact lv_bipush hB.1 hB.2.1 d hv (k p e s m args below meth c dC dI cT A ad0 ad H locs ls hB ha hP hD hS hl)
theorem mx_sipush (v : Int32) {n : Int} (d : decode cc pc = .ok (.sipush n, 3)) (hv : (Int16.ofInt n).toInt32 = v) (k : mx_X l E own cc nL rt nm R Qs n0 (pc + 3) loc (.int v :: stk) h kc ks) : mx_X l E own cc nL rt nm R Qs n0 pc loc stk h kc ks := by
  intro p e s m args below meth c dC dI cT A ad0 ad H locs ls hB ha hP hD hS hl
  exact lv_sipush hB.1 hB.2.1 d hv (k p e s m args below meth c dC dI cT A ad0 ad H locs ls hB ha hP hD hS hl)
theorem mx_lconst (v : Int64) {n : Fin 2} (d : decode cc pc = .ok (.lconst n, 1)) (hv : Int64.ofNat (n : Nat) = v) (k : mx_X l E own cc nL rt nm R Qs n0 (pc + 1) loc (.long v :: stk) h kc ks) : mx_X l E own cc nL rt nm R Qs n0 pc loc stk h kc ks := by
  intro p e s m args below meth c dC dI cT A ad0 ad H locs ls hB ha hP hD hS hl
  exact lv_lconst hB.1 hB.2.1 d hv (k p e s m args below meth c dC dI cT A ad0 ad H locs ls hB ha hP hD hS hl)
theorem mx_ldc {v : Int32} {index : Nat} (hc : Cond.constant own index v ∈ mx_T) (d : decode cc pc = .ok (.ldc index, 2)) (k : mx_X l E own cc nL rt nm R Qs n0 (pc + 2) loc (.int v :: stk) h kc ks) : mx_X l E own cc nL rt nm R Qs n0 pc loc stk h kc ks := by
  intro p e s m args below meth c dC dI cT A ad0 ad H locs ls hB ha hP hD hS hl
  exact lv_ldc hB.1 hB.2.1 hB.2.2.2.2.2.2.1 (hB.2.2.2.2.2.2.2.1 _ hc) d (k p e s m args below meth c dC dI cT A ad0 ad H locs ls hB ha hP hD hS hl)
theorem mx_ldcw {v : Int32} {index : Nat} (hc : Cond.constant own index v ∈ mx_T) (d : decode cc pc = .ok (.ldc_w index, 3)) (k : mx_X l E own cc nL rt nm R Qs n0 (pc + 3) loc (.int v :: stk) h kc ks) : mx_X l E own cc nL rt nm R Qs n0 pc loc stk h kc ks := by
  intro p e s m args below meth c dC dI cT A ad0 ad H locs ls hB ha hP hD hS hl
  exact lv_ldcw hB.1 hB.2.1 hB.2.2.2.2.2.2.1 (hB.2.2.2.2.2.2.2.1 _ hc) d (k p e s m args below meth c dC dI cT A ad0 ad H locs ls hB ha hP hD hS hl)
theorem mx_ldc2 {v : Int64} {index : Nat} (hc : Cond.constantLong own index v ∈ mx_T) (d : decode cc pc = .ok (.ldc2_w index, 3)) (k : mx_X l E own cc nL rt nm R Qs n0 (pc + 3) loc (.long v :: stk) h kc ks) : mx_X l E own cc nL rt nm R Qs n0 pc loc stk h kc ks := by
  intro p e s m args below meth c dC dI cT A ad0 ad H locs ls hB ha hP hD hS hl
  exact lv_ldc2 hB.1 hB.2.1 hB.2.2.2.2.2.2.1 (hB.2.2.2.2.2.2.2.1 _ hc) d (k p e s m args below meth c dC dI cT A ad0 ad H locs ls hB ha hP hD hS hl)
theorem mx_iload_n {q : Fin 4} {i : Nat} {x : Int32} (d : decode cc pc = .ok (.iload_n q, 1)) (hi : (q : Nat) = i) (z : Nat) (hz : loc[z]? = some (i, .int x)) (k : mx_X l E own cc nL rt nm R Qs n0 (pc + 1) loc (.int x :: stk) h kc ks) : mx_X l E own cc nL rt nm R Qs n0 pc loc stk h kc ks := by
  intro p e s m args below meth c dC dI cT A ad0 ad H locs ls hB ha hP hD hS hl
  exact lv_iload_n hB.1 hB.2.1 d hi (mx_at hl z hz) (k p e s m args below meth c dC dI cT A ad0 ad H locs ls hB ha hP hD hS hl)
theorem mx_iload {i : Nat} {x : Int32} (d : decode cc pc = .ok (.iload i, 2)) (z : Nat) (hz : loc[z]? = some (i, .int x)) (k : mx_X l E own cc nL rt nm R Qs n0 (pc + 2) loc (.int x :: stk) h kc ks) : mx_X l E own cc nL rt nm R Qs n0 pc loc stk h kc ks := by
  intro p e s m args below meth c dC dI cT A ad0 ad H locs ls hB ha hP hD hS hl
  exact lv_iload hB.1 hB.2.1 d (mx_at hl z hz) (k p e s m args below meth c dC dI cT A ad0 ad H locs ls hB ha hP hD hS hl)
theorem mx_istore_n {q : Fin 4} {i : Nat} {x : Int32} (loc' : List (Nat × Value)) (d : decode cc pc = .ok (.istore_n q, 1)) (hi : (q : Nat) = i) (hn : i < nL) (hL : mx_st1 i (.int x) loc = loc') (k : mx_X l E own cc nL rt nm R Qs n0 (pc + 1) loc' stk h kc ks) : mx_X l E own cc nL rt nm R Qs n0 pc loc (.int x :: stk) h kc ks := by
  intro p e s m args below meth c dC dI cT A ad0 ad H locs ls hB ha hP hD hS hl
  exact lv_istore_n hB.1 hB.2.1 d hi hl hn (mx_st1_ok (ad := ad) hL) (fun ls hl => k p e s m args below meth c dC dI cT A ad0 ad H locs ls hB ha hP hD hS hl)
theorem mx_istore {i : Nat} {x : Int32} (loc' : List (Nat × Value)) (d : decode cc pc = .ok (.istore i, 2)) (hn : i < nL) (hL : mx_st1 i (.int x) loc = loc') (k : mx_X l E own cc nL rt nm R Qs n0 (pc + 2) loc' stk h kc ks) : mx_X l E own cc nL rt nm R Qs n0 pc loc (.int x :: stk) h kc ks := by
  intro p e s m args below meth c dC dI cT A ad0 ad H locs ls hB ha hP hD hS hl
  exact lv_istore hB.1 hB.2.1 d hl hn (mx_st1_ok (ad := ad) hL) (fun ls hl => k p e s m args below meth c dC dI cT A ad0 ad H locs ls hB ha hP hD hS hl)
theorem mx_lload_n {q : Fin 4} {i : Nat} {x : Int64} (d : decode cc pc = .ok (.lload_n q, 1)) (hi : (q : Nat) = i) (z : Nat) (hz : loc[z]? = some (i, .long x)) (k : mx_X l E own cc nL rt nm R Qs n0 (pc + 1) loc (.long x :: stk) h kc ks) : mx_X l E own cc nL rt nm R Qs n0 pc loc stk h kc ks := by
  intro p e s m args below meth c dC dI cT A ad0 ad H locs ls hB ha hP hD hS hl
  exact lv_lload_n hB.1 hB.2.1 d hi (mx_at hl z hz) (k p e s m args below meth c dC dI cT A ad0 ad H locs ls hB ha hP hD hS hl)
theorem mx_lload {i : Nat} {x : Int64} (d : decode cc pc = .ok (.lload i, 2)) (z : Nat) (hz : loc[z]? = some (i, .long x)) (k : mx_X l E own cc nL rt nm R Qs n0 (pc + 2) loc (.long x :: stk) h kc ks) : mx_X l E own cc nL rt nm R Qs n0 pc loc stk h kc ks := by
  intro p e s m args below meth c dC dI cT A ad0 ad H locs ls hB ha hP hD hS hl
  exact lv_lload hB.1 hB.2.1 d (mx_at hl z hz) (k p e s m args below meth c dC dI cT A ad0 ad H locs ls hB ha hP hD hS hl)
theorem mx_lstore_n {q : Fin 4} {i : Nat} {x : Int64} (loc' : List (Nat × Value)) (d : decode cc pc = .ok (.lstore_n q, 1)) (hi : (q : Nat) = i) (hn : i + 1 < nL) (hL : mx_st2 i (.long x) loc = loc') (k : mx_X l E own cc nL rt nm R Qs n0 (pc + 1) loc' stk h kc ks) : mx_X l E own cc nL rt nm R Qs n0 pc loc (.long x :: stk) h kc ks := by
  intro p e s m args below meth c dC dI cT A ad0 ad H locs ls hB ha hP hD hS hl
  exact lv_lstore_n hB.1 hB.2.1 d hi hl hn (mx_st2_ok (ad := ad) hL) (fun ls hl => k p e s m args below meth c dC dI cT A ad0 ad H locs ls hB ha hP hD hS hl)
theorem mx_lstore {i : Nat} {x : Int64} (loc' : List (Nat × Value)) (d : decode cc pc = .ok (.lstore i, 2)) (hn : i + 1 < nL) (hL : mx_st2 i (.long x) loc = loc') (k : mx_X l E own cc nL rt nm R Qs n0 (pc + 2) loc' stk h kc ks) : mx_X l E own cc nL rt nm R Qs n0 pc loc (.long x :: stk) h kc ks := by
  intro p e s m args below meth c dC dI cT A ad0 ad H locs ls hB ha hP hD hS hl
  exact lv_lstore hB.1 hB.2.1 d hl hn (mx_st2_ok (ad := ad) hL) (fun ls hl => k p e s m args below meth c dC dI cT A ad0 ad H locs ls hB ha hP hD hS hl)
theorem mx_aload_n {q : Fin 4} {i : Nat} {x : Nat} (d : decode cc pc = .ok (.aload_n q, 1)) (hi : (q : Nat) = i) (z : Nat) (hz : loc[z]? = some (i, .ref x)) (k : mx_X l E own cc nL rt nm R Qs n0 (pc + 1) loc (.ref x :: stk) h kc ks) : mx_X l E own cc nL rt nm R Qs n0 pc loc stk h kc ks := by
  intro p e s m args below meth c dC dI cT A ad0 ad H locs ls hB ha hP hD hS hl
  exact lv_aload_n hB.1 hB.2.1 d hi (mx_at hl z hz) (k p e s m args below meth c dC dI cT A ad0 ad H locs ls hB ha hP hD hS hl)
theorem mx_aload {i : Nat} {x : Nat} (d : decode cc pc = .ok (.aload i, 2)) (z : Nat) (hz : loc[z]? = some (i, .ref x)) (k : mx_X l E own cc nL rt nm R Qs n0 (pc + 2) loc (.ref x :: stk) h kc ks) : mx_X l E own cc nL rt nm R Qs n0 pc loc stk h kc ks := by
  intro p e s m args below meth c dC dI cT A ad0 ad H locs ls hB ha hP hD hS hl
  exact lv_aload hB.1 hB.2.1 d (mx_at hl z hz) (k p e s m args below meth c dC dI cT A ad0 ad H locs ls hB ha hP hD hS hl)
theorem mx_astore_n {q : Fin 4} {i : Nat} {x : Nat} (loc' : List (Nat × Value)) (d : decode cc pc = .ok (.astore_n q, 1)) (hi : (q : Nat) = i) (hn : i < nL) (hL : mx_st1 i (.ref x) loc = loc') (k : mx_X l E own cc nL rt nm R Qs n0 (pc + 1) loc' stk h kc ks) : mx_X l E own cc nL rt nm R Qs n0 pc loc (.ref x :: stk) h kc ks := by
  intro p e s m args below meth c dC dI cT A ad0 ad H locs ls hB ha hP hD hS hl
  exact lv_astore_n hB.1 hB.2.1 d hi hl hn (mx_st1_ok (ad := ad) hL) (fun ls hl => k p e s m args below meth c dC dI cT A ad0 ad H locs ls hB ha hP hD hS hl)
theorem mx_astore {i : Nat} {x : Nat} (loc' : List (Nat × Value)) (d : decode cc pc = .ok (.astore i, 2)) (hn : i < nL) (hL : mx_st1 i (.ref x) loc = loc') (k : mx_X l E own cc nL rt nm R Qs n0 (pc + 2) loc' stk h kc ks) : mx_X l E own cc nL rt nm R Qs n0 pc loc (.ref x :: stk) h kc ks := by
  intro p e s m args below meth c dC dI cT A ad0 ad H locs ls hB ha hP hD hS hl
  exact lv_astore hB.1 hB.2.1 d hl hn (mx_st1_ok (ad := ad) hL) (fun ls hl => k p e s m args below meth c dC dI cT A ad0 ad H locs ls hB ha hP hD hS hl)
theorem mx_iinc {i : Nat} {n : Int} {x : Int32} (v : Int32) (loc' : List (Nat × Value)) (d : decode cc pc = .ok (.iinc i n, 3)) (z : Nat) (hz : loc[z]? = some (i, .int x)) (hv : Int32.ofInt n = v) (hn : i < nL) (hL : mx_st1 i (.int (x + v)) loc = loc') (k : mx_X l E own cc nL rt nm R Qs n0 (pc + 3) loc' stk h kc ks) : mx_X l E own cc nL rt nm R Qs n0 pc loc stk h kc ks := by
  intro p e s m args below meth c dC dI cT A ad0 ad H locs ls hB ha hP hD hS hl
  exact lv_iinc hB.1 hB.2.1 d hl (k := z) (x := x) (v := x + v) (by simp [mx_l, hz, mx_v]) (by rw [hv]) hn (mx_st1_ok (ad := ad) hL) (fun ls hl => k p e s m args below meth c dC dI cT A ad0 ad H locs ls hB ha hP hD hS hl)
theorem mx_sub (zs : List Nat) {loc' : List (Nat × Value)} (hL : lv_pick loc zs = loc') (k : mx_X l E own cc nL rt nm R Qs n0 pc loc' stk h kc ks) : mx_X l E own cc nL rt nm R Qs n0 pc loc stk h kc ks := by
  intro p e s m args below meth c dC dI cT A ad0 ad H locs ls hB ha hP hD hS hl
  have hl' : lv_has ls nL (mx_l ad loc') := by
    refine lv_sub hl zs ?_
    subst hL
    simp [lv_pick, mx_l, List.map_filterMap]
  exact k p e s m args below meth c dC dI cT A ad0 ad H locs ls hB ha hP hD hS hl'
theorem mx_iadd {x y : Int32} (d : decode cc pc = .ok (.iadd, 1)) (k : mx_X l E own cc nL rt nm R Qs n0 (pc + 1) loc (.int (x + y) :: stk) h kc ks) : mx_X l E own cc nL rt nm R Qs n0 pc loc (.int y :: .int x :: stk) h kc ks := by
  intro p e s m args below meth c dC dI cT A ad0 ad H locs ls hB ha hP hD hS hl
  exact lv_iadd hB.1 hB.2.1 d (k p e s m args below meth c dC dI cT A ad0 ad H locs ls hB ha hP hD hS hl)
theorem mx_isub {x y : Int32} (d : decode cc pc = .ok (.isub, 1)) (k : mx_X l E own cc nL rt nm R Qs n0 (pc + 1) loc (.int (x - y) :: stk) h kc ks) : mx_X l E own cc nL rt nm R Qs n0 pc loc (.int y :: .int x :: stk) h kc ks := by
  intro p e s m args below meth c dC dI cT A ad0 ad H locs ls hB ha hP hD hS hl
  exact lv_isub hB.1 hB.2.1 d (k p e s m args below meth c dC dI cT A ad0 ad H locs ls hB ha hP hD hS hl)
theorem mx_imul {x y : Int32} (d : decode cc pc = .ok (.imul, 1)) (k : mx_X l E own cc nL rt nm R Qs n0 (pc + 1) loc (.int (x * y) :: stk) h kc ks) : mx_X l E own cc nL rt nm R Qs n0 pc loc (.int y :: .int x :: stk) h kc ks := by
  intro p e s m args below meth c dC dI cT A ad0 ad H locs ls hB ha hP hD hS hl
  exact lv_imul hB.1 hB.2.1 d (k p e s m args below meth c dC dI cT A ad0 ad H locs ls hB ha hP hD hS hl)
theorem mx_iand {x y : Int32} (d : decode cc pc = .ok (.iand, 1)) (k : mx_X l E own cc nL rt nm R Qs n0 (pc + 1) loc (.int (x &&& y) :: stk) h kc ks) : mx_X l E own cc nL rt nm R Qs n0 pc loc (.int y :: .int x :: stk) h kc ks := by
  intro p e s m args below meth c dC dI cT A ad0 ad H locs ls hB ha hP hD hS hl
  exact lv_iand hB.1 hB.2.1 d (k p e s m args below meth c dC dI cT A ad0 ad H locs ls hB ha hP hD hS hl)
theorem mx_ior {x y : Int32} (d : decode cc pc = .ok (.ior, 1)) (k : mx_X l E own cc nL rt nm R Qs n0 (pc + 1) loc (.int (x ||| y) :: stk) h kc ks) : mx_X l E own cc nL rt nm R Qs n0 pc loc (.int y :: .int x :: stk) h kc ks := by
  intro p e s m args below meth c dC dI cT A ad0 ad H locs ls hB ha hP hD hS hl
  exact lv_ior hB.1 hB.2.1 d (k p e s m args below meth c dC dI cT A ad0 ad H locs ls hB ha hP hD hS hl)
theorem mx_ixor {x y : Int32} (d : decode cc pc = .ok (.ixor, 1)) (k : mx_X l E own cc nL rt nm R Qs n0 (pc + 1) loc (.int (x ^^^ y) :: stk) h kc ks) : mx_X l E own cc nL rt nm R Qs n0 pc loc (.int y :: .int x :: stk) h kc ks := by
  intro p e s m args below meth c dC dI cT A ad0 ad H locs ls hB ha hP hD hS hl
  exact lv_ixor hB.1 hB.2.1 d (k p e s m args below meth c dC dI cT A ad0 ad H locs ls hB ha hP hD hS hl)
theorem mx_ishl {x y : Int32} (d : decode cc pc = .ok (.ishl, 1)) (k : mx_X l E own cc nL rt nm R Qs n0 (pc + 1) loc (.int (mv_shl x y) :: stk) h kc ks) : mx_X l E own cc nL rt nm R Qs n0 pc loc (.int y :: .int x :: stk) h kc ks := by
  intro p e s m args below meth c dC dI cT A ad0 ad H locs ls hB ha hP hD hS hl
  exact lv_ishl hB.1 hB.2.1 d (k p e s m args below meth c dC dI cT A ad0 ad H locs ls hB ha hP hD hS hl)
theorem mx_ishr {x y : Int32} (d : decode cc pc = .ok (.ishr, 1)) (k : mx_X l E own cc nL rt nm R Qs n0 (pc + 1) loc (.int (mv_shr x y) :: stk) h kc ks) : mx_X l E own cc nL rt nm R Qs n0 pc loc (.int y :: .int x :: stk) h kc ks := by
  intro p e s m args below meth c dC dI cT A ad0 ad H locs ls hB ha hP hD hS hl
  exact lv_ishr hB.1 hB.2.1 d (k p e s m args below meth c dC dI cT A ad0 ad H locs ls hB ha hP hD hS hl)
theorem mx_idiv {x y : Int32} (hy : ¬ y = 0) (d : decode cc pc = .ok (.idiv, 1)) (k : mx_X l E own cc nL rt nm R Qs n0 (pc + 1) loc (.int (x / y) :: stk) h kc ks) : mx_X l E own cc nL rt nm R Qs n0 pc loc (.int y :: .int x :: stk) h kc ks := by
  intro p e s m args below meth c dC dI cT A ad0 ad H locs ls hB ha hP hD hS hl
  exact lv_idiv hB.1 hB.2.1 d hy (k p e s m args below meth c dC dI cT A ad0 ad H locs ls hB ha hP hD hS hl)
theorem mx_irem {x y : Int32} (hy : ¬ y = 0) (d : decode cc pc = .ok (.irem, 1)) (k : mx_X l E own cc nL rt nm R Qs n0 (pc + 1) loc (.int (mv_rem x y) :: stk) h kc ks) : mx_X l E own cc nL rt nm R Qs n0 pc loc (.int y :: .int x :: stk) h kc ks := by
  intro p e s m args below meth c dC dI cT A ad0 ad H locs ls hB ha hP hD hS hl
  exact lv_irem hB.1 hB.2.1 d hy (k p e s m args below meth c dC dI cT A ad0 ad H locs ls hB ha hP hD hS hl)
theorem mx_ineg {x : Int32} (d : decode cc pc = .ok (.ineg, 1)) (k : mx_X l E own cc nL rt nm R Qs n0 (pc + 1) loc (.int (-x) :: stk) h kc ks) : mx_X l E own cc nL rt nm R Qs n0 pc loc (.int x :: stk) h kc ks := by
  intro p e s m args below meth c dC dI cT A ad0 ad H locs ls hB ha hP hD hS hl
  exact lv_ineg hB.1 hB.2.1 d (k p e s m args below meth c dC dI cT A ad0 ad H locs ls hB ha hP hD hS hl)
theorem mx_iushr {x y : Int32} (d : decode cc pc = .ok (.iushr, 1)) (k : mx_X l E own cc nL rt nm R Qs n0 (pc + 1) loc (.int (mv_ushr x y) :: stk) h kc ks) : mx_X l E own cc nL rt nm R Qs n0 pc loc (.int y :: .int x :: stk) h kc ks := by
  intro p e s m args below meth c dC dI cT A ad0 ad H locs ls hB ha hP hD hS hl
  exact lv_iushr (v := mv_ushr x y) hB.1 hB.2.1 d rfl (k p e s m args below meth c dC dI cT A ad0 ad H locs ls hB ha hP hD hS hl)
theorem mx_ladd {x y : Int64} (d : decode cc pc = .ok (.ladd, 1)) (k : mx_X l E own cc nL rt nm R Qs n0 (pc + 1) loc (.long (x + y) :: stk) h kc ks) : mx_X l E own cc nL rt nm R Qs n0 pc loc (.long y :: .long x :: stk) h kc ks := by
  intro p e s m args below meth c dC dI cT A ad0 ad H locs ls hB ha hP hD hS hl
  exact lv_ladd hB.1 hB.2.1 d (k p e s m args below meth c dC dI cT A ad0 ad H locs ls hB ha hP hD hS hl)
theorem mx_lsub {x y : Int64} (d : decode cc pc = .ok (.lsub, 1)) (k : mx_X l E own cc nL rt nm R Qs n0 (pc + 1) loc (.long (x - y) :: stk) h kc ks) : mx_X l E own cc nL rt nm R Qs n0 pc loc (.long y :: .long x :: stk) h kc ks := by
  intro p e s m args below meth c dC dI cT A ad0 ad H locs ls hB ha hP hD hS hl
  exact lv_lsub hB.1 hB.2.1 d (k p e s m args below meth c dC dI cT A ad0 ad H locs ls hB ha hP hD hS hl)
theorem mx_lmul {x y : Int64} (d : decode cc pc = .ok (.lmul, 1)) (k : mx_X l E own cc nL rt nm R Qs n0 (pc + 1) loc (.long (x * y) :: stk) h kc ks) : mx_X l E own cc nL rt nm R Qs n0 pc loc (.long y :: .long x :: stk) h kc ks := by
  intro p e s m args below meth c dC dI cT A ad0 ad H locs ls hB ha hP hD hS hl
  exact lv_lmul hB.1 hB.2.1 d (k p e s m args below meth c dC dI cT A ad0 ad H locs ls hB ha hP hD hS hl)
theorem mx_land {x y : Int64} (d : decode cc pc = .ok (.land, 1)) (k : mx_X l E own cc nL rt nm R Qs n0 (pc + 1) loc (.long (x &&& y) :: stk) h kc ks) : mx_X l E own cc nL rt nm R Qs n0 pc loc (.long y :: .long x :: stk) h kc ks := by
  intro p e s m args below meth c dC dI cT A ad0 ad H locs ls hB ha hP hD hS hl
  exact lv_land hB.1 hB.2.1 d (k p e s m args below meth c dC dI cT A ad0 ad H locs ls hB ha hP hD hS hl)
theorem mx_lor {x y : Int64} (d : decode cc pc = .ok (.lor, 1)) (k : mx_X l E own cc nL rt nm R Qs n0 (pc + 1) loc (.long (x ||| y) :: stk) h kc ks) : mx_X l E own cc nL rt nm R Qs n0 pc loc (.long y :: .long x :: stk) h kc ks := by
  intro p e s m args below meth c dC dI cT A ad0 ad H locs ls hB ha hP hD hS hl
  exact lv_lor hB.1 hB.2.1 d (k p e s m args below meth c dC dI cT A ad0 ad H locs ls hB ha hP hD hS hl)
theorem mx_lxor {x y : Int64} (d : decode cc pc = .ok (.lxor, 1)) (k : mx_X l E own cc nL rt nm R Qs n0 (pc + 1) loc (.long (x ^^^ y) :: stk) h kc ks) : mx_X l E own cc nL rt nm R Qs n0 pc loc (.long y :: .long x :: stk) h kc ks := by
  intro p e s m args below meth c dC dI cT A ad0 ad H locs ls hB ha hP hD hS hl
  exact lv_lxor hB.1 hB.2.1 d (k p e s m args below meth c dC dI cT A ad0 ad H locs ls hB ha hP hD hS hl)
theorem mx_ldiv {x y : Int64} (hy : ¬ y = 0) (d : decode cc pc = .ok (.ldiv, 1)) (k : mx_X l E own cc nL rt nm R Qs n0 (pc + 1) loc (.long (x / y) :: stk) h kc ks) : mx_X l E own cc nL rt nm R Qs n0 pc loc (.long y :: .long x :: stk) h kc ks := by
  intro p e s m args below meth c dC dI cT A ad0 ad H locs ls hB ha hP hD hS hl
  exact lv_ldiv hB.1 hB.2.1 d hy (k p e s m args below meth c dC dI cT A ad0 ad H locs ls hB ha hP hD hS hl)
theorem mx_lrem {x y : Int64} (hy : ¬ y = 0) (d : decode cc pc = .ok (.lrem, 1)) (k : mx_X l E own cc nL rt nm R Qs n0 (pc + 1) loc (.long (mv_lrem x y) :: stk) h kc ks) : mx_X l E own cc nL rt nm R Qs n0 pc loc (.long y :: .long x :: stk) h kc ks := by
  intro p e s m args below meth c dC dI cT A ad0 ad H locs ls hB ha hP hD hS hl
  exact lv_lrem hB.1 hB.2.1 d hy (k p e s m args below meth c dC dI cT A ad0 ad H locs ls hB ha hP hD hS hl)
theorem mx_lneg {x : Int64} (d : decode cc pc = .ok (.lneg, 1)) (k : mx_X l E own cc nL rt nm R Qs n0 (pc + 1) loc (.long (-x) :: stk) h kc ks) : mx_X l E own cc nL rt nm R Qs n0 pc loc (.long x :: stk) h kc ks := by
  intro p e s m args below meth c dC dI cT A ad0 ad H locs ls hB ha hP hD hS hl
  exact lv_lneg hB.1 hB.2.1 d (k p e s m args below meth c dC dI cT A ad0 ad H locs ls hB ha hP hD hS hl)
theorem mx_lshl {x : Int64} {y : Int32} (d : decode cc pc = .ok (.lshl, 1)) (k : mx_X l E own cc nL rt nm R Qs n0 (pc + 1) loc (.long (mv_lshl x y) :: stk) h kc ks) : mx_X l E own cc nL rt nm R Qs n0 pc loc (.int y :: .long x :: stk) h kc ks := by
  intro p e s m args below meth c dC dI cT A ad0 ad H locs ls hB ha hP hD hS hl
  exact lv_lshl (v := mv_lshl x y) hB.1 hB.2.1 d rfl (k p e s m args below meth c dC dI cT A ad0 ad H locs ls hB ha hP hD hS hl)
theorem mx_lshr {x : Int64} {y : Int32} (d : decode cc pc = .ok (.lshr, 1)) (k : mx_X l E own cc nL rt nm R Qs n0 (pc + 1) loc (.long (mv_lshr x y) :: stk) h kc ks) : mx_X l E own cc nL rt nm R Qs n0 pc loc (.int y :: .long x :: stk) h kc ks := by
  intro p e s m args below meth c dC dI cT A ad0 ad H locs ls hB ha hP hD hS hl
  exact lv_lshr (v := mv_lshr x y) hB.1 hB.2.1 d rfl (k p e s m args below meth c dC dI cT A ad0 ad H locs ls hB ha hP hD hS hl)
theorem mx_lushr {x : Int64} {y : Int32} (d : decode cc pc = .ok (.lushr, 1)) (k : mx_X l E own cc nL rt nm R Qs n0 (pc + 1) loc (.long (mv_lushr x y) :: stk) h kc ks) : mx_X l E own cc nL rt nm R Qs n0 pc loc (.int y :: .long x :: stk) h kc ks := by
  intro p e s m args below meth c dC dI cT A ad0 ad H locs ls hB ha hP hD hS hl
  exact lv_lushr (v := mv_lushr x y) hB.1 hB.2.1 d rfl (k p e s m args below meth c dC dI cT A ad0 ad H locs ls hB ha hP hD hS hl)
theorem mx_i2l {x : Int32} (d : decode cc pc = .ok (.i2l, 1)) (k : mx_X l E own cc nL rt nm R Qs n0 (pc + 1) loc (.long x.toInt64 :: stk) h kc ks) : mx_X l E own cc nL rt nm R Qs n0 pc loc (.int x :: stk) h kc ks := by
  intro p e s m args below meth c dC dI cT A ad0 ad H locs ls hB ha hP hD hS hl
  exact lv_i2l hB.1 hB.2.1 d rfl (k p e s m args below meth c dC dI cT A ad0 ad H locs ls hB ha hP hD hS hl)
theorem mx_l2i {x : Int64} (d : decode cc pc = .ok (.l2i, 1)) (k : mx_X l E own cc nL rt nm R Qs n0 (pc + 1) loc (.int x.toInt32 :: stk) h kc ks) : mx_X l E own cc nL rt nm R Qs n0 pc loc (.long x :: stk) h kc ks := by
  intro p e s m args below meth c dC dI cT A ad0 ad H locs ls hB ha hP hD hS hl
  exact lv_l2i hB.1 hB.2.1 d rfl (k p e s m args below meth c dC dI cT A ad0 ad H locs ls hB ha hP hD hS hl)
theorem mx_i2b {x : Int32} (d : decode cc pc = .ok (.i2b, 1)) (k : mx_X l E own cc nL rt nm R Qs n0 (pc + 1) loc (.int x.toInt8.toInt32 :: stk) h kc ks) : mx_X l E own cc nL rt nm R Qs n0 pc loc (.int x :: stk) h kc ks := by
  intro p e s m args below meth c dC dI cT A ad0 ad H locs ls hB ha hP hD hS hl
  exact lv_i2b hB.1 hB.2.1 d rfl (k p e s m args below meth c dC dI cT A ad0 ad H locs ls hB ha hP hD hS hl)
theorem mx_i2s {x : Int32} (d : decode cc pc = .ok (.i2s, 1)) (k : mx_X l E own cc nL rt nm R Qs n0 (pc + 1) loc (.int x.toInt16.toInt32 :: stk) h kc ks) : mx_X l E own cc nL rt nm R Qs n0 pc loc (.int x :: stk) h kc ks := by
  intro p e s m args below meth c dC dI cT A ad0 ad H locs ls hB ha hP hD hS hl
  exact lv_i2s hB.1 hB.2.1 d rfl (k p e s m args below meth c dC dI cT A ad0 ad H locs ls hB ha hP hD hS hl)
theorem mx_lcmp {x y : Int64} (d : decode cc pc = .ok (.lcmp, 1)) (k : mx_X l E own cc nL rt nm R Qs n0 (pc + 1) loc (.int (lg_cmp x y) :: stk) h kc ks) : mx_X l E own cc nL rt nm R Qs n0 pc loc (.long y :: .long x :: stk) h kc ks := by
  intro p e s m args below meth c dC dI cT A ad0 ad H locs ls hB ha hP hD hS hl
  exact W.lcmp hB.1 hB.2.1 d (k p e s m args below meth c dC dI cT A ad0 ad H locs ls hB ha hP hD hS hl)
theorem mx_dup {v : Value} (hv : v.category = 1) (d : decode cc pc = .ok (.dup, 1)) (k : mx_X l E own cc nL rt nm R Qs n0 (pc + 1) loc (v :: v :: stk) h kc ks) : mx_X l E own cc nL rt nm R Qs n0 pc loc (v :: stk) h kc ks := by
  intro p e s m args below meth c dC dI cT A ad0 ad H locs ls hB ha hP hD hS hl
  exact lv_dup hB.1 hB.2.1 d (by rw [mx_cat]; exact hv) (k p e s m args below meth c dC dI cT A ad0 ad H locs ls hB ha hP hD hS hl)
theorem mx_pop {v : Value} (hv : v.category = 1) (d : decode cc pc = .ok (.pop, 1)) (k : mx_X l E own cc nL rt nm R Qs n0 (pc + 1) loc (stk) h kc ks) : mx_X l E own cc nL rt nm R Qs n0 pc loc (v :: stk) h kc ks := by
  intro p e s m args below meth c dC dI cT A ad0 ad H locs ls hB ha hP hD hS hl
  exact lv_pop hB.1 hB.2.1 d (by rw [mx_cat]; exact hv) (k p e s m args below meth c dC dI cT A ad0 ad H locs ls hB ha hP hD hS hl)
theorem mx_dup2 {v w : Value} (hv : v.category = 1) (hw : w.category = 1) (d : decode cc pc = .ok (.dup2, 1)) (k : mx_X l E own cc nL rt nm R Qs n0 (pc + 1) loc (v :: w :: v :: w :: stk) h kc ks) : mx_X l E own cc nL rt nm R Qs n0 pc loc (v :: w :: stk) h kc ks := by
  intro p e s m args below meth c dC dI cT A ad0 ad H locs ls hB ha hP hD hS hl
  exact lv_dup2_11 hB.1 hB.2.1 d (by rw [mx_cat]; exact hv) (by rw [mx_cat]; exact hw) (k p e s m args below meth c dC dI cT A ad0 ad H locs ls hB ha hP hD hS hl)
theorem mx_if_eq {x : Int32} {off : Int} (tgt : Nat) (d : decode cc pc = .ok (.ifCond .eq off, 3)) (ht : (pc : Int) + off = (tgt : Int)) (kt : x = 0 → mx_X l E own cc nL rt nm R Qs n0 tgt loc stk h kc ks) (kf : ¬ x = 0 → mx_X l E own cc nL rt nm R Qs n0 (pc + 3) loc stk h kc ks) : mx_X l E own cc nL rt nm R Qs n0 pc loc (.int x :: stk) h kc ks := by
  intro p e s m args below meth c dC dI cT A ad0 ad H locs ls hB ha hP hD hS hl
  exact lv_if_eq hB.1 hB.2.1 d ht (fun z => kt z p e s m args below meth c dC dI cT A ad0 ad H locs ls hB ha hP hD hS hl) (fun z => kf z p e s m args below meth c dC dI cT A ad0 ad H locs ls hB ha hP hD hS hl)
theorem mx_icmp_eq {x y : Int32} {off : Int} (tgt : Nat) (d : decode cc pc = .ok (.if_icmp .eq off, 3)) (ht : (pc : Int) + off = (tgt : Int)) (kt : x = y → mx_X l E own cc nL rt nm R Qs n0 tgt loc stk h kc ks) (kf : ¬ x = y → mx_X l E own cc nL rt nm R Qs n0 (pc + 3) loc stk h kc ks) : mx_X l E own cc nL rt nm R Qs n0 pc loc (.int y :: .int x :: stk) h kc ks := by
  intro p e s m args below meth c dC dI cT A ad0 ad H locs ls hB ha hP hD hS hl
  exact lv_icmp_eq hB.1 hB.2.1 d ht (fun z => kt z p e s m args below meth c dC dI cT A ad0 ad H locs ls hB ha hP hD hS hl) (fun z => kf z p e s m args below meth c dC dI cT A ad0 ad H locs ls hB ha hP hD hS hl)
theorem mx_if_lt {x : Int32} {off : Int} (tgt : Nat) (d : decode cc pc = .ok (.ifCond .lt off, 3)) (ht : (pc : Int) + off = (tgt : Int)) (kt : x < 0 → mx_X l E own cc nL rt nm R Qs n0 tgt loc stk h kc ks) (kf : ¬ x < 0 → mx_X l E own cc nL rt nm R Qs n0 (pc + 3) loc stk h kc ks) : mx_X l E own cc nL rt nm R Qs n0 pc loc (.int x :: stk) h kc ks := by
  intro p e s m args below meth c dC dI cT A ad0 ad H locs ls hB ha hP hD hS hl
  exact lv_if_lt hB.1 hB.2.1 d ht (fun z => kt z p e s m args below meth c dC dI cT A ad0 ad H locs ls hB ha hP hD hS hl) (fun z => kf z p e s m args below meth c dC dI cT A ad0 ad H locs ls hB ha hP hD hS hl)
theorem mx_icmp_lt {x y : Int32} {off : Int} (tgt : Nat) (d : decode cc pc = .ok (.if_icmp .lt off, 3)) (ht : (pc : Int) + off = (tgt : Int)) (kt : x < y → mx_X l E own cc nL rt nm R Qs n0 tgt loc stk h kc ks) (kf : ¬ x < y → mx_X l E own cc nL rt nm R Qs n0 (pc + 3) loc stk h kc ks) : mx_X l E own cc nL rt nm R Qs n0 pc loc (.int y :: .int x :: stk) h kc ks := by
  intro p e s m args below meth c dC dI cT A ad0 ad H locs ls hB ha hP hD hS hl
  exact lv_icmp_lt hB.1 hB.2.1 d ht (fun z => kt z p e s m args below meth c dC dI cT A ad0 ad H locs ls hB ha hP hD hS hl) (fun z => kf z p e s m args below meth c dC dI cT A ad0 ad H locs ls hB ha hP hD hS hl)
theorem mx_if_ge {x : Int32} {off : Int} (tgt : Nat) (d : decode cc pc = .ok (.ifCond .ge off, 3)) (ht : (pc : Int) + off = (tgt : Int)) (kt : 0 ≤ x → mx_X l E own cc nL rt nm R Qs n0 tgt loc stk h kc ks) (kf : ¬ 0 ≤ x → mx_X l E own cc nL rt nm R Qs n0 (pc + 3) loc stk h kc ks) : mx_X l E own cc nL rt nm R Qs n0 pc loc (.int x :: stk) h kc ks := by
  intro p e s m args below meth c dC dI cT A ad0 ad H locs ls hB ha hP hD hS hl
  exact lv_if_ge hB.1 hB.2.1 d ht (fun z => kt z p e s m args below meth c dC dI cT A ad0 ad H locs ls hB ha hP hD hS hl) (fun z => kf z p e s m args below meth c dC dI cT A ad0 ad H locs ls hB ha hP hD hS hl)
theorem mx_icmp_ge {x y : Int32} {off : Int} (tgt : Nat) (d : decode cc pc = .ok (.if_icmp .ge off, 3)) (ht : (pc : Int) + off = (tgt : Int)) (kt : y ≤ x → mx_X l E own cc nL rt nm R Qs n0 tgt loc stk h kc ks) (kf : ¬ y ≤ x → mx_X l E own cc nL rt nm R Qs n0 (pc + 3) loc stk h kc ks) : mx_X l E own cc nL rt nm R Qs n0 pc loc (.int y :: .int x :: stk) h kc ks := by
  intro p e s m args below meth c dC dI cT A ad0 ad H locs ls hB ha hP hD hS hl
  exact lv_icmp_ge hB.1 hB.2.1 d ht (fun z => kt z p e s m args below meth c dC dI cT A ad0 ad H locs ls hB ha hP hD hS hl) (fun z => kf z p e s m args below meth c dC dI cT A ad0 ad H locs ls hB ha hP hD hS hl)
theorem mx_if_gt {x : Int32} {off : Int} (tgt : Nat) (d : decode cc pc = .ok (.ifCond .gt off, 3)) (ht : (pc : Int) + off = (tgt : Int)) (kt : 0 < x → mx_X l E own cc nL rt nm R Qs n0 tgt loc stk h kc ks) (kf : ¬ 0 < x → mx_X l E own cc nL rt nm R Qs n0 (pc + 3) loc stk h kc ks) : mx_X l E own cc nL rt nm R Qs n0 pc loc (.int x :: stk) h kc ks := by
  intro p e s m args below meth c dC dI cT A ad0 ad H locs ls hB ha hP hD hS hl
  exact lv_if_gt hB.1 hB.2.1 d ht (fun z => kt z p e s m args below meth c dC dI cT A ad0 ad H locs ls hB ha hP hD hS hl) (fun z => kf z p e s m args below meth c dC dI cT A ad0 ad H locs ls hB ha hP hD hS hl)
theorem mx_icmp_gt {x y : Int32} {off : Int} (tgt : Nat) (d : decode cc pc = .ok (.if_icmp .gt off, 3)) (ht : (pc : Int) + off = (tgt : Int)) (kt : y < x → mx_X l E own cc nL rt nm R Qs n0 tgt loc stk h kc ks) (kf : ¬ y < x → mx_X l E own cc nL rt nm R Qs n0 (pc + 3) loc stk h kc ks) : mx_X l E own cc nL rt nm R Qs n0 pc loc (.int y :: .int x :: stk) h kc ks := by
  intro p e s m args below meth c dC dI cT A ad0 ad H locs ls hB ha hP hD hS hl
  exact lv_icmp_gt hB.1 hB.2.1 d ht (fun z => kt z p e s m args below meth c dC dI cT A ad0 ad H locs ls hB ha hP hD hS hl) (fun z => kf z p e s m args below meth c dC dI cT A ad0 ad H locs ls hB ha hP hD hS hl)
theorem mx_if_le {x : Int32} {off : Int} (tgt : Nat) (d : decode cc pc = .ok (.ifCond .le off, 3)) (ht : (pc : Int) + off = (tgt : Int)) (kt : x ≤ 0 → mx_X l E own cc nL rt nm R Qs n0 tgt loc stk h kc ks) (kf : ¬ x ≤ 0 → mx_X l E own cc nL rt nm R Qs n0 (pc + 3) loc stk h kc ks) : mx_X l E own cc nL rt nm R Qs n0 pc loc (.int x :: stk) h kc ks := by
  intro p e s m args below meth c dC dI cT A ad0 ad H locs ls hB ha hP hD hS hl
  exact lv_if_le hB.1 hB.2.1 d ht (fun z => kt z p e s m args below meth c dC dI cT A ad0 ad H locs ls hB ha hP hD hS hl) (fun z => kf z p e s m args below meth c dC dI cT A ad0 ad H locs ls hB ha hP hD hS hl)
theorem mx_icmp_le {x y : Int32} {off : Int} (tgt : Nat) (d : decode cc pc = .ok (.if_icmp .le off, 3)) (ht : (pc : Int) + off = (tgt : Int)) (kt : x ≤ y → mx_X l E own cc nL rt nm R Qs n0 tgt loc stk h kc ks) (kf : ¬ x ≤ y → mx_X l E own cc nL rt nm R Qs n0 (pc + 3) loc stk h kc ks) : mx_X l E own cc nL rt nm R Qs n0 pc loc (.int y :: .int x :: stk) h kc ks := by
  intro p e s m args below meth c dC dI cT A ad0 ad H locs ls hB ha hP hD hS hl
  exact lv_icmp_le hB.1 hB.2.1 d ht (fun z => kt z p e s m args below meth c dC dI cT A ad0 ad H locs ls hB ha hP hD hS hl) (fun z => kf z p e s m args below meth c dC dI cT A ad0 ad H locs ls hB ha hP hD hS hl)
theorem mx_if_ne {x : Int32} {off : Int} (tgt : Nat) (d : decode cc pc = .ok (.ifCond .ne off, 3)) (ht : (pc : Int) + off = (tgt : Int)) (kt : ¬ x = 0 → mx_X l E own cc nL rt nm R Qs n0 tgt loc stk h kc ks) (kf : x = 0 → mx_X l E own cc nL rt nm R Qs n0 (pc + 3) loc stk h kc ks) : mx_X l E own cc nL rt nm R Qs n0 pc loc (.int x :: stk) h kc ks := by
  intro p e s m args below meth c dC dI cT A ad0 ad H locs ls hB ha hP hD hS hl
  exact lv_if_ne hB.1 hB.2.1 d ht (fun z => kt z p e s m args below meth c dC dI cT A ad0 ad H locs ls hB ha hP hD hS hl) (fun z => kf z p e s m args below meth c dC dI cT A ad0 ad H locs ls hB ha hP hD hS hl)
theorem mx_icmp_ne {x y : Int32} {off : Int} (tgt : Nat) (d : decode cc pc = .ok (.if_icmp .ne off, 3)) (ht : (pc : Int) + off = (tgt : Int)) (kt : ¬ x = y → mx_X l E own cc nL rt nm R Qs n0 tgt loc stk h kc ks) (kf : x = y → mx_X l E own cc nL rt nm R Qs n0 (pc + 3) loc stk h kc ks) : mx_X l E own cc nL rt nm R Qs n0 pc loc (.int y :: .int x :: stk) h kc ks := by
  intro p e s m args below meth c dC dI cT A ad0 ad H locs ls hB ha hP hD hS hl
  exact lv_icmp_ne hB.1 hB.2.1 d ht (fun z => kt z p e s m args below meth c dC dI cT A ad0 ad H locs ls hB ha hP hD hS hl) (fun z => kf z p e s m args below meth c dC dI cT A ad0 ad H locs ls hB ha hP hD hS hl)
theorem mx_goto {off : Int} (tgt : Nat) (d : decode cc pc = .ok (.goto off, 3)) (ht : (pc : Int) + off = (tgt : Int)) (k : mx_X l E own cc nL rt nm R Qs n0 tgt loc stk h kc ks) : mx_X l E own cc nL rt nm R Qs n0 pc loc stk h kc ks := by
  intro p e s m args below meth c dC dI cT A ad0 ad H locs ls hB ha hP hD hS hl
  exact lv_goto hB.1 hB.2.1 d ht (k p e s m args below meth c dC dI cT A ad0 ad H locs ls hB ha hP hD hS hl)
theorem mx_tableIn {dflt lo hi : Int} {offs : Array Int} {len : Nat} {x : Int32} {off : Int} (tgt : Nat) (d : decode cc pc = .ok (.tableswitch dflt lo hi offs, len)) (h1 : ¬ x.toInt < lo) (h2 : ¬ hi < x.toInt) (ho : offs[(x.toInt - lo).toNat]? = some off) (ht : (pc : Int) + off = (tgt : Int)) (k : mx_X l E own cc nL rt nm R Qs n0 tgt loc stk h kc ks) : mx_X l E own cc nL rt nm R Qs n0 pc loc (.int x :: stk) h kc ks := by
  intro p e s m args below meth c dC dI cT A ad0 ad H locs ls hB ha hP hD hS hl
  exact lv_tableIn hB.1 hB.2.1 d h1 h2 ho ht (k p e s m args below meth c dC dI cT A ad0 ad H locs ls hB ha hP hD hS hl)
theorem mx_tableOut {dflt lo hi : Int} {offs : Array Int} {len : Nat} {x : Int32} (tgt : Nat) (d : decode cc pc = .ok (.tableswitch dflt lo hi offs, len)) (h0 : x.toInt < lo ∨ hi < x.toInt) (ht : (pc : Int) + dflt = (tgt : Int)) (k : mx_X l E own cc nL rt nm R Qs n0 tgt loc stk h kc ks) : mx_X l E own cc nL rt nm R Qs n0 pc loc (.int x :: stk) h kc ks := by
  intro p e s m args below meth c dC dI cT A ad0 ad H locs ls hB ha hP hD hS hl
  exact lv_tableOut hB.1 hB.2.1 d h0 ht (k p e s m args below meth c dC dI cT A ad0 ad H locs ls hB ha hP hD hS hl)
def mx_F (own : String) (index ci k : Nat) (ty : FieldType) (fin : Bool) : Prop := ∃ (C : String) (T : u_T) (N : Nat) (ty0 : Nat → FieldType), vwCl[ci]? = some (C, T, N) ∧ (∀ w ∈ u_ws C T N, w ∈ mx_T) ∧ k < N ∧ Cond.fieldLink own index (T k).1 (T k).2.1 (T k).2.2.1 ∈ mx_T ∧ (∀ k, k < N → parseFieldDescriptor (T k).2.2.1 = some (ty0 k)) ∧ ty0 k = ty ∧ (∀ a, a < N → ∀ b, b < N → a ≠ b → (T a).2.1 ≠ (T b).2.1) ∧ (T k).2.2.2 = fin ∧ (fin = true → (T k).1 = own)
theorem mx_get {index ci f i : Nat} {ty : FieldType} {fin : Bool} {fs : List Value} {v : Value} (F : mx_F own index ci f ty fin) (he : h[i]? = some (.inr (ci, fs))) (hv : fs[f]? = some v) (d : decode cc pc = .ok (.getfield index, 3)) (k : mx_X l E own cc nL rt nm R Qs n0 (pc + 3) loc (v :: stk) h kc ks) : mx_X l E own cc nL rt nm R Qs n0 pc loc (.ref i :: stk) h kc ks := by
  intro p e s m args below meth c dC dI cT A ad0 ad H locs ls hB ha hP hD hS hl
  obtain ⟨C, T, N, ty0, h1, h2, h3, h4, -⟩ := F
  exact va_get (D := (dC, dI)) (ci := ci) (v := mx_v ad v) (C := C) (T := T) (N := N) hB.1 hB.2.1 hB.2.2.2.2.2.2.2.1 h2 hB.2.2.2.2.2.2.1 hB.2.2.2.2.2.2.2.2.1 hP i (mx_wat he) h1 f h3 (hB.2.2.2.2.2.2.2.1 _ h4) (fun _ h9 => h9) (by simp [hv]) d (k p e s m args below meth c dC dI cT A ad0 ad H locs ls hB ha hP hD hS hl)
theorem mx_put {index ci f i : Nat} {ty : FieldType} {fs : List Value} {v : Value} (F : mx_F own index ci f ty false) (he : h[i]? = some (.inr (ci, fs))) (hf : f < fs.length) (hn : ∀ a, narrow ty (mx_v a v) = mx_v a v) (hfit : ∀ a, fits ty (mx_v a v) = true) (d : decode cc pc = .ok (.putfield index, 3)) (k : mx_X l E own cc nL rt nm R Qs n0 (pc + 3) loc stk (h.set i (.inr (ci, fs.set f v))) kc ks) : mx_X l E own cc nL rt nm R Qs n0 pc loc (v :: .ref i :: stk) h kc ks := by
  intro p e s m args below meth c dC dI cT A ad0 ad H locs ls hB ha hP hD hS hl
  obtain ⟨C, T, N, ty0, h1, h2, h3, h4, h5, h6, h7, h8, -⟩ := F
  refine va_put (D := (dC, dI)) (ci := ci) (v := mx_v ad v) (ty := ty) (C := C) (T := T) (N := N) (fs := fs.map (mx_v ad)) hB.1 hB.2.1 hB.2.2.2.2.2.2.2.1 h2 ty0 h5 h7 hB.2.2.2.2.2.2.1 hB.2.2.2.2.2.2.2.2.1 hP hD hS i (mx_wat he) h1 f h3 (hB.2.2.2.2.2.2.2.1 _ h4) (fun _ h9 => h9) h8 (by rw [h5 f h3, h6]) (hn ad) (hfit ad) (by simp [hf]) d (fun H locs hP hD hS => ?_)
  have e9 : (Sum.inr (ci, (fs.map (mx_v ad)).set f (mx_v ad v)) : va_E) = mx_c cT ad (.inr (ci, fs.set f v)) := by simp [mx_c, List.map_set]
  rw [e9, mx_wset] at hP hD
  exact k p e s m args below meth c dC dI cT A ad0 ad H locs ls hB ha hP hD hS hl
theorem mx_putF {index ci f i : Nat} {ty : FieldType} {fs : List Value} {v : Value} (hnm : nm = "<init>") (F : mx_F own index ci f ty true) (he : h[i]? = some (.inr (ci, fs))) (hf : f < fs.length) (hn : ∀ a, narrow ty (mx_v a v) = mx_v a v) (hfit : ∀ a, fits ty (mx_v a v) = true) (d : decode cc pc = .ok (.putfield index, 3)) (k : mx_X l E own cc nL rt nm R Qs n0 (pc + 3) loc stk (h.set i (.inr (ci, fs.set f v))) kc ks) : mx_X l E own cc nL rt nm R Qs n0 pc loc (v :: .ref i :: stk) h kc ks := by
  intro p e s m args below meth c dC dI cT A ad0 ad H locs ls hB ha hP hD hS hl
  obtain ⟨C, T, N, ty0, h1, h2, h3, h4, h5, h6, h7, h8, h10⟩ := F
  refine va_putF (D := (dC, dI)) (ci := ci) (v := mx_v ad v) (ty := ty) (C := C) (T := T) (N := N) (fs := fs.map (mx_v ad)) hB.1 hB.2.1 hB.2.2.2.2.2.2.2.1 h2 ty0 h5 h7 hB.2.2.2.2.2.2.1 hB.2.2.2.2.2.2.2.2.1 hP hD hS i (mx_wat he) h1 f h3 (hB.2.2.2.2.2.2.2.1 _ h4) (fun _ h9 => h9) h8 (hB.2.2.2.2.1.trans hnm) (h10 rfl) (by rw [h5 f h3, h6]) (hn ad) (hfit ad) (by simp [hf]) d (fun H locs hP hD hS => ?_)
  have e9 : (Sum.inr (ci, (fs.map (mx_v ad)).set f (mx_v ad v)) : va_E) = mx_c cT ad (.inr (ci, fs.set f v)) := by simp [mx_c, List.map_set]
  rw [e9, mx_wset] at hP hD
  exact k p e s m args below meth c dC dI cT A ad0 ad H locs ls hB ha hP hD hS hl
theorem mx_iald {i n : Nat} {f : Nat → Int32} {j : Int32} (he : h[i]? = some (.inl (.int, n, .inl f))) (hj : vp_in j n) (d : decode cc pc = .ok (.iaload, 1)) (k : mx_X l E own cc nL rt nm R Qs n0 (pc + 1) loc (.int (f j.toNatClampNeg) :: stk) h kc ks) : mx_X l E own cc nL rt nm R Qs n0 pc loc (.int j :: .ref i :: stk) h kc ks := by
  intro p e s m args below meth c dC dI cT A ad0 ad H locs ls hB ha hP hD hS hl
  exact va_iald hB.1 hB.2.1 hB.2.2.2.2.2.2.2.2.1 hP i 0 (mx_wat he) rfl hj d (k p e s m args below meth c dC dI cT A ad0 ad H locs ls hB ha hP hD hS hl)
theorem mx_zald {i n : Nat} {f : Nat → Int32} {j : Int32} (he : h[i]? = some (.inl (.boolean, n, .inl f))) (hj : vp_in j n) (d : decode cc pc = .ok (.baload, 1)) (k : mx_X l E own cc nL rt nm R Qs n0 (pc + 1) loc (.int (f j.toNatClampNeg) :: stk) h kc ks) : mx_X l E own cc nL rt nm R Qs n0 pc loc (.int j :: .ref i :: stk) h kc ks := by
  intro p e s m args below meth c dC dI cT A ad0 ad H locs ls hB ha hP hD hS hl
  exact va_zald hB.1 hB.2.1 hB.2.2.2.2.2.2.2.2.1 hP i 2 (mx_wat he) rfl hj d (k p e s m args below meth c dC dI cT A ad0 ad H locs ls hB ha hP hD hS hl)
theorem mx_lald {i n : Nat} {f : Nat → Int64} {j : Int32} (he : h[i]? = some (.inl (.long, n, .inr (.inl f)))) (hj : vp_in j n) (d : decode cc pc = .ok (.laload, 1)) (k : mx_X l E own cc nL rt nm R Qs n0 (pc + 1) loc (.long (f j.toNatClampNeg) :: stk) h kc ks) : mx_X l E own cc nL rt nm R Qs n0 pc loc (.int j :: .ref i :: stk) h kc ks := by
  intro p e s m args below meth c dC dI cT A ad0 ad H locs ls hB ha hP hD hS hl
  exact va_lald hB.1 hB.2.1 hB.2.2.2.2.2.2.2.2.1 hP i 1 (mx_wat he) rfl hj d (k p e s m args below meth c dC dI cT A ad0 ad H locs ls hB ha hP hD hS hl)
theorem mx_iast {i n : Nat} {f : Nat → Int32} {j : Int32} {x : Int32} (he : h[i]? = some (.inl (.int, n, .inl f))) (hj : vp_in j n) (d : decode cc pc = .ok (.iastore, 1)) (k : mx_X l E own cc nL rt nm R Qs n0 (pc + 1) loc stk (h.set i (.inl (.int, n, .inl (upd f j.toNatClampNeg (x))))) kc ks) : mx_X l E own cc nL rt nm R Qs n0 pc loc (.int x :: .int j :: .ref i :: stk) h kc ks := by
  intro p e s m args below meth c dC dI cT A ad0 ad H locs ls hB ha hP hD hS hl
  refine va_iast hB.1 hB.2.1 hB.2.2.2.2.2.2.2.2.1 hP hD hS i 0 (mx_wat he) rfl hj d (fun H locs hP hD hS => ?_)
  have hP : va_P (dC, dI) vwCl ((mx_w cT ad h).set i (ad i, mx_c cT ad (.inl (.int, n, .inl (upd f j.toNatClampNeg (x)))))) H := hP
  have hD : va_D A ((mx_w cT ad h).set i (ad i, mx_c cT ad (.inl (.int, n, .inl (upd f j.toNatClampNeg (x)))))) := hD
  rw [mx_wset] at hP hD
  exact k p e s m args below meth c dC dI cT A ad0 ad H locs ls hB ha hP hD hS hl
theorem mx_zast {i n : Nat} {f : Nat → Int32} {j : Int32} {x : Int32} (he : h[i]? = some (.inl (.boolean, n, .inl f))) (hj : vp_in j n) (d : decode cc pc = .ok (.bastore, 1)) (k : mx_X l E own cc nL rt nm R Qs n0 (pc + 1) loc stk (h.set i (.inl (.boolean, n, .inl (upd f j.toNatClampNeg (vp_nar .boolean x))))) kc ks) : mx_X l E own cc nL rt nm R Qs n0 pc loc (.int x :: .int j :: .ref i :: stk) h kc ks := by
  intro p e s m args below meth c dC dI cT A ad0 ad H locs ls hB ha hP hD hS hl
  refine va_zast hB.1 hB.2.1 hB.2.2.2.2.2.2.2.2.1 hP hD hS i 2 (mx_wat he) rfl hj d (fun H locs hP hD hS => ?_)
  have hP : va_P (dC, dI) vwCl ((mx_w cT ad h).set i (ad i, mx_c cT ad (.inl (.boolean, n, .inl (upd f j.toNatClampNeg (vp_nar .boolean x)))))) H := hP
  have hD : va_D A ((mx_w cT ad h).set i (ad i, mx_c cT ad (.inl (.boolean, n, .inl (upd f j.toNatClampNeg (vp_nar .boolean x)))))) := hD
  rw [mx_wset] at hP hD
  exact k p e s m args below meth c dC dI cT A ad0 ad H locs ls hB ha hP hD hS hl
theorem mx_last {i n : Nat} {f : Nat → Int64} {j : Int32} {x : Int64} (he : h[i]? = some (.inl (.long, n, .inr (.inl f)))) (hj : vp_in j n) (d : decode cc pc = .ok (.lastore, 1)) (k : mx_X l E own cc nL rt nm R Qs n0 (pc + 1) loc stk (h.set i (.inl (.long, n, .inr (.inl (vp_updL f j.toNatClampNeg x))))) kc ks) : mx_X l E own cc nL rt nm R Qs n0 pc loc (.long x :: .int j :: .ref i :: stk) h kc ks := by
  intro p e s m args below meth c dC dI cT A ad0 ad H locs ls hB ha hP hD hS hl
  refine va_last hB.1 hB.2.1 hB.2.2.2.2.2.2.2.2.1 hP hD hS i 1 (mx_wat he) rfl hj d (fun H locs hP hD hS => ?_)
  have hP : va_P (dC, dI) vwCl ((mx_w cT ad h).set i (ad i, mx_c cT ad (.inl (.long, n, .inr (.inl (vp_updL f j.toNatClampNeg x)))))) H := hP
  have hD : va_D A ((mx_w cT ad h).set i (ad i, mx_c cT ad (.inl (.long, n, .inr (.inl (vp_updL f j.toNatClampNeg x)))))) := hD
  rw [mx_wset] at hP hD
  exact k p e s m args below meth c dC dI cT A ad0 ad H locs ls hB ha hP hD hS hl
theorem mx_alen {i : Nat} {t : FieldType} {a : vp_A} (v : Int32) (he : h[i]? = some (.inl (t, a))) (z : Nat) (hz : ∀ cT, (mx_tys cT)[z]? = some (cT t, t)) (hv : Int32.ofNat a.1 = v) (d : decode cc pc = .ok (.arraylength, 1)) (k : mx_X l E own cc nL rt nm R Qs n0 (pc + 1) loc (.int v :: stk) h kc ks) : mx_X l E own cc nL rt nm R Qs n0 pc loc (.ref i :: stk) h kc ks := by
  intro p e s m args below meth c dC dI cT A ad0 ad H locs ls hB ha hP hD hS hl
  exact va_alen hB.1 hB.2.1 hB.2.2.2.2.2.2.2.2.1 hP i z (mx_wat he) (hz cT) hv d (k p e s m args below meth c dC dI cT A ad0 ad H locs ls hB ha hP hD hS hl)
end MX
end
section
/-! CALLS: a method's contract over the picture (mx_M), its start, its ends, a call of each kind, new cells -/
def mx_nestL : List (String × Nat × MethodName × String) := [("PolicyRoutes", 18, ⟨"PolicyRoutes$Past", "<init>", "()V"⟩, "PolicyRoutes"), ("PolicyRoutes", 35, ⟨"PolicyRoutes$Choice", "<init>", "()V"⟩, "PolicyRoutes"), ("PolicyRoutes", 42, ⟨"PolicyRoutes$Ways", "<init>", "()V"⟩, "PolicyRoutes"), ("PolicyRoutes", 49, ⟨"PolicyRoutes$Rings", "<init>", "()V"⟩, "PolicyRoutes"), ("PolicyRoutes", 56, ⟨"PolicyRoutes$Rests", "<init>", "()V"⟩, "PolicyRoutes"), ("PolicyRoutes", 63, ⟨"PolicyRoutes$Foresight", "<init>", "()V"⟩, "PolicyRoutes"), ("PolicyRoutes", 70, ⟨"PolicyRoutes$Tape", "<init>", "()V"⟩, "PolicyRoutes"), ("PolicyRoutes", 77, ⟨"PolicyRoutes$Sheets", "<init>", "()V"⟩, "PolicyRoutes"), ("PolicyRoutes$Choice", 48, ⟨"PolicyRoutes", "figuresOf", "(I)I"⟩, "PolicyRoutes"), ("PolicyRoutes", 252, ⟨"PolicyRoutes$Odds", "lasting", "(LPolicyRoutes$Ways;IIIII)J"⟩, "PolicyRoutes")]
def mx_pow (j : Nat) : Value := .long (Int64.ofNat (10 ^ j))
def mx_E0 : mx_E := fun s A => (∀ q ∈ mx_nestL, va_Nw (.methodLinkNest q.1 q.2.1 q.2.2.1 q.2.2.2) s) ∧ ∃ t : Nat, va_Z "PolicyRoutes$Odds" "TENS" "[J" (.ref t) A s s.heap ∧ va_T .long t 16 mx_pow A s s.heap
theorem mx_E0_to {s U : State} {A A' : Nat → Prop} {H : Heap} {locs : List Loc} (h : mx_E0 s A) (hS : va_S A s.heap H locs) (hU : U.heap = H) (hW : s.WarmedH U.vm) (hA : ∀ q, A' q → A q) : mx_E0 U A' := by
  obtain ⟨h1, t, h2, h3⟩ := h
  refine ⟨fun q hq => (h1 q hq).warmM hW, t, ?_, ?_⟩
  · rw [hU]; exact ((h2.kept hS.2.1).moved hW.alike).narrow hA
  · rw [hU]; exact ((h3.kept hS.2.1).moved hW.alike).narrow hA
theorem mx_E0_bl {U : State} {A : Nat → Prop} (g : JFrame) (mk : MethodId) (a : Array Value) (h : mx_E0 U A) : mx_E0 (U.calling g mk a) A := by
  obtain ⟨h1, t, h2, h3⟩ := h
  refine ⟨fun q hq => (h1 q hq).same rfl rfl, t, ?_, ?_⟩
  · exact h2.moved (u := U) (U := U.calling g mk a) (Vm.Alike.refl U.vm)
  · exact h3.moved (u := U) (U := U.calling g mk a) (Vm.Alike.refl U.vm)
def mx_ws (y : MethodName) (cc : ByteArray) (nL : Nat) (rt : Option FieldType) : List Cond := .code y cc nL rt :: mx_T
def mx_rm (d mc ms : Nat) : Room := { frames := d, cells := mc, slots := ms, locals := 40 * d }
def mx_Q (dC : Nat → ClassId) (dI : Nat → Nat → Nat) (cT : FieldType → ClassId) (ad : Nat → Nat) (n0 : Nat) (r : Option Value) (h' : List mx_C) (A : Nat → Prop) : Array Value → State → Outcome → State → Prop := match r with
  | some (.int x) => va_Qi (fun (r : Int32) (u : Nat → Nat) => r = x ∧ ∀ i : Nat, i < n0 → u i = ad i) (fun u t => va_P (dC, dI) vwCl (mx_w cT u h') t.heap ∧ va_D A (mx_w cT u h')) A
  | some (.long x) => va_Ql (fun (r : Int64) (u : Nat → Nat) => r = x ∧ ∀ i : Nat, i < n0 → u i = ad i) (fun u t => va_P (dC, dI) vwCl (mx_w cT u h') t.heap ∧ va_D A (mx_w cT u h')) A
  | none => va_Qv (fun (u : Nat → Nat) => ∀ i : Nat, i < n0 → u i = ad i) (fun u t => va_P (dC, dI) vwCl (mx_w cT u h') t.heap ∧ va_D A (mx_w cT u h')) A
  | _ => fun _ _ _ _ => False
def mx_Pc (dC : Nat → ClassId) (dI : Nat → Nat → Nat) (cT : FieldType → ClassId) (ad : Nat → Nat) (sz : Nat) (args : List Value) (h : List mx_C) : Array Value → State → Prop := va_Pc (args.map (mx_v ad)) (fun U => U.heap.size = sz ∧ va_P (dC, dI) vwCl (mx_w cT ad h) U.heap ∧ va_K (dC, dI) vwCl (mx_tys cT) U ∧ va_D (fun _ => True) (mx_w cT ad h) ∧ mx_E0 U (va_A (mx_w cT ad h) sz))
def mx_M (l : Launch) (y : MethodName) (cc : ByteArray) (nL : Nat) (rt : Option FieldType) (d : Nat) (args : List Value) (h : List mx_C) (r : Option Value) (h' : List mx_C) (mc ms : Nat) : Prop := ∀ (dC : Nat → ClassId) (dI : Nat → Nat → Nat) (cT : FieldType → ClassId) (ad : Nat → Nat) (sz : Nat),
  Met l y (mx_ws y cc nL rt) (mx_rm d mc ms) (mx_Pc dC dI cT ad sz args h) (mx_Q dC dI cT ad h.length r h' (va_A (mx_w cT ad h) sz)) mc ms (va_A (mx_w cT ad h) sz)
def mx_Qm (n0 : Nat) (r : Option Value) (h' : List mx_C) (mc ms : Nat) : mx_Qt := fun below args s A dC dI cT ad0 => MQ below (mx_Q dC dI cT ad0 n0 r h' A) args s mc ms A
theorem mx_args (ad : Nat → Nat) (vs : List Value) : ∀ i, lv_args i (vs.map (mx_v ad)) = mx_l ad (lv_args i vs) := by
  induction vs with
  | nil => intro i; rfl
  | cons v vs ih =>
    intro i
    simp only [List.map_cons, lv_args, mx_cat, mx_l] at ih ⊢
    rw [ih]
theorem mx_sl (ad : Nat → Nat) (vs : List Value) : (lg_sl (vs.map (mx_v ad))).length = (lg_sl vs).length := by
  induction vs with
  | nil => rfl
  | cons v vs ih =>
    simp only [List.map_cons, lg_sl, List.flatMap_cons, List.length_append, mx_cat] at ih ⊢
    rw [ih]
    congr 1
    split <;> rfl
theorem mx_intro {l : Launch} {y : MethodName} {cc : ByteArray} {nL : Nat} {rt : Option FieldType} {d : Nat} {args : List Value} {h : List mx_C} {r : Option Value} {h' : List mx_C} {mc ms : Nat} (hy : plainName y.cls = true) (hn : (lg_sl args).length ≤ nL) {own nm : String} (ho : y.cls = own) (hm : y.name = nm) (k : mx_X l mx_E0 own cc nL rt nm (mx_rm d mc ms) (mx_Qm h.length r h' mc ms) h.length 0 (lv_args 0 args) [] h 0 0) : mx_M l y cc nL rt d args h r h' mc ms := by
  intro dC dI cT ad sz
  refine Met.ofW (cc := cc) (maxL := nL) (ret := rt) hy rfl ?_
  intro p e s m args' below meth c s₁ B hml hv
  obtain ⟨rfl, hsz, hP, hK, hD0, hE⟩ := hv
  subst ho; subst hm
  have hts := atoms_spec (ws := mx_ws y cc nL rt) B.pre
  have hown : s.vm.findClass y.cls = some m.cls := findClass_of_methodNamed B.named
  have hin : meth.name = y.name := (name_of_methodNamed B.named B.method).1
  subst hsz
  have hD := hD0.self (sz := s.heap.size)
  have hl := lv_entry (args.map (mx_v ad)) (n := nL) (by rw [mx_sl]; exact hn)
  rw [mx_args] at hl
  rw [lg_entry_eq]
  exact k p e s m _ below meth c dC dI cT _ ad ad s.heap [] _ ⟨B.exec, B.bytes, hml, B.returns, hin, B.notSynchronized, hown, fun w hw => hts w (List.mem_cons_of_mem _ hw), hK, fun q hq => Or.inr hq, hE⟩ (fun _ _ => rfl) hP hD va_S.rf hl
section MC
variable {l : Launch} {E : mx_E} {own : String} {cc : ByteArray} {nL : Nat} {rt : Option FieldType} {nm : String} {R : Room} {Qs : mx_Qt} {n0 pc : Nat} {loc : List (Nat × Value)} {stk : List Value} {h : List mx_C} {kc ks mc ms : Nat}
theorem mx_iret {x : Int32} (hk : kc ≤ mc) (hs : ks ≤ ms) (d : decode cc pc = .ok (.ireturn, 1)) : mx_X l E own cc nL (some .int) nm R (mx_Qm n0 (some (.int x)) h mc ms) n0 pc loc [.int x] h kc ks := by
  intro p e s m args below meth c dC dI cT A ad0 ad H locs ls hB ha hP hD hS hl
  exact W.widen hk hs (W.iret (v := x) hB.1 hB.2.1 hB.2.2.2.1 (fun t ht hW => ⟨⟨x, ad, rfl, ⟨rfl, ha⟩, by rw [ht]; exact hP, hD⟩, hS.F ht⟩) hS.2.2 d hB.2.2.2.2.2.1)
theorem mx_zret {x : Int32} (hx : x &&& 1 = x) (hk : kc ≤ mc) (hs : ks ≤ ms) (d : decode cc pc = .ok (.ireturn, 1)) : mx_X l E own cc nL (some .boolean) nm R (mx_Qm n0 (some (.int x)) h mc ms) n0 pc loc [.int x] h kc ks := by
  intro p e s m args below meth c dC dI cT A ad0 ad H locs ls hB ha hP hD hS hl
  exact W.widen hk hs (W.zret (v := x) hB.1 hB.2.1 hB.2.2.2.1 (by show Value.int (x &&& 1) = _; rw [hx]) (fun t ht hW => ⟨⟨x, ad, rfl, ⟨rfl, ha⟩, by rw [ht]; exact hP, hD⟩, hS.F ht⟩) hS.2.2 d hB.2.2.2.2.2.1)
theorem mx_lret {x : Int64} (hk : kc ≤ mc) (hs : ks ≤ ms) (d : decode cc pc = .ok (.lreturn, 1)) : mx_X l E own cc nL (some .long) nm R (mx_Qm n0 (some (.long x)) h mc ms) n0 pc loc [.long x] h kc ks := by
  intro p e s m args below meth c dC dI cT A ad0 ad H locs ls hB ha hP hD hS hl
  exact W.widen hk hs (W.lret (v := x) hB.1 hB.2.1 hB.2.2.2.1 (fun t ht hW => ⟨⟨x, ad, rfl, ⟨rfl, ha⟩, by rw [ht]; exact hP, hD⟩, hS.F ht⟩) hS.2.2 d hB.2.2.2.2.2.1)
theorem mx_vret (hk : kc ≤ mc) (hs : ks ≤ ms) (d : decode cc pc = .ok (.return_, 1)) : mx_X l E own cc nL none nm R (mx_Qm n0 none h mc ms) n0 pc loc [] h kc ks := by
  intro p e s m args below meth c dC dI cT A ad0 ad H locs ls hB ha hP hD hS hl
  exact W.widen hk hs (W.vret hB.1 hB.2.1 hB.2.2.2.1 (fun t ht hW => ⟨⟨ad, rfl, ha, by rw [ht]; exact hP, hD⟩, hS.F ht⟩) hS.2.2 d hB.2.2.2.2.2.1)
def mx_okV (n : Nat) (v : Value) : Bool := match v with
  | .ref i => Nat.blt i n
  | _ => true
theorem mx_okV_eq {n : Nat} {v : Value} {ad u : Nat → Nat} (hv : mx_okV n v = true) (hu : ∀ i : Nat, i < n → u i = ad i) : mx_v u v = mx_v ad v := by
  cases v with
  | ref i => show Value.ref (u i) = Value.ref (ad i); rw [hu i (by simpa [mx_okV] using hv)]
  | _ => rfl
theorem mx_okS {n : Nat} {vs : List Value} {ad u : Nat → Nat} (hv : vs.all (mx_okV n) = true) (hu : ∀ i : Nat, i < n → u i = ad i) : vs.map (mx_v u) = vs.map (mx_v ad) := by
  apply List.map_congr_left
  intro v h
  exact mx_okV_eq (List.all_eq_true.mp hv v h) hu
theorem mx_okL {n : Nat} {loc : List (Nat × Value)} {ad u : Nat → Nat} (hv : loc.all (fun q => mx_okV n q.2) = true) (hu : ∀ i : Nat, i < n → u i = ad i) : mx_l u loc = mx_l ad loc := by
  apply List.map_congr_left
  intro q h
  rw [mx_okV_eq (List.all_eq_true.mp hv q h) hu]
theorem mx_T_good : ∀ w ∈ mx_T, (w.onTables && w.keeps) = true ∨ ∃ ty, w = .arrayClass ty := fun w h => good_of_word (List.mem_filter.mp h).2
def mx_CS (own : String) (index : Nat) (y : MethodName) (cc : ByteArray) (nL : Nat) (rt : Option FieldType) (n : Nat) : Prop := Cond.methodLink own index y ∈ mx_T ∧ Cond.static y ∈ mx_T ∧ Cond.initialized y.cls ∈ mx_T ∧ Cond.code y cc nL rt ∈ mx_T ∧ (y.cls ≠ "java/lang/invoke/MethodHandle" ∧ y.cls ≠ "java/lang/invoke/VarHandle" ∧ (parseMethodDescriptor y.desc).map (fun d => d.parameters.length) = some n) ∧ nL ≤ 20
def mx_CV (own : String) (index : Nat) (y : MethodName) (cc : ByteArray) (nL : Nat) (rt : Option FieldType) (n : Nat) : Prop := Cond.methodLink own index y ∈ mx_T ∧ Cond.instanceMethod y ∈ mx_T ∧ Cond.selects y.cls y y ∈ mx_T ∧ Cond.initialized y.cls ∈ mx_T ∧ Cond.code y cc nL rt ∈ mx_T ∧ (y.cls ≠ "java/lang/invoke/MethodHandle" ∧ y.cls ≠ "java/lang/invoke/VarHandle" ∧ (parseMethodDescriptor y.desc).map (fun d => d.parameters.length) = some n) ∧ nL ≤ 20
def mx_CI (own : String) (index : Nat) (y : MethodName) (cc : ByteArray) (nL : Nat) (n : Nat) : Prop := Cond.methodLink own index y ∈ mx_T ∧ Cond.instanceMethod y ∈ mx_T ∧ Cond.initialized y.cls ∈ mx_T ∧ Cond.code y cc nL none ∈ mx_T ∧ (y.cls ≠ "java/lang/invoke/MethodHandle" ∧ y.cls ≠ "java/lang/invoke/VarHandle" ∧ (parseMethodDescriptor y.desc).map (fun d => d.parameters.length) = some n) ∧ nL ≤ 20 ∧ y.name = "<init>"
def mx_CSN (own : String) (index : Nat) (y : MethodName) (host : String) (cc : ByteArray) (nL : Nat) (rt : Option FieldType) (n : Nat) : Prop := (own, index, y, host) ∈ mx_nestL ∧ Cond.static y ∈ mx_T ∧ Cond.initialized y.cls ∈ mx_T ∧ Cond.code y cc nL rt ∈ mx_T ∧ (y.cls ≠ "java/lang/invoke/MethodHandle" ∧ y.cls ≠ "java/lang/invoke/VarHandle" ∧ (parseMethodDescriptor y.desc).map (fun d => d.parameters.length) = some n) ∧ nL ≤ 20
def mx_CIN (own : String) (index : Nat) (y : MethodName) (host : String) (cc : ByteArray) (nL : Nat) (n : Nat) : Prop := (own, index, y, host) ∈ mx_nestL ∧ Cond.instanceMethod y ∈ mx_T ∧ Cond.initialized y.cls ∈ mx_T ∧ Cond.code y cc nL none ∈ mx_T ∧ (y.cls ≠ "java/lang/invoke/MethodHandle" ∧ y.cls ≠ "java/lang/invoke/VarHandle" ∧ (parseMethodDescriptor y.desc).map (fun d => d.parameters.length) = some n) ∧ nL ≤ 20 ∧ y.name = "<init>"
theorem mx_good {y : MethodName} {cc : ByteArray} {nL : Nat} {rt : Option FieldType} (h : Cond.code y cc nL rt ∈ mx_T) : GoodIn mx_T (mx_ws y cc nL rt) := fun w hw => by
  have hm : w ∈ mx_T := (List.mem_cons.mp hw).elim (fun e => e ▸ h) id
  exact ⟨hm, mx_T_good w hm⟩
theorem mx_goodA {a : List Cond} {y : MethodName} {cc : ByteArray} {nL : Nat} {rt : Option FieldType} (h : Cond.code y cc nL rt ∈ mx_T) (ha : ∀ w ∈ a, w ∈ mx_T) : GoodIn mx_T (a ++ mx_ws y cc nL rt) := fun w hw => (List.mem_append.mp hw).elim (fun h1 => ⟨ha w h1, mx_T_good w (ha w h1)⟩) (mx_good h w)
theorem mx_blind {dC : Nat → ClassId} {dI : Nat → Nat → Nat} {cT : FieldType → ClassId} {ad : Nat → Nat} {sz : Nat} {args : List Value} {h : List mx_C} : FrameBlind (mx_Pc dC dI cT ad sz args h) := fun a U g mk q => by
  obtain ⟨q0, q1, qP, qK, qD, qE⟩ := q
  exact ⟨q0, q1, qP, va_K.moved (u := U) (U := U.calling g mk a) (Vm.Alike.refl U.vm) qK, qD, mx_E0_bl g mk a qE⟩
theorem mx_pre {s : State} {dC : Nat → ClassId} {dI : Nat → Nat → Nat} {cT : FieldType → ClassId} {ad : Nat → Nat} {A : Nat → Prop} {args : List Value} {H : Heap} {locs : List Loc} (hE : mx_E0 s A) (hK : va_K (dC, dI) vwCl (mx_tys cT) s) (hA : ∀ q : Nat, s.heap.size ≤ q → A q) (hP : va_P (dC, dI) vwCl (mx_w cT ad h) H) (hD : va_D A (mx_w cT ad h)) (hS : va_S A s.heap H locs) : (∀ q, va_A (mx_w cT ad h) H.size q → A q) ∧ ∀ U : State, U.heap = H → s.WarmedH U.vm → mx_Pc dC dI cT ad H.size args h (args.map (mx_v ad)).toArray U := by
  have hF : ∀ q, va_A (mx_w cT ad h) H.size q → A q := by
    rintro q (⟨k, e, hk⟩ | hk)
    · exact hD.2 k (q, e) hk
    · exact hA q (Nat.le_trans hS.1 hk)
  exact ⟨hF, fun U hU hW => ⟨rfl, by rw [hU], by rw [hU]; exact hP, va_K.moved hW.alike hK, hD.weaken (fun _ _ _ _ => trivial), mx_E0_to hE hS hU hW hF⟩⟩
theorem mx_sum (ad : Nat → Nat) (vs : List Value) : ((vs.map (mx_v ad)).map fun v => v.category).sum = (vs.map fun v => v.category).sum := by
  rw [List.map_map]
  congr 1
  apply List.map_congr_left
  intro v _
  exact mx_cat ad v
theorem mx_rev (ad : Nat → Nat) (vs : List Value) : (vs.map (mx_v ad)).reverse = vs.reverse.map (mx_v ad) := by rw [List.map_reverse]
theorem mx_callVi {y : MethodName} {host : String} {ccy : ByteArray} {nLy index n dy i ci : Nat} {rty : Option FieldType} {fs As : List Value} {x : Int32} {h' : List mx_C} {st : List Value} (hE : ∀ (s : State) (A : Nat → Prop), E s A → mx_E0 s A) (M : mx_M l y ccy nLy rty dy (.ref i :: As) h (some (.int x)) h' mc ms) (Cw : mx_CV own index y ccy nLy rty n) (hst : st = As.reverse ++ .ref i :: stk) (hR : dy + 1 ≤ R.frames ∧ 40 * dy + 40 ≤ R.locals ∧ kc + mc ≤ R.cells ∧ ks + ms ≤ R.slots) (he : h[i]? = some (.inr (ci, fs))) (hc : (vwCl[ci]?).map (fun q => q.1) = some y.cls) (hn : As.length = n) (hw8 : (stk.map fun v => v.category).sum ≤ 8) (hn0 : n0 ≤ h.length) (okl : loc.all (fun q => mx_okV h.length q.2) = true) (oks : stk.all (mx_okV h.length) = true) (dd : decode cc pc = .ok (.invokevirtual index, 3)) (k : mx_X l E own cc nL rt nm R Qs n0 (pc + 3) loc (.int x :: stk) h' (kc + mc) (ks + ms)) : mx_X l E own cc nL rt nm R Qs n0 pc loc st h kc ks := by
  subst hst
  intro p e s m args below meth c dC dI cT A ad0 ad H locs ls hB ha hP hD hS hl
  obtain ⟨hx, hb, hml, hr, hnm, hlk, hown, hts, hK, hA, hE1⟩ := id hB
  obtain ⟨hF, hpre⟩ := mx_pre (args := (.ref i :: As)) (hE s A hE1) hK hA hP hD hS
  obtain ⟨w1, w2, w3, w4, w5, w6, w7⟩ := Cw
  cases hci : vwCl[ci]? with
  | none => rw [hci] at hc; cases hc
  | some qc =>
  rw [hci] at hc
  have hcl : qc.1 = y.cls := Option.some.inj hc
  refine va_calli (va_runV (As := As.map (mx_v ad)) (rest := stk.map (mx_v ad)) ⟨hx, hb, hml, hown, hts⟩ (M dC dI cT ad H.size) (cwV (C := y.cls) n hts (mx_goodA w5 (by intro w hw; simp only [List.mem_cons, List.not_mem_nil, or_false] at hw; rcases hw with rfl | rfl | rfl | rfl <;> assumption)) rfl rfl rfl ⟨rfl, w6⟩ ⟨hR.1, by have := hR.2.1; simp only [mx_rm]; omega⟩) ⟨mx_blind, by rw [← hcl]; exact va_recv hK hP hci (mx_wat he), hpre⟩ rfl (by rw [List.length_map]; exact hn) hl.1 (by rw [mx_rev]; simp [mx_v]) (lv_room (by rw [mx_sum]; exact hw8)) dd ⟨hR.2.2.1, hR.2.2.2⟩) hS (fun q _ h => hF q h) hF (fun r u t H1 locs1 ht hvm hw hB1 hz1 hk1 hS1 => ?_)
  obtain ⟨rfl, hag⟩ := hw
  obtain ⟨hP1, hD1⟩ := hB1
  rw [ht] at hP1
  have e1 := mx_okL okl hag
  have e2 := mx_okS oks hag
  have K := k p e s m args below meth c dC dI cT A ad0 u H1 locs1 ls hB (fun i hi => (hag i (Nat.lt_of_lt_of_le hi hn0)).trans (ha i hi)) hP1 (hD1.weaken (fun _ q _ hq => hF q.1 hq)) hS1 (by rw [e1]; exact hl)
  simp only [List.map_cons, e2, mx_v] at K
  exact K
theorem mx_callVl {y : MethodName} {host : String} {ccy : ByteArray} {nLy index n dy i ci : Nat} {rty : Option FieldType} {fs As : List Value} {x : Int64} {h' : List mx_C} {st : List Value} (hE : ∀ (s : State) (A : Nat → Prop), E s A → mx_E0 s A) (M : mx_M l y ccy nLy rty dy (.ref i :: As) h (some (.long x)) h' mc ms) (Cw : mx_CV own index y ccy nLy rty n) (hst : st = As.reverse ++ .ref i :: stk) (hR : dy + 1 ≤ R.frames ∧ 40 * dy + 40 ≤ R.locals ∧ kc + mc ≤ R.cells ∧ ks + ms ≤ R.slots) (he : h[i]? = some (.inr (ci, fs))) (hc : (vwCl[ci]?).map (fun q => q.1) = some y.cls) (hn : As.length = n) (hw8 : (stk.map fun v => v.category).sum ≤ 8) (hn0 : n0 ≤ h.length) (okl : loc.all (fun q => mx_okV h.length q.2) = true) (oks : stk.all (mx_okV h.length) = true) (dd : decode cc pc = .ok (.invokevirtual index, 3)) (k : mx_X l E own cc nL rt nm R Qs n0 (pc + 3) loc (.long x :: stk) h' (kc + mc) (ks + ms)) : mx_X l E own cc nL rt nm R Qs n0 pc loc st h kc ks := by
  subst hst
  intro p e s m args below meth c dC dI cT A ad0 ad H locs ls hB ha hP hD hS hl
  obtain ⟨hx, hb, hml, hr, hnm, hlk, hown, hts, hK, hA, hE1⟩ := id hB
  obtain ⟨hF, hpre⟩ := mx_pre (args := (.ref i :: As)) (hE s A hE1) hK hA hP hD hS
  obtain ⟨w1, w2, w3, w4, w5, w6, w7⟩ := Cw
  cases hci : vwCl[ci]? with
  | none => rw [hci] at hc; cases hc
  | some qc =>
  rw [hci] at hc
  have hcl : qc.1 = y.cls := Option.some.inj hc
  refine va_calll (va_runV (As := As.map (mx_v ad)) (rest := stk.map (mx_v ad)) ⟨hx, hb, hml, hown, hts⟩ (M dC dI cT ad H.size) (cwV (C := y.cls) n hts (mx_goodA w5 (by intro w hw; simp only [List.mem_cons, List.not_mem_nil, or_false] at hw; rcases hw with rfl | rfl | rfl | rfl <;> assumption)) rfl rfl rfl ⟨rfl, w6⟩ ⟨hR.1, by have := hR.2.1; simp only [mx_rm]; omega⟩) ⟨mx_blind, by rw [← hcl]; exact va_recv hK hP hci (mx_wat he), hpre⟩ rfl (by rw [List.length_map]; exact hn) hl.1 (by rw [mx_rev]; simp [mx_v]) (lv_room (by rw [mx_sum]; exact hw8)) dd ⟨hR.2.2.1, hR.2.2.2⟩) hS (fun q _ h => hF q h) hF (fun r u t H1 locs1 ht hvm hw hB1 hz1 hk1 hS1 => ?_)
  obtain ⟨rfl, hag⟩ := hw
  obtain ⟨hP1, hD1⟩ := hB1
  rw [ht] at hP1
  have e1 := mx_okL okl hag
  have e2 := mx_okS oks hag
  have K := k p e s m args below meth c dC dI cT A ad0 u H1 locs1 ls hB (fun i hi => (hag i (Nat.lt_of_lt_of_le hi hn0)).trans (ha i hi)) hP1 (hD1.weaken (fun _ q _ hq => hF q.1 hq)) hS1 (by rw [e1]; exact hl)
  simp only [List.map_cons, e2, mx_v] at K
  exact K
theorem mx_callVv {y : MethodName} {host : String} {ccy : ByteArray} {nLy index n dy i ci : Nat} {rty : Option FieldType} {fs As : List Value}  {h' : List mx_C} {st : List Value} (hE : ∀ (s : State) (A : Nat → Prop), E s A → mx_E0 s A) (M : mx_M l y ccy nLy rty dy (.ref i :: As) h none h' mc ms) (Cw : mx_CV own index y ccy nLy rty n) (hst : st = As.reverse ++ .ref i :: stk) (hR : dy + 1 ≤ R.frames ∧ 40 * dy + 40 ≤ R.locals ∧ kc + mc ≤ R.cells ∧ ks + ms ≤ R.slots) (he : h[i]? = some (.inr (ci, fs))) (hc : (vwCl[ci]?).map (fun q => q.1) = some y.cls) (hn : As.length = n) (hw8 : (stk.map fun v => v.category).sum ≤ 8) (hn0 : n0 ≤ h.length) (okl : loc.all (fun q => mx_okV h.length q.2) = true) (oks : stk.all (mx_okV h.length) = true) (dd : decode cc pc = .ok (.invokevirtual index, 3)) (k : mx_X l E own cc nL rt nm R Qs n0 (pc + 3) loc (stk) h' (kc + mc) (ks + ms)) : mx_X l E own cc nL rt nm R Qs n0 pc loc st h kc ks := by
  subst hst
  intro p e s m args below meth c dC dI cT A ad0 ad H locs ls hB ha hP hD hS hl
  obtain ⟨hx, hb, hml, hr, hnm, hlk, hown, hts, hK, hA, hE1⟩ := id hB
  obtain ⟨hF, hpre⟩ := mx_pre (args := (.ref i :: As)) (hE s A hE1) hK hA hP hD hS
  obtain ⟨w1, w2, w3, w4, w5, w6, w7⟩ := Cw
  cases hci : vwCl[ci]? with
  | none => rw [hci] at hc; cases hc
  | some qc =>
  rw [hci] at hc
  have hcl : qc.1 = y.cls := Option.some.inj hc
  refine va_callv (va_runV (As := As.map (mx_v ad)) (rest := stk.map (mx_v ad)) ⟨hx, hb, hml, hown, hts⟩ (M dC dI cT ad H.size) (cwV (C := y.cls) n hts (mx_goodA w5 (by intro w hw; simp only [List.mem_cons, List.not_mem_nil, or_false] at hw; rcases hw with rfl | rfl | rfl | rfl <;> assumption)) rfl rfl rfl ⟨rfl, w6⟩ ⟨hR.1, by have := hR.2.1; simp only [mx_rm]; omega⟩) ⟨mx_blind, by rw [← hcl]; exact va_recv hK hP hci (mx_wat he), hpre⟩ rfl (by rw [List.length_map]; exact hn) hl.1 (by rw [mx_rev]; simp [mx_v]) (lv_room (by rw [mx_sum]; exact hw8)) dd ⟨hR.2.2.1, hR.2.2.2⟩) hS (fun q _ h => hF q h) hF (fun u t H1 locs1 ht hvm hw hB1 hz1 hk1 hS1 => ?_)
  have hag := hw
  obtain ⟨hP1, hD1⟩ := hB1
  rw [ht] at hP1
  have e1 := mx_okL okl hag
  have e2 := mx_okS oks hag
  have K := k p e s m args below meth c dC dI cT A ad0 u H1 locs1 ls hB (fun i hi => (hag i (Nat.lt_of_lt_of_le hi hn0)).trans (ha i hi)) hP1 (hD1.weaken (fun _ q _ hq => hF q.1 hq)) hS1 (by rw [e1]; exact hl)
  simp only [List.map_cons, e2, mx_v] at K
  exact K
theorem mx_callSi {y : MethodName} {host : String} {ccy : ByteArray} {nLy index n dy i ci : Nat} {rty : Option FieldType} {fs As : List Value} {x : Int32} {h' : List mx_C} {st : List Value} (hE : ∀ (s : State) (A : Nat → Prop), E s A → mx_E0 s A) (M : mx_M l y ccy nLy rty dy As h (some (.int x)) h' mc ms) (Cw : mx_CS own index y ccy nLy rty n) (hst : st = As.reverse ++ stk) (hR : dy + 1 ≤ R.frames ∧ 40 * dy + 40 ≤ R.locals ∧ kc + mc ≤ R.cells ∧ ks + ms ≤ R.slots) (hn : As.length = n) (hw8 : (stk.map fun v => v.category).sum ≤ 8) (hn0 : n0 ≤ h.length) (okl : loc.all (fun q => mx_okV h.length q.2) = true) (oks : stk.all (mx_okV h.length) = true) (dd : decode cc pc = .ok (.invokestatic index, 3)) (k : mx_X l E own cc nL rt nm R Qs n0 (pc + 3) loc (.int x :: stk) h' (kc + mc) (ks + ms)) : mx_X l E own cc nL rt nm R Qs n0 pc loc st h kc ks := by
  subst hst
  intro p e s m args below meth c dC dI cT A ad0 ad H locs ls hB ha hP hD hS hl
  obtain ⟨hx, hb, hml, hr, hnm, hlk, hown, hts, hK, hA, hE1⟩ := id hB
  obtain ⟨hF, hpre⟩ := mx_pre (args := As) (hE s A hE1) hK hA hP hD hS
  obtain ⟨w1, w2, w4, w5, w6, w7⟩ := Cw
  refine va_calli (va_runS (As := As.map (mx_v ad)) (rest := stk.map (mx_v ad)) ⟨hx, hb, hml, hown, hts⟩ (M dC dI cT ad H.size) (va_cwS n hts (mx_goodA w5 (by intro w hw; simp only [List.mem_cons, List.not_mem_nil, or_false] at hw; rcases hw with rfl | rfl | rfl <;> assumption)) rfl rfl rfl w6 ⟨hR.1, by have := hR.2.1; simp only [mx_rm]; omega⟩) ⟨mx_blind, hpre⟩ rfl (by rw [List.length_map]; exact hn) hl.1 (by rw [mx_rev]; simp [mx_v]) (lv_room (by rw [mx_sum]; exact hw8)) dd ⟨hR.2.2.1, hR.2.2.2⟩) hS (fun q _ h => hF q h) hF (fun r u t H1 locs1 ht hvm hw hB1 hz1 hk1 hS1 => ?_)
  obtain ⟨rfl, hag⟩ := hw
  obtain ⟨hP1, hD1⟩ := hB1
  rw [ht] at hP1
  have e1 := mx_okL okl hag
  have e2 := mx_okS oks hag
  have K := k p e s m args below meth c dC dI cT A ad0 u H1 locs1 ls hB (fun i hi => (hag i (Nat.lt_of_lt_of_le hi hn0)).trans (ha i hi)) hP1 (hD1.weaken (fun _ q _ hq => hF q.1 hq)) hS1 (by rw [e1]; exact hl)
  simp only [List.map_cons, e2, mx_v] at K
  exact K
theorem mx_callSl {y : MethodName} {host : String} {ccy : ByteArray} {nLy index n dy i ci : Nat} {rty : Option FieldType} {fs As : List Value} {x : Int64} {h' : List mx_C} {st : List Value} (hE : ∀ (s : State) (A : Nat → Prop), E s A → mx_E0 s A) (M : mx_M l y ccy nLy rty dy As h (some (.long x)) h' mc ms) (Cw : mx_CS own index y ccy nLy rty n) (hst : st = As.reverse ++ stk) (hR : dy + 1 ≤ R.frames ∧ 40 * dy + 40 ≤ R.locals ∧ kc + mc ≤ R.cells ∧ ks + ms ≤ R.slots) (hn : As.length = n) (hw8 : (stk.map fun v => v.category).sum ≤ 8) (hn0 : n0 ≤ h.length) (okl : loc.all (fun q => mx_okV h.length q.2) = true) (oks : stk.all (mx_okV h.length) = true) (dd : decode cc pc = .ok (.invokestatic index, 3)) (k : mx_X l E own cc nL rt nm R Qs n0 (pc + 3) loc (.long x :: stk) h' (kc + mc) (ks + ms)) : mx_X l E own cc nL rt nm R Qs n0 pc loc st h kc ks := by
  subst hst
  intro p e s m args below meth c dC dI cT A ad0 ad H locs ls hB ha hP hD hS hl
  obtain ⟨hx, hb, hml, hr, hnm, hlk, hown, hts, hK, hA, hE1⟩ := id hB
  obtain ⟨hF, hpre⟩ := mx_pre (args := As) (hE s A hE1) hK hA hP hD hS
  obtain ⟨w1, w2, w4, w5, w6, w7⟩ := Cw
  refine va_calll (va_runS (As := As.map (mx_v ad)) (rest := stk.map (mx_v ad)) ⟨hx, hb, hml, hown, hts⟩ (M dC dI cT ad H.size) (va_cwS n hts (mx_goodA w5 (by intro w hw; simp only [List.mem_cons, List.not_mem_nil, or_false] at hw; rcases hw with rfl | rfl | rfl <;> assumption)) rfl rfl rfl w6 ⟨hR.1, by have := hR.2.1; simp only [mx_rm]; omega⟩) ⟨mx_blind, hpre⟩ rfl (by rw [List.length_map]; exact hn) hl.1 (by rw [mx_rev]; simp [mx_v]) (lv_room (by rw [mx_sum]; exact hw8)) dd ⟨hR.2.2.1, hR.2.2.2⟩) hS (fun q _ h => hF q h) hF (fun r u t H1 locs1 ht hvm hw hB1 hz1 hk1 hS1 => ?_)
  obtain ⟨rfl, hag⟩ := hw
  obtain ⟨hP1, hD1⟩ := hB1
  rw [ht] at hP1
  have e1 := mx_okL okl hag
  have e2 := mx_okS oks hag
  have K := k p e s m args below meth c dC dI cT A ad0 u H1 locs1 ls hB (fun i hi => (hag i (Nat.lt_of_lt_of_le hi hn0)).trans (ha i hi)) hP1 (hD1.weaken (fun _ q _ hq => hF q.1 hq)) hS1 (by rw [e1]; exact hl)
  simp only [List.map_cons, e2, mx_v] at K
  exact K
theorem mx_callSv {y : MethodName} {host : String} {ccy : ByteArray} {nLy index n dy i ci : Nat} {rty : Option FieldType} {fs As : List Value}  {h' : List mx_C} {st : List Value} (hE : ∀ (s : State) (A : Nat → Prop), E s A → mx_E0 s A) (M : mx_M l y ccy nLy rty dy As h none h' mc ms) (Cw : mx_CS own index y ccy nLy rty n) (hst : st = As.reverse ++ stk) (hR : dy + 1 ≤ R.frames ∧ 40 * dy + 40 ≤ R.locals ∧ kc + mc ≤ R.cells ∧ ks + ms ≤ R.slots) (hn : As.length = n) (hw8 : (stk.map fun v => v.category).sum ≤ 8) (hn0 : n0 ≤ h.length) (okl : loc.all (fun q => mx_okV h.length q.2) = true) (oks : stk.all (mx_okV h.length) = true) (dd : decode cc pc = .ok (.invokestatic index, 3)) (k : mx_X l E own cc nL rt nm R Qs n0 (pc + 3) loc (stk) h' (kc + mc) (ks + ms)) : mx_X l E own cc nL rt nm R Qs n0 pc loc st h kc ks := by
  subst hst
  intro p e s m args below meth c dC dI cT A ad0 ad H locs ls hB ha hP hD hS hl
  obtain ⟨hx, hb, hml, hr, hnm, hlk, hown, hts, hK, hA, hE1⟩ := id hB
  obtain ⟨hF, hpre⟩ := mx_pre (args := As) (hE s A hE1) hK hA hP hD hS
  obtain ⟨w1, w2, w4, w5, w6, w7⟩ := Cw
  refine va_callv (va_runS (As := As.map (mx_v ad)) (rest := stk.map (mx_v ad)) ⟨hx, hb, hml, hown, hts⟩ (M dC dI cT ad H.size) (va_cwS n hts (mx_goodA w5 (by intro w hw; simp only [List.mem_cons, List.not_mem_nil, or_false] at hw; rcases hw with rfl | rfl | rfl <;> assumption)) rfl rfl rfl w6 ⟨hR.1, by have := hR.2.1; simp only [mx_rm]; omega⟩) ⟨mx_blind, hpre⟩ rfl (by rw [List.length_map]; exact hn) hl.1 (by rw [mx_rev]; simp [mx_v]) (lv_room (by rw [mx_sum]; exact hw8)) dd ⟨hR.2.2.1, hR.2.2.2⟩) hS (fun q _ h => hF q h) hF (fun u t H1 locs1 ht hvm hw hB1 hz1 hk1 hS1 => ?_)
  have hag := hw
  obtain ⟨hP1, hD1⟩ := hB1
  rw [ht] at hP1
  have e1 := mx_okL okl hag
  have e2 := mx_okS oks hag
  have K := k p e s m args below meth c dC dI cT A ad0 u H1 locs1 ls hB (fun i hi => (hag i (Nat.lt_of_lt_of_le hi hn0)).trans (ha i hi)) hP1 (hD1.weaken (fun _ q _ hq => hF q.1 hq)) hS1 (by rw [e1]; exact hl)
  simp only [List.map_cons, e2, mx_v] at K
  exact K
theorem mx_callSNi {y : MethodName} {host : String} {ccy : ByteArray} {nLy index n dy i ci : Nat} {rty : Option FieldType} {fs As : List Value} {x : Int32} {h' : List mx_C} {st : List Value} (hE : ∀ (s : State) (A : Nat → Prop), E s A → mx_E0 s A) (M : mx_M l y ccy nLy rty dy As h (some (.int x)) h' mc ms) (Cw : mx_CSN own index y host ccy nLy rty n) (hst : st = As.reverse ++ stk) (hR : dy + 1 ≤ R.frames ∧ 40 * dy + 40 ≤ R.locals ∧ kc + mc ≤ R.cells ∧ ks + ms ≤ R.slots) (hn : As.length = n) (hw8 : (stk.map fun v => v.category).sum ≤ 8) (hn0 : n0 ≤ h.length) (okl : loc.all (fun q => mx_okV h.length q.2) = true) (oks : stk.all (mx_okV h.length) = true) (dd : decode cc pc = .ok (.invokestatic index, 3)) (k : mx_X l E own cc nL rt nm R Qs n0 (pc + 3) loc (.int x :: stk) h' (kc + mc) (ks + ms)) : mx_X l E own cc nL rt nm R Qs n0 pc loc st h kc ks := by
  subst hst
  intro p e s m args below meth c dC dI cT A ad0 ad H locs ls hB ha hP hD hS hl
  obtain ⟨hx, hb, hml, hr, hnm, hlk, hown, hts, hK, hA, hE1⟩ := id hB
  obtain ⟨hF, hpre⟩ := mx_pre (args := As) (hE s A hE1) hK hA hP hD hS
  obtain ⟨w1, w2, w4, w5, w6, w7⟩ := Cw
  refine va_calli (va_runSN (As := As.map (mx_v ad)) (rest := stk.map (mx_v ad)) ⟨hx, hb, hml, hown, hts⟩ (M dC dI cT ad H.size) ⟨va_cnB n hts (mx_good w5) rfl rfl rfl ((hE s A hE1).1 _ w1) (hts _ w4) w6 ⟨hR.1, by have := hR.2.1; simp only [mx_rm]; omega⟩, hts _ w2, trivial⟩ ⟨mx_blind, hpre⟩ rfl (by rw [List.length_map]; exact hn) hl.1 (by rw [mx_rev]; simp [mx_v]) (lv_room (by rw [mx_sum]; exact hw8)) dd ⟨hR.2.2.1, hR.2.2.2⟩) hS (fun q _ h => hF q h) hF (fun r u t H1 locs1 ht hvm hw hB1 hz1 hk1 hS1 => ?_)
  obtain ⟨rfl, hag⟩ := hw
  obtain ⟨hP1, hD1⟩ := hB1
  rw [ht] at hP1
  have e1 := mx_okL okl hag
  have e2 := mx_okS oks hag
  have K := k p e s m args below meth c dC dI cT A ad0 u H1 locs1 ls hB (fun i hi => (hag i (Nat.lt_of_lt_of_le hi hn0)).trans (ha i hi)) hP1 (hD1.weaken (fun _ q _ hq => hF q.1 hq)) hS1 (by rw [e1]; exact hl)
  simp only [List.map_cons, e2, mx_v] at K
  exact K
theorem mx_callSNl {y : MethodName} {host : String} {ccy : ByteArray} {nLy index n dy i ci : Nat} {rty : Option FieldType} {fs As : List Value} {x : Int64} {h' : List mx_C} {st : List Value} (hE : ∀ (s : State) (A : Nat → Prop), E s A → mx_E0 s A) (M : mx_M l y ccy nLy rty dy As h (some (.long x)) h' mc ms) (Cw : mx_CSN own index y host ccy nLy rty n) (hst : st = As.reverse ++ stk) (hR : dy + 1 ≤ R.frames ∧ 40 * dy + 40 ≤ R.locals ∧ kc + mc ≤ R.cells ∧ ks + ms ≤ R.slots) (hn : As.length = n) (hw8 : (stk.map fun v => v.category).sum ≤ 8) (hn0 : n0 ≤ h.length) (okl : loc.all (fun q => mx_okV h.length q.2) = true) (oks : stk.all (mx_okV h.length) = true) (dd : decode cc pc = .ok (.invokestatic index, 3)) (k : mx_X l E own cc nL rt nm R Qs n0 (pc + 3) loc (.long x :: stk) h' (kc + mc) (ks + ms)) : mx_X l E own cc nL rt nm R Qs n0 pc loc st h kc ks := by
  subst hst
  intro p e s m args below meth c dC dI cT A ad0 ad H locs ls hB ha hP hD hS hl
  obtain ⟨hx, hb, hml, hr, hnm, hlk, hown, hts, hK, hA, hE1⟩ := id hB
  obtain ⟨hF, hpre⟩ := mx_pre (args := As) (hE s A hE1) hK hA hP hD hS
  obtain ⟨w1, w2, w4, w5, w6, w7⟩ := Cw
  refine va_calll (va_runSN (As := As.map (mx_v ad)) (rest := stk.map (mx_v ad)) ⟨hx, hb, hml, hown, hts⟩ (M dC dI cT ad H.size) ⟨va_cnB n hts (mx_good w5) rfl rfl rfl ((hE s A hE1).1 _ w1) (hts _ w4) w6 ⟨hR.1, by have := hR.2.1; simp only [mx_rm]; omega⟩, hts _ w2, trivial⟩ ⟨mx_blind, hpre⟩ rfl (by rw [List.length_map]; exact hn) hl.1 (by rw [mx_rev]; simp [mx_v]) (lv_room (by rw [mx_sum]; exact hw8)) dd ⟨hR.2.2.1, hR.2.2.2⟩) hS (fun q _ h => hF q h) hF (fun r u t H1 locs1 ht hvm hw hB1 hz1 hk1 hS1 => ?_)
  obtain ⟨rfl, hag⟩ := hw
  obtain ⟨hP1, hD1⟩ := hB1
  rw [ht] at hP1
  have e1 := mx_okL okl hag
  have e2 := mx_okS oks hag
  have K := k p e s m args below meth c dC dI cT A ad0 u H1 locs1 ls hB (fun i hi => (hag i (Nat.lt_of_lt_of_le hi hn0)).trans (ha i hi)) hP1 (hD1.weaken (fun _ q _ hq => hF q.1 hq)) hS1 (by rw [e1]; exact hl)
  simp only [List.map_cons, e2, mx_v] at K
  exact K
theorem mx_callIv {y : MethodName} {host : String} {ccy : ByteArray} {nLy index n dy i ci : Nat} {rty : Option FieldType} {fs As : List Value}  {h' : List mx_C} {st : List Value} (hE : ∀ (s : State) (A : Nat → Prop), E s A → mx_E0 s A) (M : mx_M l y ccy nLy none dy (.ref i :: As) h none h' mc ms) (Cw : mx_CI own index y ccy nLy n) (hst : st = As.reverse ++ .ref i :: stk) (hR : dy + 1 ≤ R.frames ∧ 40 * dy + 40 ≤ R.locals ∧ kc + mc ≤ R.cells ∧ ks + ms ≤ R.slots) (hn : As.length = n) (hw8 : (stk.map fun v => v.category).sum ≤ 8) (hn0 : n0 ≤ h.length) (okl : loc.all (fun q => mx_okV h.length q.2) = true) (oks : stk.all (mx_okV h.length) = true) (dd : decode cc pc = .ok (.invokespecial index, 3)) (k : mx_X l E own cc nL rt nm R Qs n0 (pc + 3) loc (stk) h' (kc + mc) (ks + ms)) : mx_X l E own cc nL rt nm R Qs n0 pc loc st h kc ks := by
  subst hst
  intro p e s m args below meth c dC dI cT A ad0 ad H locs ls hB ha hP hD hS hl
  obtain ⟨hx, hb, hml, hr, hnm, hlk, hown, hts, hK, hA, hE1⟩ := id hB
  obtain ⟨hF, hpre⟩ := mx_pre (args := (.ref i :: As)) (hE s A hE1) hK hA hP hD hS
  obtain ⟨w1, w2, w4, w5, w6, w7, w8⟩ := Cw
  refine va_callv (va_runI (As := As.map (mx_v ad)) (rest := stk.map (mx_v ad)) ⟨hx, hb, hml, hown, hts⟩ (M dC dI cT ad H.size) (cwI n hts (mx_good w5) rfl rfl rfl (hts _ w4) (hts _ w1) (hts _ w2) w8 w6 ⟨hR.1, by have := hR.2.1; simp only [mx_rm]; omega⟩) ⟨mx_blind, hpre⟩ rfl (by rw [List.length_map]; exact hn) hl.1 (by rw [mx_rev]; simp [mx_v]) (lv_room (by rw [mx_sum]; exact hw8)) dd ⟨hR.2.2.1, hR.2.2.2⟩) hS (fun q _ h => hF q h) hF (fun u t H1 locs1 ht hvm hw hB1 hz1 hk1 hS1 => ?_)
  have hag := hw
  obtain ⟨hP1, hD1⟩ := hB1
  rw [ht] at hP1
  have e1 := mx_okL okl hag
  have e2 := mx_okS oks hag
  have K := k p e s m args below meth c dC dI cT A ad0 u H1 locs1 ls hB (fun i hi => (hag i (Nat.lt_of_lt_of_le hi hn0)).trans (ha i hi)) hP1 (hD1.weaken (fun _ q _ hq => hF q.1 hq)) hS1 (by rw [e1]; exact hl)
  simp only [List.map_cons, e2, mx_v] at K
  exact K
theorem mx_callINv {y : MethodName} {host : String} {ccy : ByteArray} {nLy index n dy i ci : Nat} {rty : Option FieldType} {fs As : List Value}  {h' : List mx_C} {st : List Value} (hE : ∀ (s : State) (A : Nat → Prop), E s A → mx_E0 s A) (M : mx_M l y ccy nLy none dy (.ref i :: As) h none h' mc ms) (Cw : mx_CIN own index y host ccy nLy n) (hst : st = As.reverse ++ .ref i :: stk) (hR : dy + 1 ≤ R.frames ∧ 40 * dy + 40 ≤ R.locals ∧ kc + mc ≤ R.cells ∧ ks + ms ≤ R.slots) (hn : As.length = n) (hw8 : (stk.map fun v => v.category).sum ≤ 8) (hn0 : n0 ≤ h.length) (okl : loc.all (fun q => mx_okV h.length q.2) = true) (oks : stk.all (mx_okV h.length) = true) (dd : decode cc pc = .ok (.invokespecial index, 3)) (k : mx_X l E own cc nL rt nm R Qs n0 (pc + 3) loc (stk) h' (kc + mc) (ks + ms)) : mx_X l E own cc nL rt nm R Qs n0 pc loc st h kc ks := by
  subst hst
  intro p e s m args below meth c dC dI cT A ad0 ad H locs ls hB ha hP hD hS hl
  obtain ⟨hx, hb, hml, hr, hnm, hlk, hown, hts, hK, hA, hE1⟩ := id hB
  obtain ⟨hF, hpre⟩ := mx_pre (args := (.ref i :: As)) (hE s A hE1) hK hA hP hD hS
  obtain ⟨w1, w2, w4, w5, w6, w7, w8⟩ := Cw
  refine va_callv (va_runIN (As := As.map (mx_v ad)) (rest := stk.map (mx_v ad)) ⟨hx, hb, hml, hown, hts⟩ (M dC dI cT ad H.size) ⟨va_cnB n hts (mx_good w5) rfl rfl rfl ((hE s A hE1).1 _ w1) (hts _ w4) w6 ⟨hR.1, by have := hR.2.1; simp only [mx_rm]; omega⟩, w8, hts _ w2⟩ ⟨mx_blind, hpre⟩ rfl (by rw [List.length_map]; exact hn) hl.1 (by rw [mx_rev]; simp [mx_v]) (lv_room (by rw [mx_sum]; exact hw8)) dd ⟨hR.2.2.1, hR.2.2.2⟩) hS (fun q _ h => hF q h) hF (fun u t H1 locs1 ht hvm hw hB1 hz1 hk1 hS1 => ?_)
  have hag := hw
  obtain ⟨hP1, hD1⟩ := hB1
  rw [ht] at hP1
  have e1 := mx_okL okl hag
  have e2 := mx_okS oks hag
  have K := k p e s m args below meth c dC dI cT A ad0 u H1 locs1 ls hB (fun i hi => (hag i (Nat.lt_of_lt_of_le hi hn0)).trans (ha i hi)) hP1 (hD1.weaken (fun _ q _ hq => hF q.1 hq)) hS1 (by rw [e1]; exact hl)
  simp only [List.map_cons, e2, mx_v] at K
  exact K
theorem mx_objInit {i index : Nat} (w1 : Cond.methodLink own index objectInit ∈ mx_T) (w2 : Cond.instanceMethod objectInit ∈ mx_T) (w3 : Cond.code objectInit ⟨#[0xb1]⟩ 1 none ∈ mx_T) (hR : 1 ≤ R.frames ∧ 40 ≤ R.locals) (hw8 : (stk.map fun v => v.category).sum ≤ 8) (dd : decode cc pc = .ok (.invokespecial index, 3)) (k : mx_X l E own cc nL rt nm R Qs n0 (pc + 3) loc stk h kc ks) : mx_X l E own cc nL rt nm R Qs n0 pc loc (.ref i :: stk) h kc ks := by
  intro p e s m args below meth c dC dI cT A ad0 ad H locs ls hB ha hP hD hS hl
  obtain ⟨hx, hb, hml, hr, hnm, hlk, hown, hts, hK, hA, hE1⟩ := id hB
  refine W.objInit hx hb hown (hts _ w1) (hts _ w2) (hts _ w3) rfl (by rw [hml]; exact hl.1) rfl dd hR.1 ?_ ?_
  · have := mx_sum ad stk
    have h2 := lv_room (m := m) (pc := pc) (ls := ls) (rest := Value.ref (ad i) :: stk.map (mx_v ad)) (st := stk.map (mx_v ad)) (by rw [this]; exact hw8)
    have := hR.2
    exact Nat.le_trans (Nat.add_le_add_right h2 12) (by omega)
  · exact k p e s m args below meth c dC dI cT A ad0 ad H locs ls hB ha hP hD hS hl
def mx_okC (n : Nat) (q : mx_C) : Bool := match q with
  | .inl _ => true
  | .inr (_, fs) => fs.all (mx_okV n)
theorem mx_ext {cT : FieldType → ClassId} {ad u : Nat → Nat} {q : mx_C} (hh : h.all (mx_okC h.length) = true) (hu : ∀ i : Nat, i < h.length → u i = ad i) : mx_w cT u (h ++ [q]) = mx_w cT ad h ++ [(u h.length, mx_c cT u q)] := by
  apply List.ext_getElem?
  intro j
  unfold mx_w
  rw [List.getElem?_mapIdx]
  rcases Nat.lt_or_ge j h.length with hj | hj
  · rw [List.getElem?_append_left hj, List.getElem?_append_left (by simpa using hj), List.getElem?_mapIdx]
    have hj' : h[j]? = some h[j] := List.getElem?_eq_getElem hj
    rw [hj']
    have ho := List.all_eq_true.mp hh h[j] (List.getElem_mem hj)
    simp only [Option.map_some, hu j hj]
    congr 2
    generalize h[j] = z at ho
    cases z with
    | inl a => rfl
    | inr o => obtain ⟨ci, fs⟩ := o; show Sum.inr _ = Sum.inr _; rw [mx_okS ho hu]
  · rw [List.getElem?_append_right hj, List.getElem?_append_right (by simpa using hj), List.length_mapIdx]
    rcases Nat.eq_or_lt_of_le hj with e | e
    · subst e; simp
    · have e2 : j - h.length ≠ 0 := by omega
      rw [List.getElem?_eq_none (by simp; omega), List.getElem?_eq_none (by simp; omega)]
      rfl
def mx_N (own : String) (index ci : Nat) (fs : List Value) : Prop := ∃ (C : String) (T : u_T) (N : Nat) (ty0 : Nat → FieldType), vwCl[ci]? = some (C, T, N) ∧ (∀ w ∈ u_ws C T N, w ∈ mx_T) ∧ (∀ k, k < N → parseFieldDescriptor (T k).2.2.1 = some (ty0 k)) ∧ Cond.classLink own index C ∈ mx_T ∧ Cond.instantiable C N ∈ mx_T ∧ Cond.initialized C ∈ mx_T ∧ (∀ j, j < N → defaultValue (ty0 j) = vp_V fs j) ∧ N = fs.length ∧ (fs.all (mx_okV 0) = true)
theorem mx_new {index ci : Nat} {fs : List Value} (Nw : mx_N own index ci fs) (hcs : kc + 1 ≤ R.cells ∧ ks + fs.length ≤ R.slots) (hn0 : n0 ≤ h.length) (okh : h.all (mx_okC h.length) = true) (okl : loc.all (fun q => mx_okV h.length q.2) = true) (oks : stk.all (mx_okV h.length) = true) (dd : decode cc pc = .ok (.new index, 3)) (k : mx_X l E own cc nL rt nm R Qs n0 (pc + 3) loc (.ref h.length :: stk) (h ++ [.inr (ci, fs)]) (kc + 1) (ks + fs.length)) : mx_X l E own cc nL rt nm R Qs n0 pc loc stk h kc ks := by
  intro p e s m args below meth c dC dI cT A ad0 ad H locs ls hB ha hP hD hS hl
  obtain ⟨hx, hb, hml, hr, hnm, hlk, hown, hts, hK, hA, hE1⟩ := id hB
  obtain ⟨C, T, N, ty0, h1, h2, h3, h4, h5, h6, h7, h8, h9⟩ := Nw
  subst h8
  refine va_new (ci := ci) (fs := fs) (C := C) (T := T) (N := fs.length) hx hb hts h2 ty0 h3 hown (hts _ h4) (hts _ h5) (hts _ h6) hK hP hD hS hA h1 h7 hcs.1 hcs.2 dd (fun q H1 hP1 hD1 hS1 => ?_)
  have hu : ∀ i : Nat, i < h.length → (fun i => if i = h.length then q else ad i) i = ad i := fun i hi => if_neg (Nat.ne_of_lt hi)
  have ef : fs.map (mx_v (fun i => if i = h.length then q else ad i)) = fs := by
    refine Eq.trans (List.map_congr_left (fun v hv => ?_)) (List.map_id fs)
    have := List.all_eq_true.mp h9 v hv
    cases v <;> first | rfl | (simp [mx_okV] at this)
  have ew := mx_ext (cT := cT) (q := .inr (ci, fs)) okh hu
  simp only [mx_c, ef, if_true] at ew
  have K := k p e s m args below meth c dC dI cT A ad0 (fun i => if i = h.length then q else ad i) H1 locs ls hB (fun i hi => (hu i (Nat.lt_of_lt_of_le hi hn0)).trans (ha i hi)) (by rw [ew]; exact hP1) (by rw [ew]; exact hD1) hS1 (by rw [mx_okL okl hu]; exact hl)
  simp only [List.map_cons, mx_okS oks hu, mx_v, if_true] at K
  exact K
theorem mx_newarr {atype : ArrayType} {n : Int32} {N : Nat} {ty : FieldType} {a0 : vp_A} (z : Nat) (w1 : Cond.arrayClass ty ∈ mx_T) (hty : newarray.typeOf atype = ty) (hz : ∀ cT, (mx_tys cT)[z]? = some (cT ty, ty)) (ha0 : ∀ cA : ClassId, vp_cell cA a0 = arrV cA N (fun _ => defaultValue ty)) (hn : ¬ n < 0) (hN : n.toNatClampNeg = N) (hbytes : N * componentBytes ty ≤ 536870912) (hcs : kc + 1 ≤ R.cells ∧ ks + N ≤ R.slots) (hn0 : n0 ≤ h.length) (okh : h.all (mx_okC h.length) = true) (okl : loc.all (fun q => mx_okV h.length q.2) = true) (oks : stk.all (mx_okV h.length) = true) (dd : decode cc pc = .ok (.newarray atype, 2)) (k : mx_X l E own cc nL rt nm R Qs n0 (pc + 2) loc (.ref h.length :: stk) (h ++ [.inl (ty, a0)]) (kc + 1) (ks + N)) : mx_X l E own cc nL rt nm R Qs n0 pc loc (.int n :: stk) h kc ks := by
  intro p e s m args below meth c dC dI cT A ad0 ad H locs ls hB ha hP hD hS hl
  obtain ⟨hx, hb, hml, hr, hnm, hlk, hown, hts, hK, hA, hE1⟩ := id hB
  refine va_newa (atype := atype) (ty := ty) hx hb (by rw [hty]; exact hts _ w1) hty hK hP hD hS hA ha0 hn hN hbytes hcs.1 hcs.2 dd (fun q cA H1 hK1 hP1 hD1 hS1 => ?_)
  have hcA : cA = cT ty := by
    have e1 := (hK1.2 (mx_tys cT).length (cA, ty) (by simp)).2
    have e2 := (hK.2 z (cT ty, ty) (hz cT)).2
    subst hty
    have e3 : s.vm.findClass ("[" ++ (newarray.typeOf atype).toString) = some cA := by cases atype <;> exact e1
    have e4 : s.vm.findClass ("[" ++ (newarray.typeOf atype).toString) = some (cT (newarray.typeOf atype)) := by cases atype <;> exact e2
    exact Option.some.inj (e3.symm.trans e4)
  subst hcA
  have hu : ∀ i : Nat, i < h.length → (fun i => if i = h.length then q else ad i) i = ad i := fun i hi => if_neg (Nat.ne_of_lt hi)
  have ew := mx_ext (cT := cT) (q := .inl (ty, a0)) okh hu
  simp only [mx_c, if_true] at ew
  have K := k p e s m args below meth c dC dI cT A ad0 (fun i => if i = h.length then q else ad i) H1 locs ls hB (fun i hi => (hu i (Nat.lt_of_lt_of_le hi hn0)).trans (ha i hi)) (by rw [ew]; exact hP1) (by rw [ew]; exact hD1) hS1 (by rw [mx_okL okl hu]; exact hl)
  simp only [List.map_cons, mx_okS oks hu, mx_v, if_true] at K
  exact K
theorem mx_copyi {index i0 i1 n1 n2 : Nat} {f g : Nat → Int32} {sp dp n : Int32} (w1 : Cond.methodLink own index arraycopyName ∈ mx_T) (w2 : Cond.native arraycopyName ∈ mx_T) (w3 : Cond.static arraycopyName ∈ mx_T) (w4 : Cond.initialized "java/lang/System" ∈ mx_T) (h0 : h[i0]? = some (.inl (.int, n2, .inl f))) (h1 : h[i1]? = some (.inl (.int, n1, .inl g))) (g1 : ¬ sp < 0) (g2 : ¬ dp < 0) (g3 : ¬ n < 0) (g4 : sp.toNatClampNeg + n.toNatClampNeg ≤ n2) (g5 : dp.toNatClampNeg + n.toNatClampNeg ≤ n1) (hR : 1 ≤ R.frames ∧ 100 ≤ R.locals) (hw8 : (stk.map fun v => v.category).sum ≤ 8) (dd : decode cc pc = .ok (.invokestatic index, 3)) (k : mx_X l E own cc nL rt nm R Qs n0 (pc + 3) loc stk (h.set i1 (.inl (.int, n1, .inl (va_cpy f g sp.toNatClampNeg dp.toNatClampNeg n.toNatClampNeg)))) kc ks) : mx_X l E own cc nL rt nm R Qs n0 pc loc (.int n :: .int dp :: .ref i1 :: .int sp :: .ref i0 :: stk) h kc ks := by
  intro p e s m args below meth c dC dI cT A ad0 ad H locs ls hB ha hP hD hS hl
  obtain ⟨hx, hb, hml, hr, hnm, hlk, hown, hts, hK, hA, hE1⟩ := id hB
  refine va_copyi hx hb (by rw [hml]; exact hl.1.symm) hown (hts _ w1) (hts _ w2) (hts _ w3) (hts _ w4) hK hP hD hS i0 i1 0 0 (mx_wat h0) (mx_wat h1) rfl rfl rfl g1 g2 g3 g4 g5 (fun _ _ => rfl) hR.1 ?_ dd (fun H locs hP hD hS => ?_)
  · rw [mx_sum]; exact Nat.le_trans (Nat.add_le_add_right hw8 _) (Nat.le_trans (by decide +kernel) hR.2)
  · have hP : va_P (dC, dI) vwCl ((mx_w cT ad h).set i1 (ad i1, mx_c cT ad (.inl (.int, n1, .inl (va_cpy f g sp.toNatClampNeg dp.toNatClampNeg n.toNatClampNeg))))) H := hP
    have hD : va_D A ((mx_w cT ad h).set i1 (ad i1, mx_c cT ad (.inl (.int, n1, .inl (va_cpy f g sp.toNatClampNeg dp.toNatClampNeg n.toNatClampNeg))))) := hD
    rw [mx_wset] at hP hD
    exact k p e s m args below meth c dC dI cT A ad0 ad H locs ls hB ha hP hD hS hl
theorem mx_copyl {index i0 i1 n1 n2 : Nat} {f g : Nat → Int64} {sp dp n : Int32} (w1 : Cond.methodLink own index arraycopyName ∈ mx_T) (w2 : Cond.native arraycopyName ∈ mx_T) (w3 : Cond.static arraycopyName ∈ mx_T) (w4 : Cond.initialized "java/lang/System" ∈ mx_T) (h0 : h[i0]? = some (.inl (.long, n2, .inr (.inl f)))) (h1 : h[i1]? = some (.inl (.long, n1, .inr (.inl g)))) (g1 : ¬ sp < 0) (g2 : ¬ dp < 0) (g3 : ¬ n < 0) (g4 : sp.toNatClampNeg + n.toNatClampNeg ≤ n2) (g5 : dp.toNatClampNeg + n.toNatClampNeg ≤ n1) (hR : 1 ≤ R.frames ∧ 100 ≤ R.locals) (hw8 : (stk.map fun v => v.category).sum ≤ 8) (dd : decode cc pc = .ok (.invokestatic index, 3)) (k : mx_X l E own cc nL rt nm R Qs n0 (pc + 3) loc stk (h.set i1 (.inl (.long, n1, .inr (.inl (va_cpy f g sp.toNatClampNeg dp.toNatClampNeg n.toNatClampNeg))))) kc ks) : mx_X l E own cc nL rt nm R Qs n0 pc loc (.int n :: .int dp :: .ref i1 :: .int sp :: .ref i0 :: stk) h kc ks := by
  intro p e s m args below meth c dC dI cT A ad0 ad H locs ls hB ha hP hD hS hl
  obtain ⟨hx, hb, hml, hr, hnm, hlk, hown, hts, hK, hA, hE1⟩ := id hB
  refine va_copyl hx hb (by rw [hml]; exact hl.1.symm) hown (hts _ w1) (hts _ w2) (hts _ w3) (hts _ w4) hK hP hD hS i0 i1 1 1 (mx_wat h0) (mx_wat h1) rfl rfl rfl g1 g2 g3 g4 g5 (fun _ _ => rfl) hR.1 ?_ dd (fun H locs hP hD hS => ?_)
  · rw [mx_sum]; exact Nat.le_trans (Nat.add_le_add_right hw8 _) (Nat.le_trans (by decide +kernel) hR.2)
  · have hP : va_P (dC, dI) vwCl ((mx_w cT ad h).set i1 (ad i1, mx_c cT ad (.inl (.long, n1, .inr (.inl (va_cpy f g sp.toNatClampNeg dp.toNatClampNeg n.toNatClampNeg)))))) H := hP
    have hD : va_D A ((mx_w cT ad h).set i1 (ad i1, mx_c cT ad (.inl (.long, n1, .inr (.inl (va_cpy f g sp.toNatClampNeg dp.toNatClampNeg n.toNatClampNeg)))))) := hD
    rw [mx_wset] at hP hD
    exact k p e s m args below meth c dC dI cT A ad0 ad H locs ls hB ha hP hD hS hl
end MC
end
