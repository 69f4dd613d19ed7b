-- ===== PART A: goes FIRST, ahead of the names: the tables' words, and 'selects' of the private methods out of them =====
/-- a private method of a class that the tables say can be made, by its rows of tables_1 -/
def lw_okq (q : MethodName × Nat) : Prop := (q.1.cls ≠ "java/lang/invoke/MethodHandle" ∧ q.1.cls ≠ "java/lang/invoke/VarHandle") ∧ Cond.instantiable q.1.cls q.2 ∈ tables_1 ∧ Cond.privateMethod q.1 ∈ tables_1 ∧ Cond.instanceMethod q.1 ∈ tables_1
theorem lw_p0 : lw_okq (⟨"SlipDesk$Text", "byteAt", "(I)I"⟩, 8) := ⟨⟨by decide +kernel, by decide +kernel⟩, List.mem_of_getElem? (i := 28) (by decide +kernel), List.mem_of_getElem? (i := 375) (by decide +kernel), List.mem_of_getElem? (i := 376) (by decide +kernel)⟩
theorem lw_p1 : lw_okq (⟨"SlipDesk$Text", "cutOne", "(I)I"⟩, 8) := ⟨⟨by decide +kernel, by decide +kernel⟩, List.mem_of_getElem? (i := 28) (by decide +kernel), List.mem_of_getElem? (i := 379) (by decide +kernel), List.mem_of_getElem? (i := 380) (by decide +kernel)⟩
theorem lw_p2 : lw_okq (⟨"SlipDesk$Text", "runOf", "(CCI)I"⟩, 8) := ⟨⟨by decide +kernel, by decide +kernel⟩, List.mem_of_getElem? (i := 28) (by decide +kernel), List.mem_of_getElem? (i := 383) (by decide +kernel), List.mem_of_getElem? (i := 384) (by decide +kernel)⟩
theorem lw_p3 : lw_okq (⟨"SlipDesk$Text", "numberAt", "(II)I"⟩, 8) := ⟨⟨by decide +kernel, by decide +kernel⟩, List.mem_of_getElem? (i := 28) (by decide +kernel), List.mem_of_getElem? (i := 387) (by decide +kernel), List.mem_of_getElem? (i := 388) (by decide +kernel)⟩
theorem lw_p4 : lw_okq (⟨"SlipDesk$Text", "addToken", "(III)V"⟩, 8) := ⟨⟨by decide +kernel, by decide +kernel⟩, List.mem_of_getElem? (i := 28) (by decide +kernel), List.mem_of_getElem? (i := 391) (by decide +kernel), List.mem_of_getElem? (i := 392) (by decide +kernel)⟩
theorem lw_p5 : lw_okq (⟨"SlipDesk$Text", "wordAt", "(II)I"⟩, 8) := ⟨⟨by decide +kernel, by decide +kernel⟩, List.mem_of_getElem? (i := 28) (by decide +kernel), List.mem_of_getElem? (i := 395) (by decide +kernel), List.mem_of_getElem? (i := 396) (by decide +kernel)⟩
theorem lw_p6 : lw_okq (⟨"SlipDesk$SlipReader", "readsClause", "(LSlipDesk$Text;I)Z"⟩, 1) := ⟨⟨by decide +kernel, by decide +kernel⟩, List.mem_of_getElem? (i := 63) (by decide +kernel), List.mem_of_getElem? (i := 448) (by decide +kernel), List.mem_of_getElem? (i := 449) (by decide +kernel)⟩
theorem lw_p7 : lw_okq (⟨"SlipDesk$SlipReader", "readsOffer", "(LSlipDesk$Text;)Z"⟩, 1) := ⟨⟨by decide +kernel, by decide +kernel⟩, List.mem_of_getElem? (i := 63) (by decide +kernel), List.mem_of_getElem? (i := 475) (by decide +kernel), List.mem_of_getElem? (i := 476) (by decide +kernel)⟩
theorem lw_p8 : lw_okq (⟨"SlipDesk$SlipReader", "readsNeed", "(LSlipDesk$Text;)Z"⟩, 1) := ⟨⟨by decide +kernel, by decide +kernel⟩, List.mem_of_getElem? (i := 63) (by decide +kernel), List.mem_of_getElem? (i := 483) (by decide +kernel), List.mem_of_getElem? (i := 484) (by decide +kernel)⟩
theorem lw_p9 : lw_okq (⟨"SlipDesk$RuleReader", "readsSum", "(LSlipDesk$Text;LSlipDesk$Rule;)Z"⟩, 1) := ⟨⟨by decide +kernel, by decide +kernel⟩, List.mem_of_getElem? (i := 129) (by decide +kernel), List.mem_of_getElem? (i := 519) (by decide +kernel), List.mem_of_getElem? (i := 520) (by decide +kernel)⟩
theorem lw_p10 : lw_okq (⟨"SlipDesk$RuleReader", "readsValue", "(LSlipDesk$Text;LSlipDesk$Rule;)Z"⟩, 1) := ⟨⟨by decide +kernel, by decide +kernel⟩, List.mem_of_getElem? (i := 129) (by decide +kernel), List.mem_of_getElem? (i := 523) (by decide +kernel), List.mem_of_getElem? (i := 524) (by decide +kernel)⟩
theorem lw_p11 : lw_okq (⟨"SlipDesk$RuleReader", "readsTest", "(LSlipDesk$Text;LSlipDesk$Rule;I)Z"⟩, 1) := ⟨⟨by decide +kernel, by decide +kernel⟩, List.mem_of_getElem? (i := 129) (by decide +kernel), List.mem_of_getElem? (i := 535) (by decide +kernel), List.mem_of_getElem? (i := 536) (by decide +kernel)⟩
theorem lw_p12 : lw_okq (⟨"SlipDesk$RuleReader", "readsFact", "(LSlipDesk$Text;LSlipDesk$Rule;I)Z"⟩, 1) := ⟨⟨by decide +kernel, by decide +kernel⟩, List.mem_of_getElem? (i := 129) (by decide +kernel), List.mem_of_getElem? (i := 539) (by decide +kernel), List.mem_of_getElem? (i := 540) (by decide +kernel)⟩
theorem lw_p13 : lw_okq (⟨"SlipDesk$RuleReader", "readsComparison", "(LSlipDesk$Text;LSlipDesk$Rule;)Z"⟩, 1) := ⟨⟨by decide +kernel, by decide +kernel⟩, List.mem_of_getElem? (i := 129) (by decide +kernel), List.mem_of_getElem? (i := 543) (by decide +kernel), List.mem_of_getElem? (i := 544) (by decide +kernel)⟩
theorem lw_p14 : lw_okq (⟨"SlipDesk", "isOffer", "(I)Z"⟩, 18) := ⟨⟨by decide +kernel, by decide +kernel⟩, List.mem_of_getElem? (i := 20) (by decide +kernel), List.mem_of_getElem? (i := 559) (by decide +kernel), List.mem_of_getElem? (i := 560) (by decide +kernel)⟩
theorem lw_p15 : lw_okq (⟨"SlipDesk", "isLine", "(I)Z"⟩, 18) := ⟨⟨by decide +kernel, by decide +kernel⟩, List.mem_of_getElem? (i := 20) (by decide +kernel), List.mem_of_getElem? (i := 571) (by decide +kernel), List.mem_of_getElem? (i := 572) (by decide +kernel)⟩
def lw_privs_1 : List (MethodName × Nat) := [(⟨"SlipDesk$Text", "byteAt", "(I)I"⟩, 8), (⟨"SlipDesk$Text", "cutOne", "(I)I"⟩, 8), (⟨"SlipDesk$Text", "runOf", "(CCI)I"⟩, 8), (⟨"SlipDesk$Text", "numberAt", "(II)I"⟩, 8), (⟨"SlipDesk$Text", "addToken", "(III)V"⟩, 8), (⟨"SlipDesk$Text", "wordAt", "(II)I"⟩, 8), (⟨"SlipDesk$SlipReader", "readsClause", "(LSlipDesk$Text;I)Z"⟩, 1), (⟨"SlipDesk$SlipReader", "readsOffer", "(LSlipDesk$Text;)Z"⟩, 1), (⟨"SlipDesk$SlipReader", "readsNeed", "(LSlipDesk$Text;)Z"⟩, 1), (⟨"SlipDesk$RuleReader", "readsSum", "(LSlipDesk$Text;LSlipDesk$Rule;)Z"⟩, 1), (⟨"SlipDesk$RuleReader", "readsValue", "(LSlipDesk$Text;LSlipDesk$Rule;)Z"⟩, 1), (⟨"SlipDesk$RuleReader", "readsTest", "(LSlipDesk$Text;LSlipDesk$Rule;I)Z"⟩, 1), (⟨"SlipDesk$RuleReader", "readsFact", "(LSlipDesk$Text;LSlipDesk$Rule;I)Z"⟩, 1), (⟨"SlipDesk$RuleReader", "readsComparison", "(LSlipDesk$Text;LSlipDesk$Rule;)Z"⟩, 1), (⟨"SlipDesk", "isOffer", "(I)Z"⟩, 18), (⟨"SlipDesk", "isLine", "(I)Z"⟩, 18)]
theorem lw_r1 : ∀ q ∈ lw_privs_1, lw_okq q := List.forall_mem_cons.mpr ⟨lw_p0, List.forall_mem_cons.mpr ⟨lw_p1, List.forall_mem_cons.mpr ⟨lw_p2, List.forall_mem_cons.mpr ⟨lw_p3, List.forall_mem_cons.mpr ⟨lw_p4, List.forall_mem_cons.mpr ⟨lw_p5, List.forall_mem_cons.mpr ⟨lw_p6, List.forall_mem_cons.mpr ⟨lw_p7, List.forall_mem_cons.mpr ⟨lw_p8, List.forall_mem_cons.mpr ⟨lw_p9, List.forall_mem_cons.mpr ⟨lw_p10, List.forall_mem_cons.mpr ⟨lw_p11, List.forall_mem_cons.mpr ⟨lw_p12, List.forall_mem_cons.mpr ⟨lw_p13, List.forall_mem_cons.mpr ⟨lw_p14, List.forall_mem_cons.mpr ⟨lw_p15, fun _ h => absurd h List.not_mem_nil⟩⟩⟩⟩⟩⟩⟩⟩⟩⟩⟩⟩⟩⟩⟩⟩
theorem lw_p16 : lw_okq (⟨"SlipDesk", "remember", "()V"⟩, 18) := ⟨⟨by decide +kernel, by decide +kernel⟩, List.mem_of_getElem? (i := 20) (by decide +kernel), List.mem_of_getElem? (i := 621) (by decide +kernel), List.mem_of_getElem? (i := 622) (by decide +kernel)⟩
theorem lw_p17 : lw_okq (⟨"SlipDesk", "ruleInForce", "()LSlipDesk$Rule;"⟩, 18) := ⟨⟨by decide +kernel, by decide +kernel⟩, List.mem_of_getElem? (i := 20) (by decide +kernel), List.mem_of_getElem? (i := 632) (by decide +kernel), List.mem_of_getElem? (i := 633) (by decide +kernel)⟩
theorem lw_p18 : lw_okq (⟨"SlipDesk", "ruleAt", "(I)LSlipDesk$Rule;"⟩, 18) := ⟨⟨by decide +kernel, by decide +kernel⟩, List.mem_of_getElem? (i := 20) (by decide +kernel), List.mem_of_getElem? (i := 636) (by decide +kernel), List.mem_of_getElem? (i := 637) (by decide +kernel)⟩
theorem lw_p19 : lw_okq (⟨"SlipDesk$Days", "choose", "(LSlipDesk$Book;LSlipDesk$Told;LSlipDesk$Rule;)I"⟩, 1) := ⟨⟨by decide +kernel, by decide +kernel⟩, List.mem_of_getElem? (i := 285) (by decide +kernel), List.mem_of_getElem? (i := 644) (by decide +kernel), List.mem_of_getElem? (i := 645) (by decide +kernel)⟩
theorem lw_p20 : lw_okq (⟨"SlipDesk$Days", "layWords", "(LSlipDesk$Book;I)V"⟩, 1) := ⟨⟨by decide +kernel, by decide +kernel⟩, List.mem_of_getElem? (i := 285) (by decide +kernel), List.mem_of_getElem? (i := 652) (by decide +kernel), List.mem_of_getElem? (i := 653) (by decide +kernel)⟩
theorem lw_p21 : lw_okq (⟨"SlipDesk$Rule", "run", "(II[J)J"⟩, 8) := ⟨⟨by decide +kernel, by decide +kernel⟩, List.mem_of_getElem? (i := 140) (by decide +kernel), List.mem_of_getElem? (i := 667) (by decide +kernel), List.mem_of_getElem? (i := 668) (by decide +kernel)⟩
theorem lw_p22 : lw_okq (⟨"SlipDesk$Book", "sign", "()V"⟩, 12) := ⟨⟨by decide +kernel, by decide +kernel⟩, List.mem_of_getElem? (i := 181) (by decide +kernel), List.mem_of_getElem? (i := 681) (by decide +kernel), List.mem_of_getElem? (i := 682) (by decide +kernel)⟩
theorem lw_p23 : lw_okq (⟨"SlipDesk$Book", "partAmong", "(II[I[I)V"⟩, 12) := ⟨⟨by decide +kernel, by decide +kernel⟩, List.mem_of_getElem? (i := 181) (by decide +kernel), List.mem_of_getElem? (i := 686) (by decide +kernel), List.mem_of_getElem? (i := 687) (by decide +kernel)⟩
theorem lw_p24 : lw_okq (⟨"SlipDesk$Book", "lostMost", "(II[II)I"⟩, 12) := ⟨⟨by decide +kernel, by decide +kernel⟩, List.mem_of_getElem? (i := 181) (by decide +kernel), List.mem_of_getElem? (i := 690) (by decide +kernel), List.mem_of_getElem? (i := 691) (by decide +kernel)⟩
theorem lw_p25 : lw_okq (⟨"SlipDesk$Book", "firstInNeed", "(LSlipDesk$Told;)I"⟩, 12) := ⟨⟨by decide +kernel, by decide +kernel⟩, List.mem_of_getElem? (i := 181) (by decide +kernel), List.mem_of_getElem? (i := 698) (by decide +kernel), List.mem_of_getElem? (i := 699) (by decide +kernel)⟩
theorem lw_p26 : lw_okq (⟨"SlipDesk$Book", "leave", "(I)V"⟩, 12) := ⟨⟨by decide +kernel, by decide +kernel⟩, List.mem_of_getElem? (i := 181) (by decide +kernel), List.mem_of_getElem? (i := 703) (by decide +kernel), List.mem_of_getElem? (i := 704) (by decide +kernel)⟩
theorem lw_p27 : lw_okq (⟨"SlipDesk", "signedIfWritten", "(II)I"⟩, 18) := ⟨⟨by decide +kernel, by decide +kernel⟩, List.mem_of_getElem? (i := 20) (by decide +kernel), List.mem_of_getElem? (i := 753) (by decide +kernel), List.mem_of_getElem? (i := 754) (by decide +kernel)⟩
theorem lw_p28 : lw_okq (⟨"SlipDesk", "tryStriking", "(I)V"⟩, 18) := ⟨⟨by decide +kernel, by decide +kernel⟩, List.mem_of_getElem? (i := 20) (by decide +kernel), List.mem_of_getElem? (i := 765) (by decide +kernel), List.mem_of_getElem? (i := 766) (by decide +kernel)⟩
theorem lw_p29 : lw_okq (⟨"SlipDesk", "isAgreed", "(I)Z"⟩, 18) := ⟨⟨by decide +kernel, by decide +kernel⟩, List.mem_of_getElem? (i := 20) (by decide +kernel), List.mem_of_getElem? (i := 782) (by decide +kernel), List.mem_of_getElem? (i := 783) (by decide +kernel)⟩
theorem lw_p30 : lw_okq (⟨"SlipDesk", "layRow", "(II)V"⟩, 18) := ⟨⟨by decide +kernel, by decide +kernel⟩, List.mem_of_getElem? (i := 20) (by decide +kernel), List.mem_of_getElem? (i := 790) (by decide +kernel), List.mem_of_getElem? (i := 791) (by decide +kernel)⟩
theorem lw_p31 : lw_okq (⟨"SlipDesk", "takeRow", "(I)V"⟩, 18) := ⟨⟨by decide +kernel, by decide +kernel⟩, List.mem_of_getElem? (i := 20) (by decide +kernel), List.mem_of_getElem? (i := 795) (by decide +kernel), List.mem_of_getElem? (i := 796) (by decide +kernel)⟩
def lw_privs_2 : List (MethodName × Nat) := [(⟨"SlipDesk", "remember", "()V"⟩, 18), (⟨"SlipDesk", "ruleInForce", "()LSlipDesk$Rule;"⟩, 18), (⟨"SlipDesk", "ruleAt", "(I)LSlipDesk$Rule;"⟩, 18), (⟨"SlipDesk$Days", "choose", "(LSlipDesk$Book;LSlipDesk$Told;LSlipDesk$Rule;)I"⟩, 1), (⟨"SlipDesk$Days", "layWords", "(LSlipDesk$Book;I)V"⟩, 1), (⟨"SlipDesk$Rule", "run", "(II[J)J"⟩, 8), (⟨"SlipDesk$Book", "sign", "()V"⟩, 12), (⟨"SlipDesk$Book", "partAmong", "(II[I[I)V"⟩, 12), (⟨"SlipDesk$Book", "lostMost", "(II[II)I"⟩, 12), (⟨"SlipDesk$Book", "firstInNeed", "(LSlipDesk$Told;)I"⟩, 12), (⟨"SlipDesk$Book", "leave", "(I)V"⟩, 12), (⟨"SlipDesk", "signedIfWritten", "(II)I"⟩, 18), (⟨"SlipDesk", "tryStriking", "(I)V"⟩, 18), (⟨"SlipDesk", "isAgreed", "(I)Z"⟩, 18), (⟨"SlipDesk", "layRow", "(II)V"⟩, 18), (⟨"SlipDesk", "takeRow", "(I)V"⟩, 18)]
theorem lw_r2 : ∀ q ∈ lw_privs_2, lw_okq q := List.forall_mem_cons.mpr ⟨lw_p16, List.forall_mem_cons.mpr ⟨lw_p17, List.forall_mem_cons.mpr ⟨lw_p18, List.forall_mem_cons.mpr ⟨lw_p19, List.forall_mem_cons.mpr ⟨lw_p20, List.forall_mem_cons.mpr ⟨lw_p21, List.forall_mem_cons.mpr ⟨lw_p22, List.forall_mem_cons.mpr ⟨lw_p23, List.forall_mem_cons.mpr ⟨lw_p24, List.forall_mem_cons.mpr ⟨lw_p25, List.forall_mem_cons.mpr ⟨lw_p26, List.forall_mem_cons.mpr ⟨lw_p27, List.forall_mem_cons.mpr ⟨lw_p28, List.forall_mem_cons.mpr ⟨lw_p29, List.forall_mem_cons.mpr ⟨lw_p30, List.forall_mem_cons.mpr ⟨lw_p31, fun _ h => absurd h List.not_mem_nil⟩⟩⟩⟩⟩⟩⟩⟩⟩⟩⟩⟩⟩⟩⟩⟩
theorem lw_p32 : lw_okq (⟨"SlipDesk", "drawCancelling", "(I)V"⟩, 18) := ⟨⟨by decide +kernel, by decide +kernel⟩, List.mem_of_getElem? (i := 20) (by decide +kernel), List.mem_of_getElem? (i := 817) (by decide +kernel), List.mem_of_getElem? (i := 818) (by decide +kernel)⟩
theorem lw_p33 : lw_okq (⟨"SlipDesk", "goesAsNoted", "(LSlipDesk$Rule;)Z"⟩, 18) := ⟨⟨by decide +kernel, by decide +kernel⟩, List.mem_of_getElem? (i := 20) (by decide +kernel), List.mem_of_getElem? (i := 845) (by decide +kernel), List.mem_of_getElem? (i := 846) (by decide +kernel)⟩
theorem lw_p34 : lw_okq (⟨"SlipDesk", "layCourses", "()I"⟩, 18) := ⟨⟨by decide +kernel, by decide +kernel⟩, List.mem_of_getElem? (i := 20) (by decide +kernel), List.mem_of_getElem? (i := 870) (by decide +kernel), List.mem_of_getElem? (i := 871) (by decide +kernel)⟩
theorem lw_p35 : lw_okq (⟨"SlipDesk", "mostAlike", "(II)I"⟩, 18) := ⟨⟨by decide +kernel, by decide +kernel⟩, List.mem_of_getElem? (i := 20) (by decide +kernel), List.mem_of_getElem? (i := 874) (by decide +kernel), List.mem_of_getElem? (i := 875) (by decide +kernel)⟩
theorem lw_p36 : lw_okq (⟨"SlipDesk", "layGains", "(II)V"⟩, 18) := ⟨⟨by decide +kernel, by decide +kernel⟩, List.mem_of_getElem? (i := 20) (by decide +kernel), List.mem_of_getElem? (i := 883) (by decide +kernel), List.mem_of_getElem? (i := 884) (by decide +kernel)⟩
theorem lw_p37 : lw_okq (⟨"SlipDesk", "isRest", "(II)Z"⟩, 18) := ⟨⟨by decide +kernel, by decide +kernel⟩, List.mem_of_getElem? (i := 20) (by decide +kernel), List.mem_of_getElem? (i := 887) (by decide +kernel), List.mem_of_getElem? (i := 888) (by decide +kernel)⟩
theorem lw_p38 : lw_okq (⟨"SlipDeskModel", "four", "(I)V"⟩, 43) := ⟨⟨by decide +kernel, by decide +kernel⟩, List.mem_of_getElem? (i := 914) (by decide +kernel), List.mem_of_getElem? (i := 1054) (by decide +kernel), List.mem_of_getElem? (i := 1055) (by decide +kernel)⟩
theorem lw_p39 : lw_okq (⟨"SlipDeskModel", "readsAll", "()Z"⟩, 43) := ⟨⟨by decide +kernel, by decide +kernel⟩, List.mem_of_getElem? (i := 914) (by decide +kernel), List.mem_of_getElem? (i := 1066) (by decide +kernel), List.mem_of_getElem? (i := 1067) (by decide +kernel)⟩
theorem lw_p40 : lw_okq (⟨"SlipDeskModel", "clauseHere", "()Z"⟩, 43) := ⟨⟨by decide +kernel, by decide +kernel⟩, List.mem_of_getElem? (i := 914) (by decide +kernel), List.mem_of_getElem? (i := 1070) (by decide +kernel), List.mem_of_getElem? (i := 1071) (by decide +kernel)⟩
theorem lw_p41 : lw_okq (⟨"SlipDeskModel", "see", "()I"⟩, 43) := ⟨⟨by decide +kernel, by decide +kernel⟩, List.mem_of_getElem? (i := 914) (by decide +kernel), List.mem_of_getElem? (i := 1074) (by decide +kernel), List.mem_of_getElem? (i := 1075) (by decide +kernel)⟩
theorem lw_p42 : lw_okq (⟨"SlipDeskModel", "isSlipWord", "()Z"⟩, 43) := ⟨⟨by decide +kernel, by decide +kernel⟩, List.mem_of_getElem? (i := 914) (by decide +kernel), List.mem_of_getElem? (i := 1078) (by decide +kernel), List.mem_of_getElem? (i := 1079) (by decide +kernel)⟩
theorem lw_p43 : lw_okq (⟨"SlipDeskModel", "isWord", "(J)Z"⟩, 43) := ⟨⟨by decide +kernel, by decide +kernel⟩, List.mem_of_getElem? (i := 914) (by decide +kernel), List.mem_of_getElem? (i := 1083) (by decide +kernel), List.mem_of_getElem? (i := 1084) (by decide +kernel)⟩
theorem lw_p44 : lw_okq (⟨"SlipDeskModel", "isLetter", "(I)Z"⟩, 43) := ⟨⟨by decide +kernel, by decide +kernel⟩, List.mem_of_getElem? (i := 914) (by decide +kernel), List.mem_of_getElem? (i := 1087) (by decide +kernel), List.mem_of_getElem? (i := 1088) (by decide +kernel)⟩
theorem lw_p45 : lw_okq (⟨"SlipDeskModel", "fails", "(II)Z"⟩, 43) := ⟨⟨by decide +kernel, by decide +kernel⟩, List.mem_of_getElem? (i := 914) (by decide +kernel), List.mem_of_getElem? (i := 1094) (by decide +kernel), List.mem_of_getElem? (i := 1095) (by decide +kernel)⟩
theorem lw_p46 : lw_okq (⟨"SlipDeskModel", "slipLineHere", "(I)Z"⟩, 43) := ⟨⟨by decide +kernel, by decide +kernel⟩, List.mem_of_getElem? (i := 914) (by decide +kernel), List.mem_of_getElem? (i := 1098) (by decide +kernel), List.mem_of_getElem? (i := 1099) (by decide +kernel)⟩
theorem lw_p47 : lw_okq (⟨"SlipDeskModel", "isSlipHere", "(I)Z"⟩, 43) := ⟨⟨by decide +kernel, by decide +kernel⟩, List.mem_of_getElem? (i := 914) (by decide +kernel), List.mem_of_getElem? (i := 1102) (by decide +kernel), List.mem_of_getElem? (i := 1103) (by decide +kernel)⟩
def lw_privs_3 : List (MethodName × Nat) := [(⟨"SlipDesk", "drawCancelling", "(I)V"⟩, 18), (⟨"SlipDesk", "goesAsNoted", "(LSlipDesk$Rule;)Z"⟩, 18), (⟨"SlipDesk", "layCourses", "()I"⟩, 18), (⟨"SlipDesk", "mostAlike", "(II)I"⟩, 18), (⟨"SlipDesk", "layGains", "(II)V"⟩, 18), (⟨"SlipDesk", "isRest", "(II)Z"⟩, 18), (⟨"SlipDeskModel", "four", "(I)V"⟩, 43), (⟨"SlipDeskModel", "readsAll", "()Z"⟩, 43), (⟨"SlipDeskModel", "clauseHere", "()Z"⟩, 43), (⟨"SlipDeskModel", "see", "()I"⟩, 43), (⟨"SlipDeskModel", "isSlipWord", "()Z"⟩, 43), (⟨"SlipDeskModel", "isWord", "(J)Z"⟩, 43), (⟨"SlipDeskModel", "isLetter", "(I)Z"⟩, 43), (⟨"SlipDeskModel", "fails", "(II)Z"⟩, 43), (⟨"SlipDeskModel", "slipLineHere", "(I)Z"⟩, 43), (⟨"SlipDeskModel", "isSlipHere", "(I)Z"⟩, 43)]
theorem lw_r3 : ∀ q ∈ lw_privs_3, lw_okq q := List.forall_mem_cons.mpr ⟨lw_p32, List.forall_mem_cons.mpr ⟨lw_p33, List.forall_mem_cons.mpr ⟨lw_p34, List.forall_mem_cons.mpr ⟨lw_p35, List.forall_mem_cons.mpr ⟨lw_p36, List.forall_mem_cons.mpr ⟨lw_p37, List.forall_mem_cons.mpr ⟨lw_p38, List.forall_mem_cons.mpr ⟨lw_p39, List.forall_mem_cons.mpr ⟨lw_p40, List.forall_mem_cons.mpr ⟨lw_p41, List.forall_mem_cons.mpr ⟨lw_p42, List.forall_mem_cons.mpr ⟨lw_p43, List.forall_mem_cons.mpr ⟨lw_p44, List.forall_mem_cons.mpr ⟨lw_p45, List.forall_mem_cons.mpr ⟨lw_p46, List.forall_mem_cons.mpr ⟨lw_p47, fun _ h => absurd h List.not_mem_nil⟩⟩⟩⟩⟩⟩⟩⟩⟩⟩⟩⟩⟩⟩⟩⟩
theorem lw_p48 : lw_okq (⟨"SlipDeskModel", "passWord", "()V"⟩, 43) := ⟨⟨by decide +kernel, by decide +kernel⟩, List.mem_of_getElem? (i := 914) (by decide +kernel), List.mem_of_getElem? (i := 1106) (by decide +kernel), List.mem_of_getElem? (i := 1107) (by decide +kernel)⟩
theorem lw_p49 : lw_okq (⟨"SlipDeskModel", "cellHere", "(III)Z"⟩, 43) := ⟨⟨by decide +kernel, by decide +kernel⟩, List.mem_of_getElem? (i := 914) (by decide +kernel), List.mem_of_getElem? (i := 1110) (by decide +kernel), List.mem_of_getElem? (i := 1111) (by decide +kernel)⟩
theorem lw_p50 : lw_okq (⟨"SlipDeskModel", "numberHere", "(II)Z"⟩, 43) := ⟨⟨by decide +kernel, by decide +kernel⟩, List.mem_of_getElem? (i := 914) (by decide +kernel), List.mem_of_getElem? (i := 1114) (by decide +kernel), List.mem_of_getElem? (i := 1115) (by decide +kernel)⟩
theorem lw_p51 : lw_okq (⟨"SlipDeskModel", "isDigit", "(I)Z"⟩, 43) := ⟨⟨by decide +kernel, by decide +kernel⟩, List.mem_of_getElem? (i := 914) (by decide +kernel), List.mem_of_getElem? (i := 1118) (by decide +kernel), List.mem_of_getElem? (i := 1119) (by decide +kernel)⟩
theorem lw_p52 : lw_okq (⟨"SlipDeskModel", "isOfferHere", "(I)Z"⟩, 43) := ⟨⟨by decide +kernel, by decide +kernel⟩, List.mem_of_getElem? (i := 914) (by decide +kernel), List.mem_of_getElem? (i := 1125) (by decide +kernel), List.mem_of_getElem? (i := 1126) (by decide +kernel)⟩
theorem lw_p53 : lw_okq (⟨"SlipDeskModel", "isNeedsHere", "(I)Z"⟩, 43) := ⟨⟨by decide +kernel, by decide +kernel⟩, List.mem_of_getElem? (i := 914) (by decide +kernel), List.mem_of_getElem? (i := 1129) (by decide +kernel), List.mem_of_getElem? (i := 1130) (by decide +kernel)⟩
theorem lw_p54 : lw_okq (⟨"SlipDeskModel", "isTakeHere", "()Z"⟩, 43) := ⟨⟨by decide +kernel, by decide +kernel⟩, List.mem_of_getElem? (i := 914) (by decide +kernel), List.mem_of_getElem? (i := 1133) (by decide +kernel), List.mem_of_getElem? (i := 1134) (by decide +kernel)⟩
theorem lw_p55 : lw_okq (⟨"SlipDeskModel", "sum", "()Z"⟩, 43) := ⟨⟨by decide +kernel, by decide +kernel⟩, List.mem_of_getElem? (i := 914) (by decide +kernel), List.mem_of_getElem? (i := 1137) (by decide +kernel), List.mem_of_getElem? (i := 1138) (by decide +kernel)⟩
theorem lw_p56 : lw_okq (⟨"SlipDeskModel", "term", "()Z"⟩, 43) := ⟨⟨by decide +kernel, by decide +kernel⟩, List.mem_of_getElem? (i := 914) (by decide +kernel), List.mem_of_getElem? (i := 1141) (by decide +kernel), List.mem_of_getElem? (i := 1142) (by decide +kernel)⟩
theorem lw_p57 : lw_okq (⟨"SlipDeskModel", "value", "()Z"⟩, 43) := ⟨⟨by decide +kernel, by decide +kernel⟩, List.mem_of_getElem? (i := 914) (by decide +kernel), List.mem_of_getElem? (i := 1145) (by decide +kernel), List.mem_of_getElem? (i := 1146) (by decide +kernel)⟩
theorem lw_p58 : lw_okq (⟨"SlipDeskModel", "makes", "(I)Z"⟩, 43) := ⟨⟨by decide +kernel, by decide +kernel⟩, List.mem_of_getElem? (i := 914) (by decide +kernel), List.mem_of_getElem? (i := 1150) (by decide +kernel), List.mem_of_getElem? (i := 1151) (by decide +kernel)⟩
theorem lw_p59 : lw_okq (⟨"SlipDeskModel", "puts", "(II)V"⟩, 43) := ⟨⟨by decide +kernel, by decide +kernel⟩, List.mem_of_getElem? (i := 914) (by decide +kernel), List.mem_of_getElem? (i := 1154) (by decide +kernel), List.mem_of_getElem? (i := 1155) (by decide +kernel)⟩
theorem lw_p60 : lw_okq (⟨"SlipDeskModel", "wordHere", "()I"⟩, 43) := ⟨⟨by decide +kernel, by decide +kernel⟩, List.mem_of_getElem? (i := 914) (by decide +kernel), List.mem_of_getElem? (i := 1158) (by decide +kernel), List.mem_of_getElem? (i := 1159) (by decide +kernel)⟩
theorem lw_p61 : lw_okq (⟨"SlipDeskModel", "takesWord", "(J)Z"⟩, 43) := ⟨⟨by decide +kernel, by decide +kernel⟩, List.mem_of_getElem? (i := 914) (by decide +kernel), List.mem_of_getElem? (i := 1172) (by decide +kernel), List.mem_of_getElem? (i := 1173) (by decide +kernel)⟩
theorem lw_p62 : lw_okq (⟨"SlipDeskModel", "tested", "()Z"⟩, 43) := ⟨⟨by decide +kernel, by decide +kernel⟩, List.mem_of_getElem? (i := 914) (by decide +kernel), List.mem_of_getElem? (i := 1176) (by decide +kernel), List.mem_of_getElem? (i := 1177) (by decide +kernel)⟩
theorem lw_p63 : lw_okq (⟨"SlipDeskModel", "fact", "()Z"⟩, 43) := ⟨⟨by decide +kernel, by decide +kernel⟩, List.mem_of_getElem? (i := 914) (by decide +kernel), List.mem_of_getElem? (i := 1180) (by decide +kernel), List.mem_of_getElem? (i := 1181) (by decide +kernel)⟩
def lw_privs_4 : List (MethodName × Nat) := [(⟨"SlipDeskModel", "passWord", "()V"⟩, 43), (⟨"SlipDeskModel", "cellHere", "(III)Z"⟩, 43), (⟨"SlipDeskModel", "numberHere", "(II)Z"⟩, 43), (⟨"SlipDeskModel", "isDigit", "(I)Z"⟩, 43), (⟨"SlipDeskModel", "isOfferHere", "(I)Z"⟩, 43), (⟨"SlipDeskModel", "isNeedsHere", "(I)Z"⟩, 43), (⟨"SlipDeskModel", "isTakeHere", "()Z"⟩, 43), (⟨"SlipDeskModel", "sum", "()Z"⟩, 43), (⟨"SlipDeskModel", "term", "()Z"⟩, 43), (⟨"SlipDeskModel", "value", "()Z"⟩, 43), (⟨"SlipDeskModel", "makes", "(I)Z"⟩, 43), (⟨"SlipDeskModel", "puts", "(II)V"⟩, 43), (⟨"SlipDeskModel", "wordHere", "()I"⟩, 43), (⟨"SlipDeskModel", "takesWord", "(J)Z"⟩, 43), (⟨"SlipDeskModel", "tested", "()Z"⟩, 43), (⟨"SlipDeskModel", "fact", "()Z"⟩, 43)]
theorem lw_r4 : ∀ q ∈ lw_privs_4, lw_okq q := List.forall_mem_cons.mpr ⟨lw_p48, List.forall_mem_cons.mpr ⟨lw_p49, List.forall_mem_cons.mpr ⟨lw_p50, List.forall_mem_cons.mpr ⟨lw_p51, List.forall_mem_cons.mpr ⟨lw_p52, List.forall_mem_cons.mpr ⟨lw_p53, List.forall_mem_cons.mpr ⟨lw_p54, List.forall_mem_cons.mpr ⟨lw_p55, List.forall_mem_cons.mpr ⟨lw_p56, List.forall_mem_cons.mpr ⟨lw_p57, List.forall_mem_cons.mpr ⟨lw_p58, List.forall_mem_cons.mpr ⟨lw_p59, List.forall_mem_cons.mpr ⟨lw_p60, List.forall_mem_cons.mpr ⟨lw_p61, List.forall_mem_cons.mpr ⟨lw_p62, List.forall_mem_cons.mpr ⟨lw_p63, fun _ h => absurd h List.not_mem_nil⟩⟩⟩⟩⟩⟩⟩⟩⟩⟩⟩⟩⟩⟩⟩⟩
theorem lw_p64 : lw_okq (⟨"SlipDeskModel", "opens", "(I)Z"⟩, 43) := ⟨⟨by decide +kernel, by decide +kernel⟩, List.mem_of_getElem? (i := 914) (by decide +kernel), List.mem_of_getElem? (i := 1185) (by decide +kernel), List.mem_of_getElem? (i := 1186) (by decide +kernel)⟩
theorem lw_p65 : lw_okq (⟨"SlipDeskModel", "compare", "()Z"⟩, 43) := ⟨⟨by decide +kernel, by decide +kernel⟩, List.mem_of_getElem? (i := 914) (by decide +kernel), List.mem_of_getElem? (i := 1189) (by decide +kernel), List.mem_of_getElem? (i := 1190) (by decide +kernel)⟩
theorem lw_p66 : lw_okq (⟨"SlipDeskModel", "closes", "()V"⟩, 43) := ⟨⟨by decide +kernel, by decide +kernel⟩, List.mem_of_getElem? (i := 914) (by decide +kernel), List.mem_of_getElem? (i := 1193) (by decide +kernel), List.mem_of_getElem? (i := 1194) (by decide +kernel)⟩
theorem lw_p67 : lw_okq (⟨"SlipDeskModel", "layDown", "(I)V"⟩, 43) := ⟨⟨by decide +kernel, by decide +kernel⟩, List.mem_of_getElem? (i := 914) (by decide +kernel), List.mem_of_getElem? (i := 1197) (by decide +kernel), List.mem_of_getElem? (i := 1198) (by decide +kernel)⟩
theorem lw_p68 : lw_okq (⟨"SlipDeskModel", "isInside", "()Z"⟩, 43) := ⟨⟨by decide +kernel, by decide +kernel⟩, List.mem_of_getElem? (i := 914) (by decide +kernel), List.mem_of_getElem? (i := 1204) (by decide +kernel), List.mem_of_getElem? (i := 1205) (by decide +kernel)⟩
theorem lw_p69 : lw_okq (⟨"SlipDeskModel", "begins", "()V"⟩, 43) := ⟨⟨by decide +kernel, by decide +kernel⟩, List.mem_of_getElem? (i := 914) (by decide +kernel), List.mem_of_getElem? (i := 1214) (by decide +kernel), List.mem_of_getElem? (i := 1215) (by decide +kernel)⟩
theorem lw_p70 : lw_okq (⟨"SlipDeskModel", "isRule", "(I)Z"⟩, 43) := ⟨⟨by decide +kernel, by decide +kernel⟩, List.mem_of_getElem? (i := 914) (by decide +kernel), List.mem_of_getElem? (i := 1222) (by decide +kernel), List.mem_of_getElem? (i := 1223) (by decide +kernel)⟩
theorem lw_p71 : lw_okq (⟨"SlipDeskModel", "isOffer", "(I)Z"⟩, 43) := ⟨⟨by decide +kernel, by decide +kernel⟩, List.mem_of_getElem? (i := 914) (by decide +kernel), List.mem_of_getElem? (i := 1230) (by decide +kernel), List.mem_of_getElem? (i := 1231) (by decide +kernel)⟩
theorem lw_p72 : lw_okq (⟨"SlipDeskModel", "needsOf", "(I)I"⟩, 43) := ⟨⟨by decide +kernel, by decide +kernel⟩, List.mem_of_getElem? (i := 914) (by decide +kernel), List.mem_of_getElem? (i := 1234) (by decide +kernel), List.mem_of_getElem? (i := 1235) (by decide +kernel)⟩
theorem lw_p73 : lw_okq (⟨"SlipDeskModel", "signedOf", "(I)I"⟩, 43) := ⟨⟨by decide +kernel, by decide +kernel⟩, List.mem_of_getElem? (i := 914) (by decide +kernel), List.mem_of_getElem? (i := 1238) (by decide +kernel), List.mem_of_getElem? (i := 1239) (by decide +kernel)⟩
theorem lw_p74 : lw_okq (⟨"SlipDeskModel", "isLine", "(I)Z"⟩, 43) := ⟨⟨by decide +kernel, by decide +kernel⟩, List.mem_of_getElem? (i := 914) (by decide +kernel), List.mem_of_getElem? (i := 1242) (by decide +kernel), List.mem_of_getElem? (i := 1243) (by decide +kernel)⟩
theorem lw_p75 : lw_okq (⟨"SlipDeskModel", "signs", "()V"⟩, 43) := ⟨⟨by decide +kernel, by decide +kernel⟩, List.mem_of_getElem? (i := 914) (by decide +kernel), List.mem_of_getElem? (i := 1246) (by decide +kernel), List.mem_of_getElem? (i := 1247) (by decide +kernel)⟩
theorem lw_p76 : lw_okq (⟨"SlipDeskModel", "parts", "(I)V"⟩, 43) := ⟨⟨by decide +kernel, by decide +kernel⟩, List.mem_of_getElem? (i := 914) (by decide +kernel), List.mem_of_getElem? (i := 1250) (by decide +kernel), List.mem_of_getElem? (i := 1251) (by decide +kernel)⟩
theorem lw_p77 : lw_okq (⟨"SlipDeskModel", "placeOf", "(I)I"⟩, 43) := ⟨⟨by decide +kernel, by decide +kernel⟩, List.mem_of_getElem? (i := 914) (by decide +kernel), List.mem_of_getElem? (i := 1254) (by decide +kernel), List.mem_of_getElem? (i := 1255) (by decide +kernel)⟩
theorem lw_p78 : lw_okq (⟨"SlipDeskModel", "holds", "(I)Z"⟩, 43) := ⟨⟨by decide +kernel, by decide +kernel⟩, List.mem_of_getElem? (i := 914) (by decide +kernel), List.mem_of_getElem? (i := 1263) (by decide +kernel), List.mem_of_getElem? (i := 1264) (by decide +kernel)⟩
theorem lw_p79 : lw_okq (⟨"SlipDeskModel", "placed", "()I"⟩, 43) := ⟨⟨by decide +kernel, by decide +kernel⟩, List.mem_of_getElem? (i := 914) (by decide +kernel), List.mem_of_getElem? (i := 1267) (by decide +kernel), List.mem_of_getElem? (i := 1268) (by decide +kernel)⟩
def lw_privs_5 : List (MethodName × Nat) := [(⟨"SlipDeskModel", "opens", "(I)Z"⟩, 43), (⟨"SlipDeskModel", "compare", "()Z"⟩, 43), (⟨"SlipDeskModel", "closes", "()V"⟩, 43), (⟨"SlipDeskModel", "layDown", "(I)V"⟩, 43), (⟨"SlipDeskModel", "isInside", "()Z"⟩, 43), (⟨"SlipDeskModel", "begins", "()V"⟩, 43), (⟨"SlipDeskModel", "isRule", "(I)Z"⟩, 43), (⟨"SlipDeskModel", "isOffer", "(I)Z"⟩, 43), (⟨"SlipDeskModel", "needsOf", "(I)I"⟩, 43), (⟨"SlipDeskModel", "signedOf", "(I)I"⟩, 43), (⟨"SlipDeskModel", "isLine", "(I)Z"⟩, 43), (⟨"SlipDeskModel", "signs", "()V"⟩, 43), (⟨"SlipDeskModel", "parts", "(I)V"⟩, 43), (⟨"SlipDeskModel", "placeOf", "(I)I"⟩, 43), (⟨"SlipDeskModel", "holds", "(I)Z"⟩, 43), (⟨"SlipDeskModel", "placed", "()I"⟩, 43)]
theorem lw_r5 : ∀ q ∈ lw_privs_5, lw_okq q := List.forall_mem_cons.mpr ⟨lw_p64, List.forall_mem_cons.mpr ⟨lw_p65, List.forall_mem_cons.mpr ⟨lw_p66, List.forall_mem_cons.mpr ⟨lw_p67, List.forall_mem_cons.mpr ⟨lw_p68, List.forall_mem_cons.mpr ⟨lw_p69, List.forall_mem_cons.mpr ⟨lw_p70, List.forall_mem_cons.mpr ⟨lw_p71, List.forall_mem_cons.mpr ⟨lw_p72, List.forall_mem_cons.mpr ⟨lw_p73, List.forall_mem_cons.mpr ⟨lw_p74, List.forall_mem_cons.mpr ⟨lw_p75, List.forall_mem_cons.mpr ⟨lw_p76, List.forall_mem_cons.mpr ⟨lw_p77, List.forall_mem_cons.mpr ⟨lw_p78, List.forall_mem_cons.mpr ⟨lw_p79, fun _ h => absurd h List.not_mem_nil⟩⟩⟩⟩⟩⟩⟩⟩⟩⟩⟩⟩⟩⟩⟩⟩
theorem lw_p80 : lw_okq (⟨"SlipDeskModel", "shortNow", "()I"⟩, 43) := ⟨⟨by decide +kernel, by decide +kernel⟩, List.mem_of_getElem? (i := 914) (by decide +kernel), List.mem_of_getElem? (i := 1271) (by decide +kernel), List.mem_of_getElem? (i := 1272) (by decide +kernel)⟩
theorem lw_p81 : lw_okq (⟨"SlipDeskModel", "isSlip", "()Z"⟩, 43) := ⟨⟨by decide +kernel, by decide +kernel⟩, List.mem_of_getElem? (i := 914) (by decide +kernel), List.mem_of_getElem? (i := 1291) (by decide +kernel), List.mem_of_getElem? (i := 1292) (by decide +kernel)⟩
theorem lw_p82 : lw_okq (⟨"SlipDeskModel", "keepsAct", "()V"⟩, 43) := ⟨⟨by decide +kernel, by decide +kernel⟩, List.mem_of_getElem? (i := 914) (by decide +kernel), List.mem_of_getElem? (i := 1295) (by decide +kernel), List.mem_of_getElem? (i := 1296) (by decide +kernel)⟩
theorem lw_p83 : lw_okq (⟨"SlipDeskModel", "passes", "()I"⟩, 43) := ⟨⟨by decide +kernel, by decide +kernel⟩, List.mem_of_getElem? (i := 914) (by decide +kernel), List.mem_of_getElem? (i := 1299) (by decide +kernel), List.mem_of_getElem? (i := 1300) (by decide +kernel)⟩
theorem lw_p84 : lw_okq (⟨"SlipDeskModel", "choice", "()I"⟩, 43) := ⟨⟨by decide +kernel, by decide +kernel⟩, List.mem_of_getElem? (i := 914) (by decide +kernel), List.mem_of_getElem? (i := 1303) (by decide +kernel), List.mem_of_getElem? (i := 1304) (by decide +kernel)⟩
theorem lw_p85 : lw_okq (⟨"SlipDeskModel", "isWaiting", "(I)Z"⟩, 43) := ⟨⟨by decide +kernel, by decide +kernel⟩, List.mem_of_getElem? (i := 914) (by decide +kernel), List.mem_of_getElem? (i := 1307) (by decide +kernel), List.mem_of_getElem? (i := 1308) (by decide +kernel)⟩
theorem lw_p86 : lw_okq (⟨"SlipDeskModel", "sumOf", "(I)J"⟩, 43) := ⟨⟨by decide +kernel, by decide +kernel⟩, List.mem_of_getElem? (i := 914) (by decide +kernel), List.mem_of_getElem? (i := 1311) (by decide +kernel), List.mem_of_getElem? (i := 1312) (by decide +kernel)⟩
theorem lw_p87 : lw_okq (⟨"SlipDeskModel", "onesAt", "(I)I"⟩, 43) := ⟨⟨by decide +kernel, by decide +kernel⟩, List.mem_of_getElem? (i := 914) (by decide +kernel), List.mem_of_getElem? (i := 1315) (by decide +kernel), List.mem_of_getElem? (i := 1316) (by decide +kernel)⟩
theorem lw_p88 : lw_okq (⟨"SlipDeskModel", "summedBy", "(I)J"⟩, 43) := ⟨⟨by decide +kernel, by decide +kernel⟩, List.mem_of_getElem? (i := 914) (by decide +kernel), List.mem_of_getElem? (i := 1322) (by decide +kernel), List.mem_of_getElem? (i := 1323) (by decide +kernel)⟩
theorem lw_p89 : lw_okq (⟨"SlipDeskModel", "reckons", "(III)J"⟩, 43) := ⟨⟨by decide +kernel, by decide +kernel⟩, List.mem_of_getElem? (i := 914) (by decide +kernel), List.mem_of_getElem? (i := 1326) (by decide +kernel), List.mem_of_getElem? (i := 1327) (by decide +kernel)⟩
theorem lw_p90 : lw_okq (⟨"SlipDeskModel", "push", "(J)V"⟩, 43) := ⟨⟨by decide +kernel, by decide +kernel⟩, List.mem_of_getElem? (i := 914) (by decide +kernel), List.mem_of_getElem? (i := 1330) (by decide +kernel), List.mem_of_getElem? (i := 1331) (by decide +kernel)⟩
theorem lw_p91 : lw_okq (⟨"SlipDeskModel", "pop", "()J"⟩, 43) := ⟨⟨by decide +kernel, by decide +kernel⟩, List.mem_of_getElem? (i := 914) (by decide +kernel), List.mem_of_getElem? (i := 1334) (by decide +kernel), List.mem_of_getElem? (i := 1335) (by decide +kernel)⟩
theorem lw_p92 : lw_okq (⟨"SlipDeskModel", "takes", "(I)V"⟩, 43) := ⟨⟨by decide +kernel, by decide +kernel⟩, List.mem_of_getElem? (i := 914) (by decide +kernel), List.mem_of_getElem? (i := 1341) (by decide +kernel), List.mem_of_getElem? (i := 1342) (by decide +kernel)⟩
theorem lw_p93 : lw_okq (⟨"SlipDeskModel", "settlesAll", "()V"⟩, 43) := ⟨⟨by decide +kernel, by decide +kernel⟩, List.mem_of_getElem? (i := 914) (by decide +kernel), List.mem_of_getElem? (i := 1345) (by decide +kernel), List.mem_of_getElem? (i := 1346) (by decide +kernel)⟩
theorem lw_p94 : lw_okq (⟨"SlipDeskModel", "hasAll", "(I)Z"⟩, 43) := ⟨⟨by decide +kernel, by decide +kernel⟩, List.mem_of_getElem? (i := 914) (by decide +kernel), List.mem_of_getElem? (i := 1349) (by decide +kernel), List.mem_of_getElem? (i := 1350) (by decide +kernel)⟩
theorem lw_p95 : lw_okq (⟨"SlipDeskModel", "goesOut", "(I)V"⟩, 43) := ⟨⟨by decide +kernel, by decide +kernel⟩, List.mem_of_getElem? (i := 914) (by decide +kernel), List.mem_of_getElem? (i := 1353) (by decide +kernel), List.mem_of_getElem? (i := 1354) (by decide +kernel)⟩
def lw_privs_6 : List (MethodName × Nat) := [(⟨"SlipDeskModel", "shortNow", "()I"⟩, 43), (⟨"SlipDeskModel", "isSlip", "()Z"⟩, 43), (⟨"SlipDeskModel", "keepsAct", "()V"⟩, 43), (⟨"SlipDeskModel", "passes", "()I"⟩, 43), (⟨"SlipDeskModel", "choice", "()I"⟩, 43), (⟨"SlipDeskModel", "isWaiting", "(I)Z"⟩, 43), (⟨"SlipDeskModel", "sumOf", "(I)J"⟩, 43), (⟨"SlipDeskModel", "onesAt", "(I)I"⟩, 43), (⟨"SlipDeskModel", "summedBy", "(I)J"⟩, 43), (⟨"SlipDeskModel", "reckons", "(III)J"⟩, 43), (⟨"SlipDeskModel", "push", "(J)V"⟩, 43), (⟨"SlipDeskModel", "pop", "()J"⟩, 43), (⟨"SlipDeskModel", "takes", "(I)V"⟩, 43), (⟨"SlipDeskModel", "settlesAll", "()V"⟩, 43), (⟨"SlipDeskModel", "hasAll", "(I)Z"⟩, 43), (⟨"SlipDeskModel", "goesOut", "(I)V"⟩, 43)]
theorem lw_r6 : ∀ q ∈ lw_privs_6, lw_okq q := List.forall_mem_cons.mpr ⟨lw_p80, List.forall_mem_cons.mpr ⟨lw_p81, List.forall_mem_cons.mpr ⟨lw_p82, List.forall_mem_cons.mpr ⟨lw_p83, List.forall_mem_cons.mpr ⟨lw_p84, List.forall_mem_cons.mpr ⟨lw_p85, List.forall_mem_cons.mpr ⟨lw_p86, List.forall_mem_cons.mpr ⟨lw_p87, List.forall_mem_cons.mpr ⟨lw_p88, List.forall_mem_cons.mpr ⟨lw_p89, List.forall_mem_cons.mpr ⟨lw_p90, List.forall_mem_cons.mpr ⟨lw_p91, List.forall_mem_cons.mpr ⟨lw_p92, List.forall_mem_cons.mpr ⟨lw_p93, List.forall_mem_cons.mpr ⟨lw_p94, List.forall_mem_cons.mpr ⟨lw_p95, fun _ h => absurd h List.not_mem_nil⟩⟩⟩⟩⟩⟩⟩⟩⟩⟩⟩⟩⟩⟩⟩⟩
theorem lw_p96 : lw_okq (⟨"SlipDeskModel", "cancels", "(I)I"⟩, 43) := ⟨⟨by decide +kernel, by decide +kernel⟩, List.mem_of_getElem? (i := 914) (by decide +kernel), List.mem_of_getElem? (i := 1361) (by decide +kernel), List.mem_of_getElem? (i := 1362) (by decide +kernel)⟩
theorem lw_p97 : lw_okq (⟨"SlipDeskModel", "partsBySigned", "(I)V"⟩, 43) := ⟨⟨by decide +kernel, by decide +kernel⟩, List.mem_of_getElem? (i := 914) (by decide +kernel), List.mem_of_getElem? (i := 1379) (by decide +kernel), List.mem_of_getElem? (i := 1380) (by decide +kernel)⟩
theorem lw_p98 : lw_okq (⟨"SlipDeskModel", "keeps", "()V"⟩, 43) := ⟨⟨by decide +kernel, by decide +kernel⟩, List.mem_of_getElem? (i := 914) (by decide +kernel), List.mem_of_getElem? (i := 1387) (by decide +kernel), List.mem_of_getElem? (i := 1388) (by decide +kernel)⟩
theorem lw_p99 : lw_okq (⟨"SlipDeskModel", "wouldBe", "(II)I"⟩, 43) := ⟨⟨by decide +kernel, by decide +kernel⟩, List.mem_of_getElem? (i := 914) (by decide +kernel), List.mem_of_getElem? (i := 1391) (by decide +kernel), List.mem_of_getElem? (i := 1392) (by decide +kernel)⟩
theorem lw_p100 : lw_okq (⟨"SlipDeskModel", "laysBack", "()V"⟩, 43) := ⟨⟨by decide +kernel, by decide +kernel⟩, List.mem_of_getElem? (i := 914) (by decide +kernel), List.mem_of_getElem? (i := 1395) (by decide +kernel), List.mem_of_getElem? (i := 1396) (by decide +kernel)⟩
theorem lw_p101 : lw_okq (⟨"SlipDeskModel", "signedAll", "()I"⟩, 43) := ⟨⟨by decide +kernel, by decide +kernel⟩, List.mem_of_getElem? (i := 914) (by decide +kernel), List.mem_of_getElem? (i := 1418) (by decide +kernel), List.mem_of_getElem? (i := 1419) (by decide +kernel)⟩
theorem lw_p102 : lw_okq (⟨"SlipDeskModel", "signedBy", "(I)I"⟩, 43) := ⟨⟨by decide +kernel, by decide +kernel⟩, List.mem_of_getElem? (i := 914) (by decide +kernel), List.mem_of_getElem? (i := 1422) (by decide +kernel), List.mem_of_getElem? (i := 1423) (by decide +kernel)⟩
theorem lw_p103 : lw_okq (⟨"SlipDeskModel", "rowOf", "(I)V"⟩, 43) := ⟨⟨by decide +kernel, by decide +kernel⟩, List.mem_of_getElem? (i := 914) (by decide +kernel), List.mem_of_getElem? (i := 1438) (by decide +kernel), List.mem_of_getElem? (i := 1439) (by decide +kernel)⟩
theorem lw_p104 : lw_okq (⟨"SlipDeskModel", "triesRow", "(Z)V"⟩, 43) := ⟨⟨by decide +kernel, by decide +kernel⟩, List.mem_of_getElem? (i := 914) (by decide +kernel), List.mem_of_getElem? (i := 1442) (by decide +kernel), List.mem_of_getElem? (i := 1443) (by decide +kernel)⟩
theorem lw_p105 : lw_okq (⟨"SlipDeskModel", "passesAll", "(I)V"⟩, 43) := ⟨⟨by decide +kernel, by decide +kernel⟩, List.mem_of_getElem? (i := 914) (by decide +kernel), List.mem_of_getElem? (i := 1452) (by decide +kernel), List.mem_of_getElem? (i := 1453) (by decide +kernel)⟩
theorem lw_p106 : lw_okq (⟨"SlipDeskModel", "fillsRest", "(III)V"⟩, 43) := ⟨⟨by decide +kernel, by decide +kernel⟩, List.mem_of_getElem? (i := 914) (by decide +kernel), List.mem_of_getElem? (i := 1468) (by decide +kernel), List.mem_of_getElem? (i := 1469) (by decide +kernel)⟩
theorem lw_p107 : lw_okq (⟨"SlipDeskModel", "timesOf", "(II)I"⟩, 43) := ⟨⟨by decide +kernel, by decide +kernel⟩, List.mem_of_getElem? (i := 914) (by decide +kernel), List.mem_of_getElem? (i := 1472) (by decide +kernel), List.mem_of_getElem? (i := 1473) (by decide +kernel)⟩
theorem lw_p108 : lw_okq (⟨"SlipDeskModel", "isRest", "(II)Z"⟩, 43) := ⟨⟨by decide +kernel, by decide +kernel⟩, List.mem_of_getElem? (i := 914) (by decide +kernel), List.mem_of_getElem? (i := 1476) (by decide +kernel), List.mem_of_getElem? (i := 1477) (by decide +kernel)⟩
theorem lw_p109 : lw_okq (⟨"SlipDeskModel", "fillsFits", "()V"⟩, 43) := ⟨⟨by decide +kernel, by decide +kernel⟩, List.mem_of_getElem? (i := 914) (by decide +kernel), List.mem_of_getElem? (i := 1493) (by decide +kernel), List.mem_of_getElem? (i := 1494) (by decide +kernel)⟩
theorem lw_p110 : lw_okq (⟨"SlipDeskModel", "areAllSo", "(I)Z"⟩, 43) := ⟨⟨by decide +kernel, by decide +kernel⟩, List.mem_of_getElem? (i := 914) (by decide +kernel), List.mem_of_getElem? (i := 1497) (by decide +kernel), List.mem_of_getElem? (i := 1498) (by decide +kernel)⟩
theorem lw_p111 : lw_okq (⟨"SlipDeskModel", "areNotesSo", "(II)Z"⟩, 43) := ⟨⟨by decide +kernel, by decide +kernel⟩, List.mem_of_getElem? (i := 914) (by decide +kernel), List.mem_of_getElem? (i := 1501) (by decide +kernel), List.mem_of_getElem? (i := 1502) (by decide +kernel)⟩
def lw_privs_7 : List (MethodName × Nat) := [(⟨"SlipDeskModel", "cancels", "(I)I"⟩, 43), (⟨"SlipDeskModel", "partsBySigned", "(I)V"⟩, 43), (⟨"SlipDeskModel", "keeps", "()V"⟩, 43), (⟨"SlipDeskModel", "wouldBe", "(II)I"⟩, 43), (⟨"SlipDeskModel", "laysBack", "()V"⟩, 43), (⟨"SlipDeskModel", "signedAll", "()I"⟩, 43), (⟨"SlipDeskModel", "signedBy", "(I)I"⟩, 43), (⟨"SlipDeskModel", "rowOf", "(I)V"⟩, 43), (⟨"SlipDeskModel", "triesRow", "(Z)V"⟩, 43), (⟨"SlipDeskModel", "passesAll", "(I)V"⟩, 43), (⟨"SlipDeskModel", "fillsRest", "(III)V"⟩, 43), (⟨"SlipDeskModel", "timesOf", "(II)I"⟩, 43), (⟨"SlipDeskModel", "isRest", "(II)Z"⟩, 43), (⟨"SlipDeskModel", "fillsFits", "()V"⟩, 43), (⟨"SlipDeskModel", "areAllSo", "(I)Z"⟩, 43), (⟨"SlipDeskModel", "areNotesSo", "(II)Z"⟩, 43)]
theorem lw_r7 : ∀ q ∈ lw_privs_7, lw_okq q := List.forall_mem_cons.mpr ⟨lw_p96, List.forall_mem_cons.mpr ⟨lw_p97, List.forall_mem_cons.mpr ⟨lw_p98, List.forall_mem_cons.mpr ⟨lw_p99, List.forall_mem_cons.mpr ⟨lw_p100, List.forall_mem_cons.mpr ⟨lw_p101, List.forall_mem_cons.mpr ⟨lw_p102, List.forall_mem_cons.mpr ⟨lw_p103, List.forall_mem_cons.mpr ⟨lw_p104, List.forall_mem_cons.mpr ⟨lw_p105, List.forall_mem_cons.mpr ⟨lw_p106, List.forall_mem_cons.mpr ⟨lw_p107, List.forall_mem_cons.mpr ⟨lw_p108, List.forall_mem_cons.mpr ⟨lw_p109, List.forall_mem_cons.mpr ⟨lw_p110, List.forall_mem_cons.mpr ⟨lw_p111, fun _ h => absurd h List.not_mem_nil⟩⟩⟩⟩⟩⟩⟩⟩⟩⟩⟩⟩⟩⟩⟩⟩
theorem lw_p112 : lw_okq (⟨"SlipDeskModel", "alikeAt", "(I)I"⟩, 43) := ⟨⟨by decide +kernel, by decide +kernel⟩, List.mem_of_getElem? (i := 914) (by decide +kernel), List.mem_of_getElem? (i := 1509) (by decide +kernel), List.mem_of_getElem? (i := 1510) (by decide +kernel)⟩
theorem lw_p113 : lw_okq (⟨"SlipDeskModel", "draw", "(I)I"⟩, 43) := ⟨⟨by decide +kernel, by decide +kernel⟩, List.mem_of_getElem? (i := 914) (by decide +kernel), List.mem_of_getElem? (i := 1531) (by decide +kernel), List.mem_of_getElem? (i := 1532) (by decide +kernel)⟩
theorem lw_p114 : lw_okq (⟨"SlipDeskModel", "changesOne", "()V"⟩, 43) := ⟨⟨by decide +kernel, by decide +kernel⟩, List.mem_of_getElem? (i := 914) (by decide +kernel), List.mem_of_getElem? (i := 1539) (by decide +kernel), List.mem_of_getElem? (i := 1540) (by decide +kernel)⟩
def lw_privs_8 : List (MethodName × Nat) := [(⟨"SlipDeskModel", "alikeAt", "(I)I"⟩, 43), (⟨"SlipDeskModel", "draw", "(I)I"⟩, 43), (⟨"SlipDeskModel", "changesOne", "()V"⟩, 43)]
theorem lw_r8 : ∀ q ∈ lw_privs_8, lw_okq q := List.forall_mem_cons.mpr ⟨lw_p112, List.forall_mem_cons.mpr ⟨lw_p113, List.forall_mem_cons.mpr ⟨lw_p114, fun _ h => absurd h List.not_mem_nil⟩⟩⟩
def lw_privs : List (MethodName × Nat) := lw_privs_1 ++ (lw_privs_2 ++ (lw_privs_3 ++ (lw_privs_4 ++ (lw_privs_5 ++ (lw_privs_6 ++ (lw_privs_7 ++ (lw_privs_8)))))))
def lw_tbl : List Cond := k2_sels lw_privs ++ tables_1
theorem lw_privs_ok : ∀ q ∈ lw_privs, lw_okq q := by
  show ∀ q ∈ lw_privs_1 ++ (lw_privs_2 ++ (lw_privs_3 ++ (lw_privs_4 ++ (lw_privs_5 ++ (lw_privs_6 ++ (lw_privs_7 ++ (lw_privs_8))))))), lw_okq q
  exact List.forall_mem_append.mpr ⟨lw_r1, List.forall_mem_append.mpr ⟨lw_r2, List.forall_mem_append.mpr ⟨lw_r3, List.forall_mem_append.mpr ⟨lw_r4, List.forall_mem_append.mpr ⟨lw_r5, List.forall_mem_append.mpr ⟨lw_r6, List.forall_mem_append.mpr ⟨lw_r7, lw_r8⟩⟩⟩⟩⟩⟩⟩
-- ===== end of PART A; then your names; then what follows =====

def RX0 : String := "SlipDesk$Book"
def TX0 : u_T := fun k => match k with
  | 0 => ("SlipDesk$Book", "ordered", "I", false)
  | 1 => ("SlipDesk$Book", "today", "I", false)
  | 2 => ("SlipDesk$Book", "placed", "I", false)
  | 3 => ("SlipDesk$Book", "lines", "I", false)
  | 4 => ("SlipDesk$Book", "outs", "I", false)
  | 5 => ("SlipDesk$Book", "writes", "[I", true)
  | 6 => ("SlipDesk$Book", "stands", "[I", true)
  | 7 => ("SlipDesk$Book", "where", "[I", true)
  | 8 => ("SlipDesk$Book", "signed", "[I", true)
  | 9 => ("SlipDesk$Book", "paid", "[I", true)
  | 10 => ("SlipDesk$Book", "lineAt", "[I", true)
  | _ => ("SlipDesk$Book", "outAt", "[I", true)
def tyX0 : Nat → FieldType := fun k => match k with
  | 0 => .int
  | 1 => .int
  | 2 => .int
  | 3 => .int
  | 4 => .int
  | 5 => .array .int
  | 6 => .array .int
  | 7 => .array .int
  | 8 => .array .int
  | 9 => .array .int
  | 10 => .array .int
  | _ => .array .int
abbrev wsX00 : List Cond := u_ws RX0 TX0 12
theorem nmX0 : ∀ a, a < 12 → ∀ b, b < 12 → a ≠ b → (TX0 a).2.1 ≠ (TX0 b).2.1 := by decide +kernel
theorem tyX0_ok : ∀ k, k < 12 → parseFieldDescriptor (TX0 k).2.2.1 = some (tyX0 k) := by decide +kernel
abbrev cX0_init : ByteArray := prog_2_method_1_code
def yX0_init : MethodName := ⟨RX0, "<init>", "()V"⟩
abbrev cX0_copyFrom : ByteArray := prog_2_method_2_code
def yX0_copyFrom : MethodName := ⟨RX0, "copyFrom", "(LSlipDesk$Book;)V"⟩
abbrev cX0_begin : ByteArray := prog_2_method_3_code
def yX0_begin : MethodName := ⟨RX0, "begin", "(LSlipDesk$Told;)V"⟩
abbrev cX0_isOn : ByteArray := prog_2_method_4_code
def yX0_isOn : MethodName := ⟨RX0, "isOn", "(I)Z"⟩
abbrev cX0_bitsWhere : ByteArray := prog_2_method_5_code
def yX0_bitsWhere : MethodName := ⟨RX0, "bitsWhere", "(II)I"⟩
abbrev cX0_lineBits : ByteArray := prog_2_method_6_code
def yX0_lineBits : MethodName := ⟨RX0, "lineBits", "()I"⟩
abbrev cX0_lacking : ByteArray := prog_2_method_7_code
def yX0_lacking : MethodName := ⟨RX0, "lacking", "()I"⟩
abbrev cX0_signedOf : ByteArray := prog_2_method_8_code
def yX0_signedOf : MethodName := ⟨RX0, "signedOf", "(I)I"⟩
abbrev cX0_takeIn : ByteArray := prog_2_method_9_code
def yX0_takeIn : MethodName := ⟨RX0, "takeIn", "(I)V"⟩
abbrev cX0_reorder : ByteArray := prog_2_method_10_code
def yX0_reorder : MethodName := ⟨RX0, "reorder", "(I)V"⟩
abbrev cX0_rewrite : ByteArray := prog_2_method_11_code
def yX0_rewrite : MethodName := ⟨RX0, "rewrite", "(II)V"⟩
abbrev cX0_leave : ByteArray := prog_2_method_12_code
def yX0_leave : MethodName := ⟨RX0, "leave", "(I)V"⟩
abbrev cX0_strike : ByteArray := prog_2_method_13_code
def yX0_strike : MethodName := ⟨RX0, "strike", "(ILSlipDesk$Told;)I"⟩
abbrev cX0_settle : ByteArray := prog_2_method_14_code
def yX0_settle : MethodName := ⟨RX0, "settle", "(LSlipDesk$Told;)I"⟩
abbrev cX0_firstInNeed : ByteArray := prog_2_method_15_code
def yX0_firstInNeed : MethodName := ⟨RX0, "firstInNeed", "(LSlipDesk$Told;)I"⟩
abbrev cX0_holds : ByteArray := prog_2_method_16_code
def yX0_holds : MethodName := ⟨RX0, "holds", "(LSlipDesk$Told;I)Z"⟩
abbrev cX0_sign : ByteArray := prog_2_method_17_code
def yX0_sign : MethodName := ⟨RX0, "sign", "()V"⟩
abbrev cX0_partPence : ByteArray := prog_2_method_18_code
def yX0_partPence : MethodName := ⟨RX0, "partPence", "(I[I)V"⟩
abbrev cX0_partAmong : ByteArray := prog_2_method_19_code
def yX0_partAmong : MethodName := ⟨RX0, "partAmong", "(II[I[I)V"⟩
abbrev cX0_lostMost : ByteArray := prog_2_method_20_code
def yX0_lostMost : MethodName := ⟨RX0, "lostMost", "(II[II)I"⟩
def RX1 : String := "SlipDesk$Days"
def TX1 : u_T := fun k => match k with
  | _ => ("SlipDesk$Days", "words", "[J", true)
def tyX1 : Nat → FieldType := fun k => match k with
  | _ => .array .long
abbrev wsX10 : List Cond := u_ws RX1 TX1 1
theorem nmX1 : ∀ a, a < 1 → ∀ b, b < 1 → a ≠ b → (TX1 a).2.1 ≠ (TX1 b).2.1 := by decide +kernel
theorem tyX1_ok : ∀ k, k < 1 → parseFieldDescriptor (TX1 k).2.2.1 = some (tyX1 k) := by decide +kernel
abbrev cX1_init : ByteArray := prog_3_method_1_code
def yX1_init : MethodName := ⟨RX1, "<init>", "()V"⟩
abbrev cX1_pass : ByteArray := prog_3_method_2_code
def yX1_pass : MethodName := ⟨RX1, "pass", "(LSlipDesk$Book;LSlipDesk$Told;LSlipDesk$Rule;)I"⟩
abbrev cX1_choose : ByteArray := prog_3_method_3_code
def yX1_choose : MethodName := ⟨RX1, "choose", "(LSlipDesk$Book;LSlipDesk$Told;LSlipDesk$Rule;)I"⟩
abbrev cX1_layWords : ByteArray := prog_3_method_4_code
def yX1_layWords : MethodName := ⟨RX1, "layWords", "(LSlipDesk$Book;I)V"⟩
def RX2 : String := "SlipDesk$Desk"
def TX2 : u_T := fun k => match k with
  | 0 => ("SlipDesk$Desk", "told", "LSlipDesk$Told;", true)
  | 1 => ("SlipDesk$Desk", "book", "LSlipDesk$Book;", true)
  | 2 => ("SlipDesk$Desk", "notes", "LSlipDesk$Notes;", true)
  | 3 => ("SlipDesk$Desk", "inForce", "I", false)
  | _ => ("SlipDesk$Desk", "x", "I", false)
def tyX2 : Nat → FieldType := fun k => match k with
  | 0 => .object "SlipDesk$Told"
  | 1 => .object "SlipDesk$Book"
  | 2 => .object "SlipDesk$Notes"
  | 3 => .int
  | _ => .int
abbrev wsX20 : List Cond := u_ws RX2 TX2 5
theorem nmX2 : ∀ a, a < 5 → ∀ b, b < 5 → a ≠ b → (TX2 a).2.1 ≠ (TX2 b).2.1 := by decide +kernel
theorem tyX2_ok : ∀ k, k < 5 → parseFieldDescriptor (TX2 k).2.2.1 = some (tyX2 k) := by decide +kernel
abbrev cX2_init : ByteArray := prog_4_method_1_code
def yX2_init : MethodName := ⟨RX2, "<init>", "()V"⟩
abbrev cX2_copyFrom : ByteArray := prog_4_method_2_code
def yX2_copyFrom : MethodName := ⟨RX2, "copyFrom", "(LSlipDesk$Desk;)V"⟩
abbrev cX2_draw : ByteArray := prog_4_method_3_code
def yX2_draw : MethodName := ⟨RX2, "draw", "()I"⟩
def RX3 : String := "SlipDesk$Notes"
def TX3 : u_T := fun k => match k with
  | 0 => ("SlipDesk$Notes", "size", "I", false)
  | 1 => ("SlipDesk$Notes", "onDay", "[I", true)
  | _ => ("SlipDesk$Notes", "taken", "[I", true)
def tyX3 : Nat → FieldType := fun k => match k with
  | 0 => .int
  | 1 => .array .int
  | _ => .array .int
abbrev wsX30 : List Cond := u_ws RX3 TX3 3
theorem nmX3 : ∀ a, a < 3 → ∀ b, b < 3 → a ≠ b → (TX3 a).2.1 ≠ (TX3 b).2.1 := by decide +kernel
theorem tyX3_ok : ∀ k, k < 3 → parseFieldDescriptor (TX3 k).2.2.1 = some (tyX3 k) := by decide +kernel
abbrev cX3_init : ByteArray := prog_5_method_1_code
def yX3_init : MethodName := ⟨RX3, "<init>", "()V"⟩
abbrev cX3_copyFrom : ByteArray := prog_5_method_2_code
def yX3_copyFrom : MethodName := ⟨RX3, "copyFrom", "(LSlipDesk$Notes;)V"⟩
abbrev cX3_adds : ByteArray := prog_5_method_3_code
def yX3_adds : MethodName := ⟨RX3, "adds", "(II)Z"⟩
abbrev cX3_lastDay : ByteArray := prog_5_method_4_code
def yX3_lastDay : MethodName := ⟨RX3, "lastDay", "()I"⟩
abbrev cX3_allow : ByteArray := prog_5_method_5_code
def yX3_allow : MethodName := ⟨RX3, "allow", "(II)Z"⟩
def RX4 : String := "SlipDesk$Rule"
def TX4 : u_T := fun k => match k with
  | 0 => ("SlipDesk$Rule", "clauses", "I", false)
  | 1 => ("SlipDesk$Rule", "size", "I", false)
  | 2 => ("SlipDesk$Rule", "sumFrom", "[I", true)
  | 3 => ("SlipDesk$Rule", "testFrom", "[I", true)
  | 4 => ("SlipDesk$Rule", "testTo", "[I", true)
  | 5 => ("SlipDesk$Rule", "steps", "[I", true)
  | 6 => ("SlipDesk$Rule", "numbers", "[I", true)
  | _ => ("SlipDesk$Rule", "stack", "[J", true)
def tyX4 : Nat → FieldType := fun k => match k with
  | 0 => .int
  | 1 => .int
  | 2 => .array .int
  | 3 => .array .int
  | 4 => .array .int
  | 5 => .array .int
  | 6 => .array .int
  | _ => .array .long
abbrev wsX40 : List Cond := u_ws RX4 TX4 8
theorem nmX4 : ∀ a, a < 8 → ∀ b, b < 8 → a ≠ b → (TX4 a).2.1 ≠ (TX4 b).2.1 := by decide +kernel
theorem tyX4_ok : ∀ k, k < 8 → parseFieldDescriptor (TX4 k).2.2.1 = some (tyX4 k) := by decide +kernel
abbrev cX4_init : ByteArray := prog_6_method_1_code
def yX4_init : MethodName := ⟨RX4, "<init>", "()V"⟩
abbrev cX4_clear : ByteArray := prog_6_method_2_code
def yX4_clear : MethodName := ⟨RX4, "clear", "()V"⟩
abbrev cX4_add : ByteArray := prog_6_method_3_code
def yX4_add : MethodName := ⟨RX4, "add", "(II)V"⟩
abbrev cX4_addClause : ByteArray := prog_6_method_4_code
def yX4_addClause : MethodName := ⟨RX4, "addClause", "(II)V"⟩
abbrev cX4_worth : ByteArray := prog_6_method_5_code
def yX4_worth : MethodName := ⟨RX4, "worth", "([J)J"⟩
abbrev cX4_run : ByteArray := prog_6_method_6_code
def yX4_run : MethodName := ⟨RX4, "run", "(II[J)J"⟩
abbrev cX4_reckon : ByteArray := prog_6_method_7_code
def yX4_reckon : MethodName := ⟨RX4, "reckon", "(IJJ)J"⟩
abbrev cX4_truth : ByteArray := prog_6_method_8_code
def yX4_truth : MethodName := ⟨RX4, "truth", "(IJJ)J"⟩
def RX5 : String := "SlipDesk$RuleReader"
def TX5 : u_T := fun k => match k with
  | _ => ("SlipDesk$RuleReader", "partCount", "I", false)
def tyX5 : Nat → FieldType := fun k => match k with
  | _ => .int
abbrev wsX50 : List Cond := u_ws RX5 TX5 1
theorem nmX5 : ∀ a, a < 1 → ∀ b, b < 1 → a ≠ b → (TX5 a).2.1 ≠ (TX5 b).2.1 := by decide +kernel
theorem tyX5_ok : ∀ k, k < 1 → parseFieldDescriptor (TX5 k).2.2.1 = some (tyX5 k) := by decide +kernel
abbrev cX5_init : ByteArray := prog_7_method_1_code
def yX5_init : MethodName := ⟨RX5, "<init>", "()V"⟩
abbrev cX5_reads : ByteArray := prog_7_method_2_code
def yX5_reads : MethodName := ⟨RX5, "reads", "(LSlipDesk$Text;LSlipDesk$Rule;)Z"⟩
abbrev cX5_readsTest : ByteArray := prog_7_method_3_code
def yX5_readsTest : MethodName := ⟨RX5, "readsTest", "(LSlipDesk$Text;LSlipDesk$Rule;I)Z"⟩
abbrev cX5_readsFact : ByteArray := prog_7_method_4_code
def yX5_readsFact : MethodName := ⟨RX5, "readsFact", "(LSlipDesk$Text;LSlipDesk$Rule;I)Z"⟩
abbrev cX5_readsComparison : ByteArray := prog_7_method_5_code
def yX5_readsComparison : MethodName := ⟨RX5, "readsComparison", "(LSlipDesk$Text;LSlipDesk$Rule;)Z"⟩
abbrev cX5_readsSum : ByteArray := prog_7_method_6_code
def yX5_readsSum : MethodName := ⟨RX5, "readsSum", "(LSlipDesk$Text;LSlipDesk$Rule;)Z"⟩
abbrev cX5_readsValue : ByteArray := prog_7_method_7_code
def yX5_readsValue : MethodName := ⟨RX5, "readsValue", "(LSlipDesk$Text;LSlipDesk$Rule;)Z"⟩
abbrev cX5_stepOf : ByteArray := prog_7_method_8_code
def yX5_stepOf : MethodName := ⟨RX5, "stepOf", "(I)I"⟩
def RX6 : String := "SlipDesk$SlipReader"
def TX6 : u_T := fun k => match k with
  | _ => ("SlipDesk$SlipReader", "read", "LSlipDesk$Told;", true)
def tyX6 : Nat → FieldType := fun k => match k with
  | _ => .object "SlipDesk$Told"
abbrev wsX60 : List Cond := u_ws RX6 TX6 1
theorem nmX6 : ∀ a, a < 1 → ∀ b, b < 1 → a ≠ b → (TX6 a).2.1 ≠ (TX6 b).2.1 := by decide +kernel
theorem tyX6_ok : ∀ k, k < 1 → parseFieldDescriptor (TX6 k).2.2.1 = some (tyX6 k) := by decide +kernel
abbrev cX6_init : ByteArray := prog_8_method_1_code
def yX6_init : MethodName := ⟨RX6, "<init>", "()V"⟩
abbrev cX6_reads : ByteArray := prog_8_method_2_code
def yX6_reads : MethodName := ⟨RX6, "reads", "(LSlipDesk$Text;)Z"⟩
abbrev cX6_readsClause : ByteArray := prog_8_method_3_code
def yX6_readsClause : MethodName := ⟨RX6, "readsClause", "(LSlipDesk$Text;I)Z"⟩
abbrev cX6_readsOffer : ByteArray := prog_8_method_4_code
def yX6_readsOffer : MethodName := ⟨RX6, "readsOffer", "(LSlipDesk$Text;)Z"⟩
abbrev cX6_readsNeed : ByteArray := prog_8_method_5_code
def yX6_readsNeed : MethodName := ⟨RX6, "readsNeed", "(LSlipDesk$Text;)Z"⟩
def RX7 : String := "SlipDesk$Text"
def TX7 : u_T := fun k => match k with
  | 0 => ("SlipDesk$Text", "bytes", "[B", true)
  | 1 => ("SlipDesk$Text", "length", "I", false)
  | 2 => ("SlipDesk$Text", "fault", "I", false)
  | 3 => ("SlipDesk$Text", "tokens", "I", false)
  | 4 => ("SlipDesk$Text", "at", "I", false)
  | 5 => ("SlipDesk$Text", "kinds", "[I", true)
  | 6 => ("SlipDesk$Text", "places", "[I", true)
  | _ => ("SlipDesk$Text", "values", "[I", true)
def tyX7 : Nat → FieldType := fun k => match k with
  | 0 => .array .byte
  | 1 => .int
  | 2 => .int
  | 3 => .int
  | 4 => .int
  | 5 => .array .int
  | 6 => .array .int
  | _ => .array .int
abbrev wsX70 : List Cond := u_ws RX7 TX7 8
theorem nmX7 : ∀ a, a < 8 → ∀ b, b < 8 → a ≠ b → (TX7 a).2.1 ≠ (TX7 b).2.1 := by decide +kernel
theorem tyX7_ok : ∀ k, k < 8 → parseFieldDescriptor (TX7 k).2.2.1 = some (tyX7 k) := by decide +kernel
abbrev cX7_init : ByteArray := prog_9_method_1_code
def yX7_init : MethodName := ⟨RX7, "<init>", "()V"⟩
abbrev cX7_append : ByteArray := prog_9_method_2_code
def yX7_append : MethodName := ⟨RX7, "append", "(I)V"⟩
abbrev cX7_cut : ByteArray := prog_9_method_3_code
def yX7_cut : MethodName := ⟨RX7, "cut", "()V"⟩
abbrev cX7_cutOne : ByteArray := prog_9_method_4_code
def yX7_cutOne : MethodName := ⟨RX7, "cutOne", "(I)I"⟩
abbrev cX7_addToken : ByteArray := prog_9_method_5_code
def yX7_addToken : MethodName := ⟨RX7, "addToken", "(III)V"⟩
abbrev cX7_byteAt : ByteArray := prog_9_method_6_code
def yX7_byteAt : MethodName := ⟨RX7, "byteAt", "(I)I"⟩
abbrev cX7_runOf : ByteArray := prog_9_method_7_code
def yX7_runOf : MethodName := ⟨RX7, "runOf", "(CCI)I"⟩
abbrev cX7_numberAt : ByteArray := prog_9_method_8_code
def yX7_numberAt : MethodName := ⟨RX7, "numberAt", "(II)I"⟩
abbrev cX7_wordAt : ByteArray := prog_9_method_9_code
def yX7_wordAt : MethodName := ⟨RX7, "wordAt", "(II)I"⟩
abbrev cX7_kind : ByteArray := prog_9_method_10_code
def yX7_kind : MethodName := ⟨RX7, "kind", "()I"⟩
abbrev cX7_value : ByteArray := prog_9_method_11_code
def yX7_value : MethodName := ⟨RX7, "value", "()I"⟩
abbrev cX7_step : ByteArray := prog_9_method_12_code
def yX7_step : MethodName := ⟨RX7, "step", "()V"⟩
abbrev cX7_number : ByteArray := prog_9_method_13_code
def yX7_number : MethodName := ⟨RX7, "number", "(II)I"⟩
abbrev cX7_fails : ByteArray := prog_9_method_14_code
def yX7_fails : MethodName := ⟨RX7, "fails", "(I)Z"⟩
def RX8 : String := "SlipDesk$Told"
def TX8 : u_T := fun k => match k with
  | 0 => ("SlipDesk$Told", "there", "Z", false)
  | 1 => ("SlipDesk$Told", "ordered", "I", false)
  | 2 => ("SlipDesk$Told", "offers", "I", false)
  | 3 => ("SlipDesk$Told", "writes", "[I", true)
  | 4 => ("SlipDesk$Told", "stands", "[I", true)
  | 5 => ("SlipDesk$Told", "needsOf", "[I", true)
  | 6 => ("SlipDesk$Told", "needs", "I", false)
  | 7 => ("SlipDesk$Told", "needOffer", "[I", true)
  | 8 => ("SlipDesk$Told", "needKind", "[I", true)
  | _ => ("SlipDesk$Told", "needNumber", "[I", true)
def tyX8 : Nat → FieldType := fun k => match k with
  | 0 => .boolean
  | 1 => .int
  | 2 => .int
  | 3 => .array .int
  | 4 => .array .int
  | 5 => .array .int
  | 6 => .int
  | 7 => .array .int
  | 8 => .array .int
  | _ => .array .int
abbrev wsX80 : List Cond := u_ws RX8 TX8 10
theorem nmX8 : ∀ a, a < 10 → ∀ b, b < 10 → a ≠ b → (TX8 a).2.1 ≠ (TX8 b).2.1 := by decide +kernel
theorem tyX8_ok : ∀ k, k < 10 → parseFieldDescriptor (TX8 k).2.2.1 = some (tyX8 k) := by decide +kernel
abbrev cX8_init : ByteArray := prog_10_method_1_code
def yX8_init : MethodName := ⟨RX8, "<init>", "()V"⟩
abbrev cX8_copyFrom : ByteArray := prog_10_method_2_code
def yX8_copyFrom : MethodName := ⟨RX8, "copyFrom", "(LSlipDesk$Told;)V"⟩
abbrev cX8_addOffer : ByteArray := prog_10_method_3_code
def yX8_addOffer : MethodName := ⟨RX8, "addOffer", "(II)V"⟩
abbrev cX8_addNeed : ByteArray := prog_10_method_4_code
def yX8_addNeed : MethodName := ⟨RX8, "addNeed", "(III)V"⟩
abbrev cX8_findNeed : ByteArray := prog_10_method_5_code
def yX8_findNeed : MethodName := ⟨RX8, "findNeed", "(II)I"⟩
def RX9 : String := "SlipDesk"
def TX9 : u_T := fun k => match k with
  | 0 => ("SlipDesk", "text", "LSlipDesk$Text;", true)
  | 1 => ("SlipDesk", "slipReader", "LSlipDesk$SlipReader;", true)
  | 2 => ("SlipDesk", "ruleReader", "LSlipDesk$RuleReader;", true)
  | 3 => ("SlipDesk", "rules", "[LSlipDesk$Rule;", true)
  | 4 => ("SlipDesk", "ruleCount", "I", false)
  | 5 => ("SlipDesk", "desk", "LSlipDesk$Desk;", true)
  | 6 => ("SlipDesk", "images", "[LSlipDesk$Desk;", true)
  | 7 => ("SlipDesk", "imageMade", "[Z", true)
  | 8 => ("SlipDesk", "past", "[LSlipDesk$Book;", true)
  | 9 => ("SlipDesk", "pastCount", "I", false)
  | 10 => ("SlipDesk", "pastNext", "I", false)
  | 11 => ("SlipDesk", "days", "LSlipDesk$Days;", true)
  | 12 => ("SlipDesk", "trial", "LSlipDesk$Book;", true)
  | 13 => ("SlipDesk", "parts", "[I", true)
  | 14 => ("SlipDesk", "row", "[I", true)
  | 15 => ("SlipDesk", "bestRow", "[I", true)
  | 16 => ("SlipDesk", "courses", "[I", true)
  | _ => ("SlipDesk", "gains", "[I", true)
def tyX9 : Nat → FieldType := fun k => match k with
  | 0 => .object "SlipDesk$Text"
  | 1 => .object "SlipDesk$SlipReader"
  | 2 => .object "SlipDesk$RuleReader"
  | 3 => .array (.object "SlipDesk$Rule")
  | 4 => .int
  | 5 => .object "SlipDesk$Desk"
  | 6 => .array (.object "SlipDesk$Desk")
  | 7 => .array .boolean
  | 8 => .array (.object "SlipDesk$Book")
  | 9 => .int
  | 10 => .int
  | 11 => .object "SlipDesk$Days"
  | 12 => .object "SlipDesk$Book"
  | 13 => .array .int
  | 14 => .array .int
  | 15 => .array .int
  | 16 => .array .int
  | _ => .array .int
abbrev wsX90 : List Cond := u_ws RX9 TX9 18
theorem nmX9 : ∀ a, a < 18 → ∀ b, b < 18 → a ≠ b → (TX9 a).2.1 ≠ (TX9 b).2.1 := by decide +kernel
theorem tyX9_ok : ∀ k, k < 18 → parseFieldDescriptor (TX9 k).2.2.1 = some (tyX9 k) := by decide +kernel
abbrev cX9_init : ByteArray := prog_1_method_1_code
def yX9_init : MethodName := ⟨RX9, "<init>", "()V"⟩
abbrev cX9_feed : ByteArray := prog_1_method_2_code
def yX9_feed : MethodName := ⟨RX9, "feed", "(IIIII)I"⟩
abbrev cX9_end : ByteArray := prog_1_method_3_code
def yX9_end : MethodName := ⟨RX9, "end", "(I)I"⟩
abbrev cX9_slip : ByteArray := prog_1_method_4_code
def yX9_slip : MethodName := ⟨RX9, "slip", "()I"⟩
abbrev cX9_rule : ByteArray := prog_1_method_5_code
def yX9_rule : MethodName := ⟨RX9, "rule", "()I"⟩
abbrev cX9_force : ByteArray := prog_1_method_6_code
def yX9_force : MethodName := ⟨RX9, "force", "(I)I"⟩
abbrev cX9_offer : ByteArray := prog_1_method_7_code
def yX9_offer : MethodName := ⟨RX9, "offer", "(II)I"⟩
abbrev cX9_need : ByteArray := prog_1_method_8_code
def yX9_need : MethodName := ⟨RX9, "need", "(III)I"⟩
abbrev cX9_line : ByteArray := prog_1_method_9_code
def yX9_line : MethodName := ⟨RX9, "line", "(I)I"⟩
abbrev cX9_out : ByteArray := prog_1_method_10_code
def yX9_out : MethodName := ⟨RX9, "out", "(I)I"⟩
abbrev cX9_count : ByteArray := prog_1_method_11_code
def yX9_count : MethodName := ⟨RX9, "count", "(I)I"⟩
abbrev cX9_day : ByteArray := prog_1_method_12_code
def yX9_day : MethodName := ⟨RX9, "day", "()I"⟩
abbrev cX9_cancel : ByteArray := prog_1_method_13_code
def yX9_cancel : MethodName := ⟨RX9, "cancel", "(I)I"⟩
abbrev cX9_order : ByteArray := prog_1_method_14_code
def yX9_order : MethodName := ⟨RX9, "order", "(I)I"⟩
abbrev cX9_write : ByteArray := prog_1_method_15_code
def yX9_write : MethodName := ⟨RX9, "write", "(II)I"⟩
abbrev cX9_claim : ByteArray := prog_1_method_16_code
def yX9_claim : MethodName := ⟨RX9, "claim", "(I)I"⟩
abbrev cX9_undo : ByteArray := prog_1_method_17_code
def yX9_undo : MethodName := ⟨RX9, "undo", "()I"⟩
abbrev cX9_remember : ByteArray := prog_1_method_18_code
def yX9_remember : MethodName := ⟨RX9, "remember", "()V"⟩
abbrev cX9_would : ByteArray := prog_1_method_19_code
def yX9_would : MethodName := ⟨RX9, "would", "(II)I"⟩
abbrev cX9_least : ByteArray := prog_1_method_20_code
def yX9_least : MethodName := ⟨RX9, "least", "(II)I"⟩
abbrev cX9_signedIfWritten : ByteArray := prog_1_method_21_code
def yX9_signedIfWritten : MethodName := ⟨RX9, "signedIfWritten", "(II)I"⟩
abbrev cX9_worst : ByteArray := prog_1_method_22_code
def yX9_worst : MethodName := ⟨RX9, "worst", "(I)I"⟩
abbrev cX9_firm : ByteArray := prog_1_method_23_code
def yX9_firm : MethodName := ⟨RX9, "firm", "()I"⟩
abbrev cX9_tryStriking : ByteArray := prog_1_method_24_code
def yX9_tryStriking : MethodName := ⟨RX9, "tryStriking", "(I)V"⟩
abbrev cX9_half : ByteArray := prog_1_method_25_code
def yX9_half : MethodName := ⟨RX9, "half", "(I)I"⟩
abbrev cX9_agree : ByteArray := prog_1_method_26_code
def yX9_agree : MethodName := ⟨RX9, "agree", "(II)I"⟩
abbrev cX9_isAgreed : ByteArray := prog_1_method_27_code
def yX9_isAgreed : MethodName := ⟨RX9, "isAgreed", "(I)Z"⟩
abbrev cX9_rows : ByteArray := prog_1_method_28_code
def yX9_rows : MethodName := ⟨RX9, "rows", "(I)I"⟩
abbrev cX9_layRow : ByteArray := prog_1_method_29_code
def yX9_layRow : MethodName := ⟨RX9, "layRow", "(II)V"⟩
abbrev cX9_nthBit : ByteArray := prog_1_method_30_code
def yX9_nthBit : MethodName := ⟨RX9, "nthBit", "(II)I"⟩
abbrev cX9_takeRow : ByteArray := prog_1_method_31_code
def yX9_takeRow : MethodName := ⟨RX9, "takeRow", "(I)V"⟩
abbrev cX9_ahead : ByteArray := prog_1_method_32_code
def yX9_ahead : MethodName := ⟨RX9, "ahead", "(II)I"⟩
abbrev cX9_full : ByteArray := prog_1_method_33_code
def yX9_full : MethodName := ⟨RX9, "full", "()I"⟩
abbrev cX9_taken : ByteArray := prog_1_method_34_code
def yX9_taken : MethodName := ⟨RX9, "taken", "(I)I"⟩
abbrev cX9_seasons : ByteArray := prog_1_method_35_code
def yX9_seasons : MethodName := ⟨RX9, "seasons", "(IIII)I"⟩
abbrev cX9_drawCancelling : ByteArray := prog_1_method_36_code
def yX9_drawCancelling : MethodName := ⟨RX9, "drawCancelling", "(I)V"⟩
abbrev cX9_seed : ByteArray := prog_1_method_37_code
def yX9_seed : MethodName := ⟨RX9, "seed", "(I)I"⟩
abbrev cX9_note : ByteArray := prog_1_method_38_code
def yX9_note : MethodName := ⟨RX9, "note", "(II)I"⟩
abbrev cX9_sizes : ByteArray := prog_1_method_39_code
def yX9_sizes : MethodName := ⟨RX9, "sizes", "(II)I"⟩
abbrev cX9_standing : ByteArray := prog_1_method_40_code
def yX9_standing : MethodName := ⟨RX9, "standing", "(I)I"⟩
abbrev cX9_ruled : ByteArray := prog_1_method_41_code
def yX9_ruled : MethodName := ⟨RX9, "ruled", "(I)I"⟩
abbrev cX9_look : ByteArray := prog_1_method_42_code
def yX9_look : MethodName := ⟨RX9, "look", "(I)I"⟩
abbrev cX9_layCourses : ByteArray := prog_1_method_43_code
def yX9_layCourses : MethodName := ⟨RX9, "layCourses", "()I"⟩
abbrev cX9_mostAlike : ByteArray := prog_1_method_44_code
def yX9_mostAlike : MethodName := ⟨RX9, "mostAlike", "(II)I"⟩
abbrev cX9_goesAsNoted : ByteArray := prog_1_method_45_code
def yX9_goesAsNoted : MethodName := ⟨RX9, "goesAsNoted", "(LSlipDesk$Rule;)Z"⟩
abbrev cX9_rests : ByteArray := prog_1_method_46_code
def yX9_rests : MethodName := ⟨RX9, "rests", "(III)I"⟩
abbrev cX9_layGains : ByteArray := prog_1_method_47_code
def yX9_layGains : MethodName := ⟨RX9, "layGains", "(II)V"⟩
abbrev cX9_isRest : ByteArray := prog_1_method_48_code
def yX9_isRest : MethodName := ⟨RX9, "isRest", "(II)Z"⟩
abbrev cX9_pence : ByteArray := prog_1_method_49_code
def yX9_pence : MethodName := ⟨RX9, "pence", "(II)I"⟩
abbrev cX9_image : ByteArray := prog_1_method_50_code
def yX9_image : MethodName := ⟨RX9, "image", "(I)I"⟩
abbrev cX9_back : ByteArray := prog_1_method_51_code
def yX9_back : MethodName := ⟨RX9, "back", "(I)I"⟩
abbrev cX9_isOffer : ByteArray := prog_1_method_52_code
def yX9_isOffer : MethodName := ⟨RX9, "isOffer", "(I)Z"⟩
abbrev cX9_isLine : ByteArray := prog_1_method_53_code
def yX9_isLine : MethodName := ⟨RX9, "isLine", "(I)Z"⟩
abbrev cX9_isNumber : ByteArray := prog_1_method_54_code
def yX9_isNumber : MethodName := ⟨RX9, "isNumber", "(I)Z"⟩
abbrev cX9_ruleAt : ByteArray := prog_1_method_55_code
def yX9_ruleAt : MethodName := ⟨RX9, "ruleAt", "(I)LSlipDesk$Rule;"⟩
abbrev cX9_ruleInForce : ByteArray := prog_1_method_56_code
def yX9_ruleInForce : MethodName := ⟨RX9, "ruleInForce", "()LSlipDesk$Rule;"⟩
def RX10 : String := "SlipDeskModel"
def TX10 : u_T := fun k => match k with
  | 0 => ("SlipDeskModel", "tape", "[B", true)
  | 1 => ("SlipDeskModel", "taped", "I", false)
  | 2 => ("SlipDeskModel", "rules", "I", false)
  | 3 => ("SlipDeskModel", "sign", "[I", true)
  | 4 => ("SlipDeskModel", "length", "[I", true)
  | 5 => ("SlipDeskModel", "clause", "[I", true)
  | 6 => ("SlipDeskModel", "clauses", "[I", true)
  | 7 => ("SlipDeskModel", "read", "[I", true)
  | 8 => ("SlipDeskModel", "next", "I", false)
  | 9 => ("SlipDeskModel", "wrong", "I", false)
  | 10 => ("SlipDeskModel", "number", "I", false)
  | 11 => ("SlipDeskModel", "text", "I", false)
  | 12 => ("SlipDeskModel", "made", "I", false)
  | 13 => ("SlipDeskModel", "deep", "I", false)
  | 14 => ("SlipDeskModel", "lines", "I", false)
  | 15 => ("SlipDeskModel", "open", "[I", true)
  | 16 => ("SlipDeskModel", "opened", "I", false)
  | 17 => ("SlipDeskModel", "stack", "[J", true)
  | 18 => ("SlipDeskModel", "top", "I", false)
  | 19 => ("SlipDeskModel", "word", "[J", true)
  | 20 => ("SlipDeskModel", "said", "[I", true)
  | 21 => ("SlipDeskModel", "force", "I", false)
  | 22 => ("SlipDeskModel", "x", "I", false)
  | 23 => ("SlipDeskModel", "weight", "[I", true)
  | 24 => ("SlipDeskModel", "part", "[I", true)
  | 25 => ("SlipDeskModel", "signed", "[I", true)
  | 26 => ("SlipDeskModel", "wasSaid", "[I", true)
  | 27 => ("SlipDeskModel", "undone", "I", false)
  | 28 => ("SlipDeskModel", "kept", "[I", true)
  | 29 => ("SlipDeskModel", "waiter", "[I", true)
  | 30 => ("SlipDeskModel", "row", "[I", true)
  | 31 => ("SlipDeskModel", "rowBest", "[I", true)
  | 32 => ("SlipDeskModel", "waiters", "I", false)
  | 33 => ("SlipDeskModel", "shortLeast", "I", false)
  | 34 => ("SlipDeskModel", "linesMost", "I", false)
  | 35 => ("SlipDeskModel", "hasBy", "[I", true)
  | 36 => ("SlipDeskModel", "isFit", "[Z", true)
  | 37 => ("SlipDeskModel", "takenThen", "[I", true)
  | 38 => ("SlipDeskModel", "drawX", "J", false)
  | 39 => ("SlipDeskModel", "images", "[I", true)
  | 40 => ("SlipDeskModel", "imageForce", "[I", true)
  | 41 => ("SlipDeskModel", "imageX", "[I", true)
  | _ => ("SlipDeskModel", "isMade", "[Z", true)
def tyX10 : Nat → FieldType := fun k => match k with
  | 0 => .array .byte
  | 1 => .int
  | 2 => .int
  | 3 => .array .int
  | 4 => .array .int
  | 5 => .array .int
  | 6 => .array .int
  | 7 => .array .int
  | 8 => .int
  | 9 => .int
  | 10 => .int
  | 11 => .int
  | 12 => .int
  | 13 => .int
  | 14 => .int
  | 15 => .array .int
  | 16 => .int
  | 17 => .array .long
  | 18 => .int
  | 19 => .array .long
  | 20 => .array .int
  | 21 => .int
  | 22 => .int
  | 23 => .array .int
  | 24 => .array .int
  | 25 => .array .int
  | 26 => .array .int
  | 27 => .int
  | 28 => .array .int
  | 29 => .array .int
  | 30 => .array .int
  | 31 => .array .int
  | 32 => .int
  | 33 => .int
  | 34 => .int
  | 35 => .array .int
  | 36 => .array .boolean
  | 37 => .array .int
  | 38 => .long
  | 39 => .array .int
  | 40 => .array .int
  | 41 => .array .int
  | _ => .array .boolean
abbrev wsX100 : List Cond := u_ws RX10 TX10 43
theorem nmX10 : ∀ a, a < 43 → ∀ b, b < 43 → a ≠ b → (TX10 a).2.1 ≠ (TX10 b).2.1 := by decide +kernel
theorem tyX10_ok : ∀ k, k < 43 → parseFieldDescriptor (TX10 k).2.2.1 = some (tyX10 k) := by decide +kernel
abbrev cX10_init : ByteArray := prog_12_method_1_code
def yX10_init : MethodName := ⟨RX10, "<init>", "()V"⟩
abbrev cX10_in : ByteArray := prog_12_method_2_code
def yX10_in : MethodName := ⟨RX10, "in", "(JJJ)Z"⟩
abbrev cX10_isOf : ByteArray := prog_12_method_3_code
def yX10_isOf : MethodName := ⟨RX10, "isOf", "(II)Z"⟩
abbrev cX10_bits : ByteArray := prog_12_method_4_code
def yX10_bits : MethodName := ⟨RX10, "bits", "(I)I"⟩
abbrev cX10_four : ByteArray := prog_12_method_5_code
def yX10_four : MethodName := ⟨RX10, "four", "(I)V"⟩
abbrev cX10_feed : ByteArray := prog_12_method_6_code
def yX10_feed : MethodName := ⟨RX10, "feed", "(IIIII)I"⟩
abbrev cX10_end : ByteArray := prog_12_method_7_code
def yX10_end : MethodName := ⟨RX10, "end", "(I)I"⟩
abbrev cX10_fails : ByteArray := prog_12_method_8_code
def yX10_fails : MethodName := ⟨RX10, "fails", "(II)Z"⟩
abbrev cX10_see : ByteArray := prog_12_method_9_code
def yX10_see : MethodName := ⟨RX10, "see", "()I"⟩
abbrev cX10_isDigit : ByteArray := prog_12_method_10_code
def yX10_isDigit : MethodName := ⟨RX10, "isDigit", "(I)Z"⟩
abbrev cX10_isLetter : ByteArray := prog_12_method_11_code
def yX10_isLetter : MethodName := ⟨RX10, "isLetter", "(I)Z"⟩
abbrev cX10_isWord : ByteArray := prog_12_method_12_code
def yX10_isWord : MethodName := ⟨RX10, "isWord", "(J)Z"⟩
abbrev cX10_passWord : ByteArray := prog_12_method_13_code
def yX10_passWord : MethodName := ⟨RX10, "passWord", "()V"⟩
abbrev cX10_takesWord : ByteArray := prog_12_method_14_code
def yX10_takesWord : MethodName := ⟨RX10, "takesWord", "(J)Z"⟩
abbrev cX10_numberHere : ByteArray := prog_12_method_15_code
def yX10_numberHere : MethodName := ⟨RX10, "numberHere", "(II)Z"⟩
abbrev cX10_wordHere : ByteArray := prog_12_method_16_code
def yX10_wordHere : MethodName := ⟨RX10, "wordHere", "()I"⟩
abbrev cX10_puts : ByteArray := prog_12_method_17_code
def yX10_puts : MethodName := ⟨RX10, "puts", "(II)V"⟩
abbrev cX10_makes : ByteArray := prog_12_method_18_code
def yX10_makes : MethodName := ⟨RX10, "makes", "(I)Z"⟩
abbrev cX10_opens : ByteArray := prog_12_method_19_code
def yX10_opens : MethodName := ⟨RX10, "opens", "(I)Z"⟩
abbrev cX10_strength : ByteArray := prog_12_method_20_code
def yX10_strength : MethodName := ⟨RX10, "strength", "(I)I"⟩
abbrev cX10_layDown : ByteArray := prog_12_method_21_code
def yX10_layDown : MethodName := ⟨RX10, "layDown", "(I)V"⟩
abbrev cX10_value : ByteArray := prog_12_method_22_code
def yX10_value : MethodName := ⟨RX10, "value", "()Z"⟩
abbrev cX10_term : ByteArray := prog_12_method_23_code
def yX10_term : MethodName := ⟨RX10, "term", "()Z"⟩
abbrev cX10_sum : ByteArray := prog_12_method_24_code
def yX10_sum : MethodName := ⟨RX10, "sum", "()Z"⟩
abbrev cX10_compare : ByteArray := prog_12_method_25_code
def yX10_compare : MethodName := ⟨RX10, "compare", "()Z"⟩
abbrev cX10_fact : ByteArray := prog_12_method_26_code
def yX10_fact : MethodName := ⟨RX10, "fact", "()Z"⟩
abbrev cX10_isInside : ByteArray := prog_12_method_27_code
def yX10_isInside : MethodName := ⟨RX10, "isInside", "()Z"⟩
abbrev cX10_closes : ByteArray := prog_12_method_28_code
def yX10_closes : MethodName := ⟨RX10, "closes", "()V"⟩
abbrev cX10_tested : ByteArray := prog_12_method_29_code
def yX10_tested : MethodName := ⟨RX10, "tested", "()Z"⟩
abbrev cX10_isTakeHere : ByteArray := prog_12_method_30_code
def yX10_isTakeHere : MethodName := ⟨RX10, "isTakeHere", "()Z"⟩
abbrev cX10_cellHere : ByteArray := prog_12_method_31_code
def yX10_cellHere : MethodName := ⟨RX10, "cellHere", "(III)Z"⟩
abbrev cX10_isSlipHere : ByteArray := prog_12_method_32_code
def yX10_isSlipHere : MethodName := ⟨RX10, "isSlipHere", "(I)Z"⟩
abbrev cX10_isOfferHere : ByteArray := prog_12_method_33_code
def yX10_isOfferHere : MethodName := ⟨RX10, "isOfferHere", "(I)Z"⟩
abbrev cX10_isNeedsHere : ByteArray := prog_12_method_34_code
def yX10_isNeedsHere : MethodName := ⟨RX10, "isNeedsHere", "(I)Z"⟩
abbrev cX10_slipLineHere : ByteArray := prog_12_method_35_code
def yX10_slipLineHere : MethodName := ⟨RX10, "slipLineHere", "(I)Z"⟩
abbrev cX10_isSlipWord : ByteArray := prog_12_method_36_code
def yX10_isSlipWord : MethodName := ⟨RX10, "isSlipWord", "()Z"⟩
abbrev cX10_clauseHere : ByteArray := prog_12_method_37_code
def yX10_clauseHere : MethodName := ⟨RX10, "clauseHere", "()Z"⟩
abbrev cX10_readsAll : ByteArray := prog_12_method_38_code
def yX10_readsAll : MethodName := ⟨RX10, "readsAll", "()Z"⟩
abbrev cX10_rule : ByteArray := prog_12_method_39_code
def yX10_rule : MethodName := ⟨RX10, "rule", "()I"⟩
abbrev cX10_slip : ByteArray := prog_12_method_40_code
def yX10_slip : MethodName := ⟨RX10, "slip", "()I"⟩
abbrev cX10_isRule : ByteArray := prog_12_method_41_code
def yX10_isRule : MethodName := ⟨RX10, "isRule", "(I)Z"⟩
abbrev cX10_push : ByteArray := prog_12_method_42_code
def yX10_push : MethodName := ⟨RX10, "push", "(J)V"⟩
abbrev cX10_pop : ByteArray := prog_12_method_43_code
def yX10_pop : MethodName := ⟨RX10, "pop", "()J"⟩
abbrev cX10_one : ByteArray := prog_12_method_44_code
def yX10_one : MethodName := ⟨RX10, "one", "(IJJ)J"⟩
abbrev cX10_reckons : ByteArray := prog_12_method_45_code
def yX10_reckons : MethodName := ⟨RX10, "reckons", "(III)J"⟩
abbrev cX10_isSlip : ByteArray := prog_12_method_46_code
def yX10_isSlip : MethodName := ⟨RX10, "isSlip", "()Z"⟩
abbrev cX10_isOffer : ByteArray := prog_12_method_47_code
def yX10_isOffer : MethodName := ⟨RX10, "isOffer", "(I)Z"⟩
abbrev cX10_isLine : ByteArray := prog_12_method_48_code
def yX10_isLine : MethodName := ⟨RX10, "isLine", "(I)Z"⟩
abbrev cX10_isWaiting : ByteArray := prog_12_method_49_code
def yX10_isWaiting : MethodName := ⟨RX10, "isWaiting", "(I)Z"⟩
abbrev cX10_onesAt : ByteArray := prog_12_method_50_code
def yX10_onesAt : MethodName := ⟨RX10, "onesAt", "(I)I"⟩
abbrev cX10_placed : ByteArray := prog_12_method_51_code
def yX10_placed : MethodName := ⟨RX10, "placed", "()I"⟩
abbrev cX10_shortNow : ByteArray := prog_12_method_52_code
def yX10_shortNow : MethodName := ⟨RX10, "shortNow", "()I"⟩
abbrev cX10_needsOf : ByteArray := prog_12_method_53_code
def yX10_needsOf : MethodName := ⟨RX10, "needsOf", "(I)I"⟩
abbrev cX10_parts : ByteArray := prog_12_method_54_code
def yX10_parts : MethodName := ⟨RX10, "parts", "(I)V"⟩
abbrev cX10_signs : ByteArray := prog_12_method_55_code
def yX10_signs : MethodName := ⟨RX10, "signs", "()V"⟩
abbrev cX10_placeOf : ByteArray := prog_12_method_56_code
def yX10_placeOf : MethodName := ⟨RX10, "placeOf", "(I)I"⟩
abbrev cX10_signedOf : ByteArray := prog_12_method_57_code
def yX10_signedOf : MethodName := ⟨RX10, "signedOf", "(I)I"⟩
abbrev cX10_signedAll : ByteArray := prog_12_method_58_code
def yX10_signedAll : MethodName := ⟨RX10, "signedAll", "()I"⟩
abbrev cX10_holds : ByteArray := prog_12_method_59_code
def yX10_holds : MethodName := ⟨RX10, "holds", "(I)Z"⟩
abbrev cX10_hasAll : ByteArray := prog_12_method_60_code
def yX10_hasAll : MethodName := ⟨RX10, "hasAll", "(I)Z"⟩
abbrev cX10_goesOut : ByteArray := prog_12_method_61_code
def yX10_goesOut : MethodName := ⟨RX10, "goesOut", "(I)V"⟩
abbrev cX10_settlesAll : ByteArray := prog_12_method_62_code
def yX10_settlesAll : MethodName := ⟨RX10, "settlesAll", "()V"⟩
abbrev cX10_takes : ByteArray := prog_12_method_63_code
def yX10_takes : MethodName := ⟨RX10, "takes", "(I)V"⟩
abbrev cX10_begins : ByteArray := prog_12_method_64_code
def yX10_begins : MethodName := ⟨RX10, "begins", "()V"⟩
abbrev cX10_force : ByteArray := prog_12_method_65_code
def yX10_force : MethodName := ⟨RX10, "force", "(I)I"⟩
abbrev cX10_offer : ByteArray := prog_12_method_66_code
def yX10_offer : MethodName := ⟨RX10, "offer", "(II)I"⟩
abbrev cX10_need : ByteArray := prog_12_method_67_code
def yX10_need : MethodName := ⟨RX10, "need", "(III)I"⟩
abbrev cX10_line : ByteArray := prog_12_method_68_code
def yX10_line : MethodName := ⟨RX10, "line", "(I)I"⟩
abbrev cX10_out : ByteArray := prog_12_method_69_code
def yX10_out : MethodName := ⟨RX10, "out", "(I)I"⟩
abbrev cX10_summedBy : ByteArray := prog_12_method_70_code
def yX10_summedBy : MethodName := ⟨RX10, "summedBy", "(I)J"⟩
abbrev cX10_sumOf : ByteArray := prog_12_method_71_code
def yX10_sumOf : MethodName := ⟨RX10, "sumOf", "(I)J"⟩
abbrev cX10_choice : ByteArray := prog_12_method_72_code
def yX10_choice : MethodName := ⟨RX10, "choice", "()I"⟩
abbrev cX10_passes : ByteArray := prog_12_method_73_code
def yX10_passes : MethodName := ⟨RX10, "passes", "()I"⟩
abbrev cX10_passesAll : ByteArray := prog_12_method_74_code
def yX10_passesAll : MethodName := ⟨RX10, "passesAll", "(I)V"⟩
abbrev cX10_keepsAct : ByteArray := prog_12_method_75_code
def yX10_keepsAct : MethodName := ⟨RX10, "keepsAct", "()V"⟩
abbrev cX10_undo : ByteArray := prog_12_method_76_code
def yX10_undo : MethodName := ⟨RX10, "undo", "()I"⟩
abbrev cX10_day : ByteArray := prog_12_method_77_code
def yX10_day : MethodName := ⟨RX10, "day", "()I"⟩
abbrev cX10_cancels : ByteArray := prog_12_method_78_code
def yX10_cancels : MethodName := ⟨RX10, "cancels", "(I)I"⟩
abbrev cX10_cancel : ByteArray := prog_12_method_79_code
def yX10_cancel : MethodName := ⟨RX10, "cancel", "(I)I"⟩
abbrev cX10_order : ByteArray := prog_12_method_80_code
def yX10_order : MethodName := ⟨RX10, "order", "(I)I"⟩
abbrev cX10_write : ByteArray := prog_12_method_81_code
def yX10_write : MethodName := ⟨RX10, "write", "(II)I"⟩
abbrev cX10_partsBySigned : ByteArray := prog_12_method_82_code
def yX10_partsBySigned : MethodName := ⟨RX10, "partsBySigned", "(I)V"⟩
abbrev cX10_claim : ByteArray := prog_12_method_83_code
def yX10_claim : MethodName := ⟨RX10, "claim", "(I)I"⟩
abbrev cX10_keeps : ByteArray := prog_12_method_84_code
def yX10_keeps : MethodName := ⟨RX10, "keeps", "()V"⟩
abbrev cX10_laysBack : ByteArray := prog_12_method_85_code
def yX10_laysBack : MethodName := ⟨RX10, "laysBack", "()V"⟩
abbrev cX10_wouldBe : ByteArray := prog_12_method_86_code
def yX10_wouldBe : MethodName := ⟨RX10, "wouldBe", "(II)I"⟩
abbrev cX10_would : ByteArray := prog_12_method_87_code
def yX10_would : MethodName := ⟨RX10, "would", "(II)I"⟩
abbrev cX10_least : ByteArray := prog_12_method_88_code
def yX10_least : MethodName := ⟨RX10, "least", "(II)I"⟩
abbrev cX10_worst : ByteArray := prog_12_method_89_code
def yX10_worst : MethodName := ⟨RX10, "worst", "(I)I"⟩
abbrev cX10_firm : ByteArray := prog_12_method_90_code
def yX10_firm : MethodName := ⟨RX10, "firm", "()I"⟩
abbrev cX10_signedBy : ByteArray := prog_12_method_91_code
def yX10_signedBy : MethodName := ⟨RX10, "signedBy", "(I)I"⟩
abbrev cX10_half : ByteArray := prog_12_method_92_code
def yX10_half : MethodName := ⟨RX10, "half", "(I)I"⟩
abbrev cX10_agree : ByteArray := prog_12_method_93_code
def yX10_agree : MethodName := ⟨RX10, "agree", "(II)I"⟩
abbrev cX10_waysOf : ByteArray := prog_12_method_94_code
def yX10_waysOf : MethodName := ⟨RX10, "waysOf", "(I)I"⟩
abbrev cX10_rowOf : ByteArray := prog_12_method_95_code
def yX10_rowOf : MethodName := ⟨RX10, "rowOf", "(I)V"⟩
abbrev cX10_triesRow : ByteArray := prog_12_method_96_code
def yX10_triesRow : MethodName := ⟨RX10, "triesRow", "(Z)V"⟩
abbrev cX10_rows : ByteArray := prog_12_method_97_code
def yX10_rows : MethodName := ⟨RX10, "rows", "(I)I"⟩
abbrev cX10_ahead : ByteArray := prog_12_method_98_code
def yX10_ahead : MethodName := ⟨RX10, "ahead", "(II)I"⟩
abbrev cX10_full : ByteArray := prog_12_method_99_code
def yX10_full : MethodName := ⟨RX10, "full", "()I"⟩
abbrev cX10_taken : ByteArray := prog_12_method_100_code
def yX10_taken : MethodName := ⟨RX10, "taken", "(I)I"⟩
abbrev cX10_isRest : ByteArray := prog_12_method_101_code
def yX10_isRest : MethodName := ⟨RX10, "isRest", "(II)Z"⟩
abbrev cX10_timesOf : ByteArray := prog_12_method_102_code
def yX10_timesOf : MethodName := ⟨RX10, "timesOf", "(II)I"⟩
abbrev cX10_fillsRest : ByteArray := prog_12_method_103_code
def yX10_fillsRest : MethodName := ⟨RX10, "fillsRest", "(III)V"⟩
abbrev cX10_rests : ByteArray := prog_12_method_104_code
def yX10_rests : MethodName := ⟨RX10, "rests", "(III)I"⟩
abbrev cX10_pence : ByteArray := prog_12_method_105_code
def yX10_pence : MethodName := ⟨RX10, "pence", "(II)I"⟩
abbrev cX10_note : ByteArray := prog_12_method_106_code
def yX10_note : MethodName := ⟨RX10, "note", "(II)I"⟩
abbrev cX10_areNotesSo : ByteArray := prog_12_method_107_code
def yX10_areNotesSo : MethodName := ⟨RX10, "areNotesSo", "(II)Z"⟩
abbrev cX10_areAllSo : ByteArray := prog_12_method_108_code
def yX10_areAllSo : MethodName := ⟨RX10, "areAllSo", "(I)Z"⟩
abbrev cX10_fillsFits : ByteArray := prog_12_method_109_code
def yX10_fillsFits : MethodName := ⟨RX10, "fillsFits", "()V"⟩
abbrev cX10_ruled : ByteArray := prog_12_method_110_code
def yX10_ruled : MethodName := ⟨RX10, "ruled", "(I)I"⟩
abbrev cX10_alikeAt : ByteArray := prog_12_method_111_code
def yX10_alikeAt : MethodName := ⟨RX10, "alikeAt", "(I)I"⟩
abbrev cX10_look : ByteArray := prog_12_method_112_code
def yX10_look : MethodName := ⟨RX10, "look", "(I)I"⟩
abbrev cX10_sizes : ByteArray := prog_12_method_113_code
def yX10_sizes : MethodName := ⟨RX10, "sizes", "(II)I"⟩
abbrev cX10_standing : ByteArray := prog_12_method_114_code
def yX10_standing : MethodName := ⟨RX10, "standing", "(I)I"⟩
abbrev cX10_seed : ByteArray := prog_12_method_115_code
def yX10_seed : MethodName := ⟨RX10, "seed", "(I)I"⟩
abbrev cX10_draw : ByteArray := prog_12_method_116_code
def yX10_draw : MethodName := ⟨RX10, "draw", "(I)I"⟩
abbrev cX10_changesOne : ByteArray := prog_12_method_117_code
def yX10_changesOne : MethodName := ⟨RX10, "changesOne", "()V"⟩
abbrev cX10_seasons : ByteArray := prog_12_method_118_code
def yX10_seasons : MethodName := ⟨RX10, "seasons", "(IIII)I"⟩
abbrev cX10_count : ByteArray := prog_12_method_119_code
def yX10_count : MethodName := ⟨RX10, "count", "(I)I"⟩
abbrev cX10_image : ByteArray := prog_12_method_120_code
def yX10_image : MethodName := ⟨RX10, "image", "(I)I"⟩
abbrev cX10_back : ByteArray := prog_12_method_121_code
def yX10_back : MethodName := ⟨RX10, "back", "(I)I"⟩
def RJ6 : String := "java/lang/Integer"
def TJ6 : u_T := fun k => match k with
  | _ => ("", "", "", false)
def tyJ6 : Nat → FieldType := fun k => match k with
  | _ => .int
abbrev wsJ60 : List Cond := u_ws RJ6 TJ6 0
theorem nmJ6 : ∀ a, a < 0 → ∀ b, b < 0 → a ≠ b → (TJ6 a).2.1 ≠ (TJ6 b).2.1 := by decide +kernel
theorem tyJ6_ok : ∀ k, k < 0 → parseFieldDescriptor (TJ6 k).2.2.1 = some (tyJ6 k) := by decide +kernel
abbrev cJ6_bitCount_0f7a4 : ByteArray := prog_13_method_49_code
def yJ6_bitCount_0f7a4 : MethodName := ⟨RJ6, "bitCount", "(I)I"⟩
def RJ9 : String := "java/lang/Math"
def TJ9 : u_T := fun k => match k with
  | _ => ("", "", "", false)
def tyJ9 : Nat → FieldType := fun k => match k with
  | _ => .int
abbrev wsJ90 : List Cond := u_ws RJ9 TJ9 0
theorem nmJ9 : ∀ a, a < 0 → ∀ b, b < 0 → a ≠ b → (TJ9 a).2.1 ≠ (TJ9 b).2.1 := by decide +kernel
theorem tyJ9_ok : ∀ k, k < 0 → parseFieldDescriptor (TJ9 k).2.2.1 = some (tyJ9 k) := by decide +kernel
abbrev cJ9_max_7cf53 : ByteArray := prog_14_method_65_code
def yJ9_max_7cf53 : MethodName := ⟨RJ9, "max", "(II)I"⟩
abbrev cJ9_min_7cf53 : ByteArray := prog_14_method_69_code
def yJ9_min_7cf53 : MethodName := ⟨RJ9, "min", "(II)I"⟩
def RJ0 : String := "java/lang/String"
def TJ0 : u_T := fun k => match k with
  | _ => ("", "", "", false)
def tyJ0 : Nat → FieldType := fun k => match k with
  | _ => .int
abbrev wsJ00 : List Cond := u_ws RJ0 TJ0 0
theorem nmJ0 : ∀ a, a < 0 → ∀ b, b < 0 → a ≠ b → (TJ0 a).2.1 ≠ (TJ0 b).2.1 := by decide +kernel
theorem tyJ0_ok : ∀ k, k < 0 → parseFieldDescriptor (TJ0 k).2.2.1 = some (tyJ0 k) := by decide +kernel
abbrev cJ0_length_8abf5 : ByteArray := prog_15_method_54_code
def yJ0_length_8abf5 : MethodName := ⟨RJ0, "length", "()I"⟩
abbrev cJ0_charAt_5068e : ByteArray := prog_15_method_56_code
def yJ0_charAt_5068e : MethodName := ⟨RJ0, "charAt", "(I)C"⟩
abbrev cJ0_coder_7d493 : ByteArray := prog_15_method_152_code
def yJ0_coder_7d493 : MethodName := ⟨RJ0, "coder", "()B"⟩
abbrev cJ0_isLatin1_aae02 : ByteArray := prog_15_method_154_code
def yJ0_isLatin1_aae02 : MethodName := ⟨RJ0, "isLatin1", "()Z"⟩
abbrev cJ0_checkIndex_df160 : ByteArray := prog_15_method_155_code
def yJ0_checkIndex_df160 : MethodName := ⟨RJ0, "checkIndex", "(II)V"⟩
def RJ1 : String := "java/lang/StringLatin1"
def TJ1 : u_T := fun k => match k with
  | _ => ("", "", "", false)
def tyJ1 : Nat → FieldType := fun k => match k with
  | _ => .int
abbrev wsJ10 : List Cond := u_ws RJ1 TJ1 0
theorem nmJ1 : ∀ a, a < 0 → ∀ b, b < 0 → a ≠ b → (TJ1 a).2.1 ≠ (TJ1 b).2.1 := by decide +kernel
theorem tyJ1_ok : ∀ k, k < 0 → parseFieldDescriptor (TJ1 k).2.2.1 = some (tyJ1 k) := by decide +kernel
abbrev cJ1_charAt_3b067 : ByteArray := prog_16_method_2_code
def yJ1_charAt_3b067 : MethodName := ⟨RJ1, "charAt", "([BI)C"⟩
def RJ2 : String := "java/lang/StringUTF16"
def TJ2 : u_T := fun k => match k with
  | _ => ("", "", "", false)
def tyJ2 : Nat → FieldType := fun k => match k with
  | _ => .int
abbrev wsJ20 : List Cond := u_ws RJ2 TJ2 0
theorem nmJ2 : ∀ a, a < 0 → ∀ b, b < 0 → a ≠ b → (TJ2 a).2.1 ≠ (TJ2 b).2.1 := by decide +kernel
theorem tyJ2_ok : ∀ k, k < 0 → parseFieldDescriptor (TJ2 k).2.2.1 = some (tyJ2 k) := by decide +kernel
abbrev cJ2_getChar_3b067 : ByteArray := prog_17_method_5_code
def yJ2_getChar_3b067 : MethodName := ⟨RJ2, "getChar", "([BI)C"⟩
abbrev cJ2_length_9d52b : ByteArray := prog_17_method_6_code
def yJ2_length_9d52b : MethodName := ⟨RJ2, "length", "([B)I"⟩
abbrev cJ2_charAt_3b067 : ByteArray := prog_17_method_83_code
def yJ2_charAt_3b067 : MethodName := ⟨RJ2, "charAt", "([BI)C"⟩
abbrev cJ2_checkIndex_2214a : ByteArray := prog_17_method_91_code
def yJ2_checkIndex_2214a : MethodName := ⟨RJ2, "checkIndex", "(I[B)V"⟩
def RJ10 : String := "java/lang/System"
def TJ10 : u_T := fun k => match k with
  | _ => ("", "", "", false)
def tyJ10 : Nat → FieldType := fun k => match k with
  | _ => .int
abbrev wsJ100 : List Cond := u_ws RJ10 TJ10 0
theorem nmJ10 : ∀ a, a < 0 → ∀ b, b < 0 → a ≠ b → (TJ10 a).2.1 ≠ (TJ10 b).2.1 := by decide +kernel
theorem tyJ10_ok : ∀ k, k < 0 → parseFieldDescriptor (TJ10 k).2.2.1 = some (tyJ10 k) := by decide +kernel
def RJ3 : String := "jdk/internal/util/Preconditions"
def TJ3 : u_T := fun k => match k with
  | _ => ("", "", "", false)
def tyJ3 : Nat → FieldType := fun k => match k with
  | _ => .int
abbrev wsJ30 : List Cond := u_ws RJ3 TJ3 0
theorem nmJ3 : ∀ a, a < 0 → ∀ b, b < 0 → a ≠ b → (TJ3 a).2.1 ≠ (TJ3 b).2.1 := by decide +kernel
theorem tyJ3_ok : ∀ k, k < 0 → parseFieldDescriptor (TJ3 k).2.2.1 = some (tyJ3 k) := by decide +kernel
abbrev cJ3_checkIndex_8e157 : ByteArray := prog_19_method_11_code
def yJ3_checkIndex_8e157 : MethodName := ⟨RJ3, "checkIndex", "(IILjava/util/function/BiFunction;)I"⟩
abbrev vwCl : List vw_C := [(RX0, TX0, 12), (RX1, TX1, 1), (RX2, TX2, 5), (RX3, TX3, 3), (RX4, TX4, 8), (RX5, TX5, 1), (RX6, TX6, 1), (RX7, TX7, 8), (RX8, TX8, 10), (RX9, TX9, 18), (RX10, TX10, 43)]
