section
-- ===== PART A: goes FIRST, ahead of the names: the tables' words, and 'selects' of the private methods out of them =====
/-- a private method of a class that the tables say can be made, by its rows of tables_1 -/
def lw_okq (q : MethodName × Nat) : Prop := (q.1.cls ≠ "java/lang/invoke/MethodHandle" ∧ q.1.cls ≠ "java/lang/invoke/VarHandle") ∧ Cond.instantiable q.1.cls q.2 ∈ tables_1 ∧ Cond.privateMethod q.1 ∈ tables_1 ∧ Cond.instanceMethod q.1 ∈ tables_1
theorem lw_p0 : lw_okq (⟨"LimitBank$VectorText", "afterBlanks", "(I)I"⟩, 3) := ⟨⟨by decide +kernel, by decide +kernel⟩, List.mem_of_getElem? (i := 22) (by decide +kernel), List.mem_of_getElem? (i := 202) (by decide +kernel), List.mem_of_getElem? (i := 203) (by decide +kernel)⟩
theorem lw_p1 : lw_okq (⟨"LimitBank$VectorText", "byteAt", "(I)I"⟩, 3) := ⟨⟨by decide +kernel, by decide +kernel⟩, List.mem_of_getElem? (i := 22) (by decide +kernel), List.mem_of_getElem? (i := 206) (by decide +kernel), List.mem_of_getElem? (i := 207) (by decide +kernel)⟩
theorem lw_p2 : lw_okq (⟨"LimitBank$VectorText", "afterLetters", "(I)I"⟩, 3) := ⟨⟨by decide +kernel, by decide +kernel⟩, List.mem_of_getElem? (i := 22) (by decide +kernel), List.mem_of_getElem? (i := 211) (by decide +kernel), List.mem_of_getElem? (i := 212) (by decide +kernel)⟩
theorem lw_p3 : lw_okq (⟨"LimitBank$VectorText", "nameBetween", "(II)I"⟩, 3) := ⟨⟨by decide +kernel, by decide +kernel⟩, List.mem_of_getElem? (i := 22) (by decide +kernel), List.mem_of_getElem? (i := 216) (by decide +kernel), List.mem_of_getElem? (i := 217) (by decide +kernel)⟩
theorem lw_p4 : lw_okq (⟨"LimitBank$VectorText", "isBetween", "(Ljava/lang/String;II)Z"⟩, 3) := ⟨⟨by decide +kernel, by decide +kernel⟩, List.mem_of_getElem? (i := 22) (by decide +kernel), List.mem_of_getElem? (i := 227) (by decide +kernel), List.mem_of_getElem? (i := 228) (by decide +kernel)⟩
theorem lw_p5 : lw_okq (⟨"LimitBank$VectorText", "isDigit", "(I)Z"⟩, 3) := ⟨⟨by decide +kernel, by decide +kernel⟩, List.mem_of_getElem? (i := 22) (by decide +kernel), List.mem_of_getElem? (i := 279) (by decide +kernel), List.mem_of_getElem? (i := 280) (by decide +kernel)⟩
theorem lw_p6 : lw_okq (⟨"LimitBank$VectorText", "numberBetween", "(II)I"⟩, 3) := ⟨⟨by decide +kernel, by decide +kernel⟩, List.mem_of_getElem? (i := 22) (by decide +kernel), List.mem_of_getElem? (i := 283) (by decide +kernel), List.mem_of_getElem? (i := 284) (by decide +kernel)⟩
theorem lw_p7 : lw_okq (⟨"LimitBank$History", "dropOldest", "()V"⟩, 2) := ⟨⟨by decide +kernel, by decide +kernel⟩, List.mem_of_getElem? (i := 141) (by decide +kernel), List.mem_of_getElem? (i := 300) (by decide +kernel), List.mem_of_getElem? (i := 301) (by decide +kernel)⟩
theorem lw_p8 : lw_okq (⟨"LimitBank$Ledger", "fits", "(I)Z"⟩, 18) := ⟨⟨by decide +kernel, by decide +kernel⟩, List.mem_of_getElem? (i := 42) (by decide +kernel), List.mem_of_getElem? (i := 398) (by decide +kernel), List.mem_of_getElem? (i := 399) (by decide +kernel)⟩
theorem lw_p9 : lw_okq (⟨"LimitBank$Ledger", "addUse", "(LLimitBank$Claims;II)V"⟩, 18) := ⟨⟨by decide +kernel, by decide +kernel⟩, List.mem_of_getElem? (i := 42) (by decide +kernel), List.mem_of_getElem? (i := 418) (by decide +kernel), List.mem_of_getElem? (i := 419) (by decide +kernel)⟩
theorem lw_p10 : lw_okq (⟨"LimitBank$Ledger", "isSolvent", "(I)Z"⟩, 18) := ⟨⟨by decide +kernel, by decide +kernel⟩, List.mem_of_getElem? (i := 42) (by decide +kernel), List.mem_of_getElem? (i := 497) (by decide +kernel), List.mem_of_getElem? (i := 498) (by decide +kernel)⟩
theorem lw_p11 : lw_okq (⟨"LimitBank$Ledger", "rentOf", "(I)I"⟩, 18) := ⟨⟨by decide +kernel, by decide +kernel⟩, List.mem_of_getElem? (i := 42) (by decide +kernel), List.mem_of_getElem? (i := 502) (by decide +kernel), List.mem_of_getElem? (i := 503) (by decide +kernel)⟩
theorem lw_p12 : lw_okq (⟨"LimitBank$Ledger", "bankrupt", "(I)V"⟩, 18) := ⟨⟨by decide +kernel, by decide +kernel⟩, List.mem_of_getElem? (i := 42) (by decide +kernel), List.mem_of_getElem? (i := 510) (by decide +kernel), List.mem_of_getElem? (i := 511) (by decide +kernel)⟩
theorem lw_p13 : lw_okq (⟨"LimitBank$Ledger", "redeemFirst", "()V"⟩, 18) := ⟨⟨by decide +kernel, by decide +kernel⟩, List.mem_of_getElem? (i := 42) (by decide +kernel), List.mem_of_getElem? (i := 520) (by decide +kernel), List.mem_of_getElem? (i := 521) (by decide +kernel)⟩
theorem lw_p14 : lw_okq (⟨"LimitBank", "makePlan", "()I"⟩, 6) := ⟨⟨by decide +kernel, by decide +kernel⟩, List.mem_of_getElem? (i := 14) (by decide +kernel), List.mem_of_getElem? (i := 567) (by decide +kernel), List.mem_of_getElem? (i := 568) (by decide +kernel)⟩
theorem lw_p15 : lw_okq (⟨"LimitBank", "foretellRuins", "()V"⟩, 6) := ⟨⟨by decide +kernel, by decide +kernel⟩, List.mem_of_getElem? (i := 14) (by decide +kernel), List.mem_of_getElem? (i := 580) (by decide +kernel), List.mem_of_getElem? (i := 581) (by decide +kernel)⟩
def lw_privs_1 : List (MethodName × Nat) := [(⟨"LimitBank$VectorText", "afterBlanks", "(I)I"⟩, 3), (⟨"LimitBank$VectorText", "byteAt", "(I)I"⟩, 3), (⟨"LimitBank$VectorText", "afterLetters", "(I)I"⟩, 3), (⟨"LimitBank$VectorText", "nameBetween", "(II)I"⟩, 3), (⟨"LimitBank$VectorText", "isBetween", "(Ljava/lang/String;II)Z"⟩, 3), (⟨"LimitBank$VectorText", "isDigit", "(I)Z"⟩, 3), (⟨"LimitBank$VectorText", "numberBetween", "(II)I"⟩, 3), (⟨"LimitBank$History", "dropOldest", "()V"⟩, 2), (⟨"LimitBank$Ledger", "fits", "(I)Z"⟩, 18), (⟨"LimitBank$Ledger", "addUse", "(LLimitBank$Claims;II)V"⟩, 18), (⟨"LimitBank$Ledger", "isSolvent", "(I)Z"⟩, 18), (⟨"LimitBank$Ledger", "rentOf", "(I)I"⟩, 18), (⟨"LimitBank$Ledger", "bankrupt", "(I)V"⟩, 18), (⟨"LimitBank$Ledger", "redeemFirst", "()V"⟩, 18), (⟨"LimitBank", "makePlan", "()I"⟩, 6), (⟨"LimitBank", "foretellRuins", "()V"⟩, 6)]
theorem lw_r1 : ∀ q ∈ lw_privs_1, lw_okq q := List.forall_mem_cons.mpr ⟨lw_p0, List.forall_mem_cons.mpr ⟨lw_p1, List.forall_mem_cons.mpr ⟨lw_p2, List.forall_mem_cons.mpr ⟨lw_p3, List.forall_mem_cons.mpr ⟨lw_p4, List.forall_mem_cons.mpr ⟨lw_p5, List.forall_mem_cons.mpr ⟨lw_p6, List.forall_mem_cons.mpr ⟨lw_p7, List.forall_mem_cons.mpr ⟨lw_p8, List.forall_mem_cons.mpr ⟨lw_p9, List.forall_mem_cons.mpr ⟨lw_p10, List.forall_mem_cons.mpr ⟨lw_p11, List.forall_mem_cons.mpr ⟨lw_p12, List.forall_mem_cons.mpr ⟨lw_p13, List.forall_mem_cons.mpr ⟨lw_p14, List.forall_mem_cons.mpr ⟨lw_p15, fun _ h => absurd h List.not_mem_nil⟩⟩⟩⟩⟩⟩⟩⟩⟩⟩⟩⟩⟩⟩⟩⟩
theorem lw_p16 : lw_okq (⟨"LimitBank", "noteRuins", "(I)I"⟩, 6) := ⟨⟨by decide +kernel, by decide +kernel⟩, List.mem_of_getElem? (i := 14) (by decide +kernel), List.mem_of_getElem? (i := 584) (by decide +kernel), List.mem_of_getElem? (i := 585) (by decide +kernel)⟩
theorem lw_p17 : lw_okq (⟨"LimitBank", "withTenant", "(JI)J"⟩, 6) := ⟨⟨by decide +kernel, by decide +kernel⟩, List.mem_of_getElem? (i := 14) (by decide +kernel), List.mem_of_getElem? (i := 600) (by decide +kernel), List.mem_of_getElem? (i := 601) (by decide +kernel)⟩
theorem lw_p18 : lw_okq (⟨"LimitBank", "withPlan", "(J)J"⟩, 6) := ⟨⟨by decide +kernel, by decide +kernel⟩, List.mem_of_getElem? (i := 14) (by decide +kernel), List.mem_of_getElem? (i := 610) (by decide +kernel), List.mem_of_getElem? (i := 611) (by decide +kernel)⟩
theorem lw_p19 : lw_okq (⟨"LimitBank", "withText", "(J)J"⟩, 6) := ⟨⟨by decide +kernel, by decide +kernel⟩, List.mem_of_getElem? (i := 14) (by decide +kernel), List.mem_of_getElem? (i := 614) (by decide +kernel), List.mem_of_getElem? (i := 615) (by decide +kernel)⟩
theorem lw_p20 : lw_okq (⟨"LimitBankModel", "reads", "()V"⟩, 11) := ⟨⟨by decide +kernel, by decide +kernel⟩, List.mem_of_getElem? (i := 618) (by decide +kernel), List.mem_of_getElem? (i := 680) (by decide +kernel), List.mem_of_getElem? (i := 681) (by decide +kernel)⟩
theorem lw_p21 : lw_okq (⟨"LimitBankModel", "blanks", "()V"⟩, 11) := ⟨⟨by decide +kernel, by decide +kernel⟩, List.mem_of_getElem? (i := 618) (by decide +kernel), List.mem_of_getElem? (i := 685) (by decide +kernel), List.mem_of_getElem? (i := 686) (by decide +kernel)⟩
theorem lw_p22 : lw_okq (⟨"LimitBankModel", "next", "()I"⟩, 11) := ⟨⟨by decide +kernel, by decide +kernel⟩, List.mem_of_getElem? (i := 618) (by decide +kernel), List.mem_of_getElem? (i := 689) (by decide +kernel), List.mem_of_getElem? (i := 690) (by decide +kernel)⟩
theorem lw_p23 : lw_okq (⟨"LimitBankModel", "name", "()I"⟩, 11) := ⟨⟨by decide +kernel, by decide +kernel⟩, List.mem_of_getElem? (i := 618) (by decide +kernel), List.mem_of_getElem? (i := 693) (by decide +kernel), List.mem_of_getElem? (i := 694) (by decide +kernel)⟩
theorem lw_p24 : lw_okq (⟨"LimitBankModel", "isWord", "(III)Z"⟩, 11) := ⟨⟨by decide +kernel, by decide +kernel⟩, List.mem_of_getElem? (i := 618) (by decide +kernel), List.mem_of_getElem? (i := 698) (by decide +kernel), List.mem_of_getElem? (i := 699) (by decide +kernel)⟩
theorem lw_p25 : lw_okq (⟨"LimitBankModel", "fails", "(I)V"⟩, 11) := ⟨⟨by decide +kernel, by decide +kernel⟩, List.mem_of_getElem? (i := 618) (by decide +kernel), List.mem_of_getElem? (i := 705) (by decide +kernel), List.mem_of_getElem? (i := 706) (by decide +kernel)⟩
theorem lw_p26 : lw_okq (⟨"LimitBankModel", "isDigit", "()Z"⟩, 11) := ⟨⟨by decide +kernel, by decide +kernel⟩, List.mem_of_getElem? (i := 618) (by decide +kernel), List.mem_of_getElem? (i := 709) (by decide +kernel), List.mem_of_getElem? (i := 710) (by decide +kernel)⟩
theorem lw_p27 : lw_okq (⟨"LimitBankModel", "use", "(II)I"⟩, 11) := ⟨⟨by decide +kernel, by decide +kernel⟩, List.mem_of_getElem? (i := 618) (by decide +kernel), List.mem_of_getElem? (i := 720) (by decide +kernel), List.mem_of_getElem? (i := 721) (by decide +kernel)⟩
theorem lw_p28 : lw_okq (⟨"LimitBankModel", "grantOf", "(II)I"⟩, 11) := ⟨⟨by decide +kernel, by decide +kernel⟩, List.mem_of_getElem? (i := 618) (by decide +kernel), List.mem_of_getElem? (i := 724) (by decide +kernel), List.mem_of_getElem? (i := 725) (by decide +kernel)⟩
theorem lw_p29 : lw_okq (⟨"LimitBankModel", "keeps", "()V"⟩, 11) := ⟨⟨by decide +kernel, by decide +kernel⟩, List.mem_of_getElem? (i := 618) (by decide +kernel), List.mem_of_getElem? (i := 728) (by decide +kernel), List.mem_of_getElem? (i := 729) (by decide +kernel)⟩
theorem lw_p30 : lw_okq (⟨"LimitBankModel", "isTenant", "(I)Z"⟩, 11) := ⟨⟨by decide +kernel, by decide +kernel⟩, List.mem_of_getElem? (i := 618) (by decide +kernel), List.mem_of_getElem? (i := 744) (by decide +kernel), List.mem_of_getElem? (i := 745) (by decide +kernel)⟩
theorem lw_p31 : lw_okq (⟨"LimitBankModel", "of", "(II)I"⟩, 11) := ⟨⟨by decide +kernel, by decide +kernel⟩, List.mem_of_getElem? (i := 618) (by decide +kernel), List.mem_of_getElem? (i := 748) (by decide +kernel), List.mem_of_getElem? (i := 749) (by decide +kernel)⟩
def lw_privs_2 : List (MethodName × Nat) := [(⟨"LimitBank", "noteRuins", "(I)I"⟩, 6), (⟨"LimitBank", "withTenant", "(JI)J"⟩, 6), (⟨"LimitBank", "withPlan", "(J)J"⟩, 6), (⟨"LimitBank", "withText", "(J)J"⟩, 6), (⟨"LimitBankModel", "reads", "()V"⟩, 11), (⟨"LimitBankModel", "blanks", "()V"⟩, 11), (⟨"LimitBankModel", "next", "()I"⟩, 11), (⟨"LimitBankModel", "name", "()I"⟩, 11), (⟨"LimitBankModel", "isWord", "(III)Z"⟩, 11), (⟨"LimitBankModel", "fails", "(I)V"⟩, 11), (⟨"LimitBankModel", "isDigit", "()Z"⟩, 11), (⟨"LimitBankModel", "use", "(II)I"⟩, 11), (⟨"LimitBankModel", "grantOf", "(II)I"⟩, 11), (⟨"LimitBankModel", "keeps", "()V"⟩, 11), (⟨"LimitBankModel", "isTenant", "(I)Z"⟩, 11), (⟨"LimitBankModel", "of", "(II)I"⟩, 11)]
theorem lw_r2 : ∀ q ∈ lw_privs_2, lw_okq q := List.forall_mem_cons.mpr ⟨lw_p16, List.forall_mem_cons.mpr ⟨lw_p17, List.forall_mem_cons.mpr ⟨lw_p18, List.forall_mem_cons.mpr ⟨lw_p19, List.forall_mem_cons.mpr ⟨lw_p20, List.forall_mem_cons.mpr ⟨lw_p21, List.forall_mem_cons.mpr ⟨lw_p22, List.forall_mem_cons.mpr ⟨lw_p23, List.forall_mem_cons.mpr ⟨lw_p24, List.forall_mem_cons.mpr ⟨lw_p25, List.forall_mem_cons.mpr ⟨lw_p26, List.forall_mem_cons.mpr ⟨lw_p27, List.forall_mem_cons.mpr ⟨lw_p28, List.forall_mem_cons.mpr ⟨lw_p29, List.forall_mem_cons.mpr ⟨lw_p30, List.forall_mem_cons.mpr ⟨lw_p31, fun _ h => absurd h List.not_mem_nil⟩⟩⟩⟩⟩⟩⟩⟩⟩⟩⟩⟩⟩⟩⟩⟩
theorem lw_p32 : lw_okq (⟨"LimitBankModel", "firstOf", "(I)I"⟩, 11) := ⟨⟨by decide +kernel, by decide +kernel⟩, List.mem_of_getElem? (i := 618) (by decide +kernel), List.mem_of_getElem? (i := 764) (by decide +kernel), List.mem_of_getElem? (i := 765) (by decide +kernel)⟩
theorem lw_p33 : lw_okq (⟨"LimitBankModel", "demandOf", "(II)I"⟩, 11) := ⟨⟨by decide +kernel, by decide +kernel⟩, List.mem_of_getElem? (i := 618) (by decide +kernel), List.mem_of_getElem? (i := 768) (by decide +kernel), List.mem_of_getElem? (i := 769) (by decide +kernel)⟩
theorem lw_p34 : lw_okq (⟨"LimitBankModel", "leavesDemand", "(I)V"⟩, 11) := ⟨⟨by decide +kernel, by decide +kernel⟩, List.mem_of_getElem? (i := 618) (by decide +kernel), List.mem_of_getElem? (i := 772) (by decide +kernel), List.mem_of_getElem? (i := 773) (by decide +kernel)⟩
theorem lw_p35 : lw_okq (⟨"LimitBankModel", "nextDemand", "()I"⟩, 11) := ⟨⟨by decide +kernel, by decide +kernel⟩, List.mem_of_getElem? (i := 618) (by decide +kernel), List.mem_of_getElem? (i := 780) (by decide +kernel), List.mem_of_getElem? (i := 781) (by decide +kernel)⟩
theorem lw_p36 : lw_okq (⟨"LimitBankModel", "fits", "(I)Z"⟩, 11) := ⟨⟨by decide +kernel, by decide +kernel⟩, List.mem_of_getElem? (i := 618) (by decide +kernel), List.mem_of_getElem? (i := 784) (by decide +kernel), List.mem_of_getElem? (i := 785) (by decide +kernel)⟩
theorem lw_p37 : lw_okq (⟨"LimitBankModel", "free", "(II)I"⟩, 11) := ⟨⟨by decide +kernel, by decide +kernel⟩, List.mem_of_getElem? (i := 618) (by decide +kernel), List.mem_of_getElem? (i := 788) (by decide +kernel), List.mem_of_getElem? (i := 789) (by decide +kernel)⟩
theorem lw_p38 : lw_okq (⟨"LimitBankModel", "share", "(I)I"⟩, 11) := ⟨⟨by decide +kernel, by decide +kernel⟩, List.mem_of_getElem? (i := 618) (by decide +kernel), List.mem_of_getElem? (i := 792) (by decide +kernel), List.mem_of_getElem? (i := 793) (by decide +kernel)⟩
theorem lw_p39 : lw_okq (⟨"LimitBankModel", "grants", "(I)I"⟩, 11) := ⟨⟨by decide +kernel, by decide +kernel⟩, List.mem_of_getElem? (i := 618) (by decide +kernel), List.mem_of_getElem? (i := 796) (by decide +kernel), List.mem_of_getElem? (i := 797) (by decide +kernel)⟩
theorem lw_p40 : lw_okq (⟨"LimitBankModel", "placeOf", "(I)I"⟩, 11) := ⟨⟨by decide +kernel, by decide +kernel⟩, List.mem_of_getElem? (i := 618) (by decide +kernel), List.mem_of_getElem? (i := 808) (by decide +kernel), List.mem_of_getElem? (i := 809) (by decide +kernel)⟩
theorem lw_p41 : lw_okq (⟨"LimitBankModel", "leavesGrant", "(I)V"⟩, 11) := ⟨⟨by decide +kernel, by decide +kernel⟩, List.mem_of_getElem? (i := 618) (by decide +kernel), List.mem_of_getElem? (i := 812) (by decide +kernel), List.mem_of_getElem? (i := 813) (by decide +kernel)⟩
theorem lw_p42 : lw_okq (⟨"LimitBankModel", "price", "(I)I"⟩, 11) := ⟨⟨by decide +kernel, by decide +kernel⟩, List.mem_of_getElem? (i := 618) (by decide +kernel), List.mem_of_getElem? (i := 820) (by decide +kernel), List.mem_of_getElem? (i := 821) (by decide +kernel)⟩
theorem lw_p43 : lw_okq (⟨"LimitBankModel", "adds", "(III)V"⟩, 11) := ⟨⟨by decide +kernel, by decide +kernel⟩, List.mem_of_getElem? (i := 618) (by decide +kernel), List.mem_of_getElem? (i := 824) (by decide +kernel), List.mem_of_getElem? (i := 825) (by decide +kernel)⟩
theorem lw_p44 : lw_okq (⟨"LimitBankModel", "comesToFund", "(II)V"⟩, 11) := ⟨⟨by decide +kernel, by decide +kernel⟩, List.mem_of_getElem? (i := 618) (by decide +kernel), List.mem_of_getElem? (i := 828) (by decide +kernel), List.mem_of_getElem? (i := 829) (by decide +kernel)⟩
theorem lw_p45 : lw_okq (⟨"LimitBankModel", "loans", "(I)I"⟩, 11) := ⟨⟨by decide +kernel, by decide +kernel⟩, List.mem_of_getElem? (i := 618) (by decide +kernel), List.mem_of_getElem? (i := 839) (by decide +kernel), List.mem_of_getElem? (i := 840) (by decide +kernel)⟩
theorem lw_p46 : lw_okq (⟨"LimitBankModel", "tick", "()V"⟩, 11) := ⟨⟨by decide +kernel, by decide +kernel⟩, List.mem_of_getElem? (i := 618) (by decide +kernel), List.mem_of_getElem? (i := 851) (by decide +kernel), List.mem_of_getElem? (i := 852) (by decide +kernel)⟩
theorem lw_p47 : lw_okq (⟨"LimitBankModel", "goesBankrupt", "(I)V"⟩, 11) := ⟨⟨by decide +kernel, by decide +kernel⟩, List.mem_of_getElem? (i := 618) (by decide +kernel), List.mem_of_getElem? (i := 855) (by decide +kernel), List.mem_of_getElem? (i := 856) (by decide +kernel)⟩
def lw_privs_3 : List (MethodName × Nat) := [(⟨"LimitBankModel", "firstOf", "(I)I"⟩, 11), (⟨"LimitBankModel", "demandOf", "(II)I"⟩, 11), (⟨"LimitBankModel", "leavesDemand", "(I)V"⟩, 11), (⟨"LimitBankModel", "nextDemand", "()I"⟩, 11), (⟨"LimitBankModel", "fits", "(I)Z"⟩, 11), (⟨"LimitBankModel", "free", "(II)I"⟩, 11), (⟨"LimitBankModel", "share", "(I)I"⟩, 11), (⟨"LimitBankModel", "grants", "(I)I"⟩, 11), (⟨"LimitBankModel", "placeOf", "(I)I"⟩, 11), (⟨"LimitBankModel", "leavesGrant", "(I)V"⟩, 11), (⟨"LimitBankModel", "price", "(I)I"⟩, 11), (⟨"LimitBankModel", "adds", "(III)V"⟩, 11), (⟨"LimitBankModel", "comesToFund", "(II)V"⟩, 11), (⟨"LimitBankModel", "loans", "(I)I"⟩, 11), (⟨"LimitBankModel", "tick", "()V"⟩, 11), (⟨"LimitBankModel", "goesBankrupt", "(I)V"⟩, 11)]
theorem lw_r3 : ∀ q ∈ lw_privs_3, lw_okq q := List.forall_mem_cons.mpr ⟨lw_p32, List.forall_mem_cons.mpr ⟨lw_p33, List.forall_mem_cons.mpr ⟨lw_p34, List.forall_mem_cons.mpr ⟨lw_p35, List.forall_mem_cons.mpr ⟨lw_p36, List.forall_mem_cons.mpr ⟨lw_p37, List.forall_mem_cons.mpr ⟨lw_p38, List.forall_mem_cons.mpr ⟨lw_p39, List.forall_mem_cons.mpr ⟨lw_p40, List.forall_mem_cons.mpr ⟨lw_p41, List.forall_mem_cons.mpr ⟨lw_p42, List.forall_mem_cons.mpr ⟨lw_p43, List.forall_mem_cons.mpr ⟨lw_p44, List.forall_mem_cons.mpr ⟨lw_p45, List.forall_mem_cons.mpr ⟨lw_p46, List.forall_mem_cons.mpr ⟨lw_p47, fun _ h => absurd h List.not_mem_nil⟩⟩⟩⟩⟩⟩⟩⟩⟩⟩⟩⟩⟩⟩⟩⟩
theorem lw_p48 : lw_okq (⟨"LimitBankModel", "sums", "(II)I"⟩, 11) := ⟨⟨by decide +kernel, by decide +kernel⟩, List.mem_of_getElem? (i := 618) (by decide +kernel), List.mem_of_getElem? (i := 863) (by decide +kernel), List.mem_of_getElem? (i := 864) (by decide +kernel)⟩
theorem lw_p49 : lw_okq (⟨"LimitBankModel", "grantsOf", "(I)I"⟩, 11) := ⟨⟨by decide +kernel, by decide +kernel⟩, List.mem_of_getElem? (i := 618) (by decide +kernel), List.mem_of_getElem? (i := 871) (by decide +kernel), List.mem_of_getElem? (i := 872) (by decide +kernel)⟩
theorem lw_p50 : lw_okq (⟨"LimitBankModel", "demandsOf", "(I)I"⟩, 11) := ⟨⟨by decide +kernel, by decide +kernel⟩, List.mem_of_getElem? (i := 618) (by decide +kernel), List.mem_of_getElem? (i := 875) (by decide +kernel), List.mem_of_getElem? (i := 876) (by decide +kernel)⟩
theorem lw_p51 : lw_okq (⟨"LimitBankModel", "placeInQueue", "(I)I"⟩, 11) := ⟨⟨by decide +kernel, by decide +kernel⟩, List.mem_of_getElem? (i := 618) (by decide +kernel), List.mem_of_getElem? (i := 879) (by decide +kernel), List.mem_of_getElem? (i := 880) (by decide +kernel)⟩
theorem lw_p52 : lw_okq (⟨"LimitBankModel", "plans", "()I"⟩, 11) := ⟨⟨by decide +kernel, by decide +kernel⟩, List.mem_of_getElem? (i := 618) (by decide +kernel), List.mem_of_getElem? (i := 899) (by decide +kernel), List.mem_of_getElem? (i := 900) (by decide +kernel)⟩
theorem lw_p53 : lw_okq (⟨"LimitBankModel", "keepsAside", "()V"⟩, 11) := ⟨⟨by decide +kernel, by decide +kernel⟩, List.mem_of_getElem? (i := 618) (by decide +kernel), List.mem_of_getElem? (i := 903) (by decide +kernel), List.mem_of_getElem? (i := 904) (by decide +kernel)⟩
theorem lw_p54 : lw_okq (⟨"LimitBankModel", "returns", "()V"⟩, 11) := ⟨⟨by decide +kernel, by decide +kernel⟩, List.mem_of_getElem? (i := 618) (by decide +kernel), List.mem_of_getElem? (i := 907) (by decide +kernel), List.mem_of_getElem? (i := 908) (by decide +kernel)⟩
theorem lw_p55 : lw_okq (⟨"LimitBankModel", "worthOf", "(II)I"⟩, 11) := ⟨⟨by decide +kernel, by decide +kernel⟩, List.mem_of_getElem? (i := 618) (by decide +kernel), List.mem_of_getElem? (i := 915) (by decide +kernel), List.mem_of_getElem? (i := 916) (by decide +kernel)⟩
theorem lw_p56 : lw_okq (⟨"LimitBankModel", "ruinOf", "(I)I"⟩, 11) := ⟨⟨by decide +kernel, by decide +kernel⟩, List.mem_of_getElem? (i := 618) (by decide +kernel), List.mem_of_getElem? (i := 923) (by decide +kernel), List.mem_of_getElem? (i := 924) (by decide +kernel)⟩
theorem lw_p57 : lw_okq (⟨"LimitBankModel", "hasFailed", "(I)Z"⟩, 11) := ⟨⟨by decide +kernel, by decide +kernel⟩, List.mem_of_getElem? (i := 618) (by decide +kernel), List.mem_of_getElem? (i := 927) (by decide +kernel), List.mem_of_getElem? (i := 928) (by decide +kernel)⟩
theorem lw_p58 : lw_okq (⟨"LimitBankModel", "mixes", "(I)V"⟩, 11) := ⟨⟨by decide +kernel, by decide +kernel⟩, List.mem_of_getElem? (i := 618) (by decide +kernel), List.mem_of_getElem? (i := 941) (by decide +kernel), List.mem_of_getElem? (i := 942) (by decide +kernel)⟩
theorem lw_p59 : lw_okq (⟨"LimitBankModel", "mixesTenant", "(I)V"⟩, 11) := ⟨⟨by decide +kernel, by decide +kernel⟩, List.mem_of_getElem? (i := 618) (by decide +kernel), List.mem_of_getElem? (i := 947) (by decide +kernel), List.mem_of_getElem? (i := 948) (by decide +kernel)⟩
def lw_privs_4 : List (MethodName × Nat) := [(⟨"LimitBankModel", "sums", "(II)I"⟩, 11), (⟨"LimitBankModel", "grantsOf", "(I)I"⟩, 11), (⟨"LimitBankModel", "demandsOf", "(I)I"⟩, 11), (⟨"LimitBankModel", "placeInQueue", "(I)I"⟩, 11), (⟨"LimitBankModel", "plans", "()I"⟩, 11), (⟨"LimitBankModel", "keepsAside", "()V"⟩, 11), (⟨"LimitBankModel", "returns", "()V"⟩, 11), (⟨"LimitBankModel", "worthOf", "(II)I"⟩, 11), (⟨"LimitBankModel", "ruinOf", "(I)I"⟩, 11), (⟨"LimitBankModel", "hasFailed", "(I)Z"⟩, 11), (⟨"LimitBankModel", "mixes", "(I)V"⟩, 11), (⟨"LimitBankModel", "mixesTenant", "(I)V"⟩, 11)]
theorem lw_r4 : ∀ q ∈ lw_privs_4, lw_okq q := List.forall_mem_cons.mpr ⟨lw_p48, List.forall_mem_cons.mpr ⟨lw_p49, List.forall_mem_cons.mpr ⟨lw_p50, List.forall_mem_cons.mpr ⟨lw_p51, List.forall_mem_cons.mpr ⟨lw_p52, List.forall_mem_cons.mpr ⟨lw_p53, List.forall_mem_cons.mpr ⟨lw_p54, List.forall_mem_cons.mpr ⟨lw_p55, List.forall_mem_cons.mpr ⟨lw_p56, List.forall_mem_cons.mpr ⟨lw_p57, List.forall_mem_cons.mpr ⟨lw_p58, List.forall_mem_cons.mpr ⟨lw_p59, fun _ h => absurd h List.not_mem_nil⟩⟩⟩⟩⟩⟩⟩⟩⟩⟩⟩⟩
def lw_privs : List (MethodName × Nat) := lw_privs_1 ++ (lw_privs_2 ++ (lw_privs_3 ++ (lw_privs_4)))
def lw_tbl : List Cond := k2_sels lw_privs ++ tables_1
theorem lw_privs_ok : ∀ q ∈ lw_privs, lw_okq q := by
  show ∀ q ∈ lw_privs_1 ++ (lw_privs_2 ++ (lw_privs_3 ++ (lw_privs_4))), lw_okq q
  exact List.forall_mem_append.mpr ⟨lw_r1, List.forall_mem_append.mpr ⟨lw_r2, List.forall_mem_append.mpr ⟨lw_r3, lw_r4⟩⟩⟩
-- ===== end of PART A; then your names; then what follows =====
end
section
/-! ===== the abstract memory: cells are numbered in the order in which they are made; 16 is the first ===== -/
abbrev Mem : Type := Nat × (Nat → Nat → Int32) × (Nat → Nat → Nat) × (Nat → Int64)
def mN (M : Mem) : Nat := M.1
def mI (M : Mem) : Nat → Nat → Int32 := M.2.1
def mR (M : Mem) : Nat → Nat → Nat := M.2.2.1
def mL (M : Mem) : Nat → Int64 := M.2.2.2
def u2 {α : Type} (f : Nat → Nat → α) (a k : Nat) (v : α) : Nat → Nat → α := fun x y => if x = a ∧ y = k then v else f x y
def u1 {α : Type} (f : Nat → α) (a : Nat) (v : α) : Nat → α := fun x => if x = a then v else f x
def stI (M : Mem) (a k : Nat) (v : Int32) : Mem := (M.1, u2 M.2.1 a k v, M.2.2.1, M.2.2.2)
def stR (M : Mem) (a k : Nat) (v : Nat) : Mem := (M.1, M.2.1, u2 M.2.2.1 a k v, M.2.2.2)
def stL (M : Mem) (a : Nat) (v : Int64) : Mem := (M.1, M.2.1, M.2.2.1, u1 M.2.2.2 a v)
/-- a new cell, all zeros -/
def al (M : Mem) : Mem := (M.1 + 1, fun x y => if x = M.1 then 0 else M.2.1 x y, fun x y => if x = M.1 then 0 else M.2.2.1 x y, fun x => if x = M.1 then 0 else M.2.2.2 x)
/-- kinds: (1, n) ints, (2, n) ledgers, (3 + c, n) an object of class c -/
def ledK : List (Nat × Nat) := [(5, 18), (1, 4), (1, 4), (1, 4), (1, 6), (1, 6), (1, 6), (1, 24), (1, 24), (1, 24), (3, 3), (1, 240), (3, 3), (1, 144), (1, 6)]
def kdl : List (Nat × Nat) := [(7, 6), (6, 3), (1, 60), (1, 4)] ++ (ledK ++ (ledK ++ ([(4, 2), (2, 8)] ++ (ledK ++ (ledK ++ (ledK ++ (ledK ++ (ledK ++ (ledK ++ (ledK ++ (ledK ++ [(1, 24), (1, 6), (8, 11), (1, 454), (1, 3632), (1, 454), (1, 60), (1, 4), (1, 40)])))))))))))
def kd (i : Nat) : Nat × Nat := if i < 16 then (0, 0) else kdl.getD (i - 16) (0, 0)
theorem kd_lo {i : Nat} (h : ¬ (kd i).1 = 0) : 16 ≤ i := by
  unfold kd at h
  by_cases q : i < 16
  · rw [if_pos q] at h
    exact absurd rfl h
  · omega
def sl (n : Nat) : Nat := ((List.range (n - 16)).map fun j => (kd (j + 16)).2).sum
theorem sl_succ {n : Nat} (h : 16 ≤ n) : sl (n + 1) = sl n + (kd n).2 := by
  unfold sl
  rw [show n + 1 - 16 = (n - 16) + 1 by omega, List.range_succ, List.map_append, List.sum_append]
  simp [show n - 16 + 16 = n by omega]
theorem sl_mono {a b : Nat} (h : a ≤ b) : sl a ≤ sl b := by
  induction b with
  | zero => rw [Nat.le_zero.mp h]; exact Nat.le_refl _
  | succ b ih =>
    rcases Nat.lt_or_ge a (b + 1) with q | q
    · refine Nat.le_trans (ih (by omega)) ?_
      rcases Nat.lt_or_ge b 16 with z | z
      · have e1 : b - 16 = 0 := by omega
        have e2 : b + 1 - 16 = 0 := by omega
        simp [sl, e1, e2]
      · rw [sl_succ z]; omega
    · rw [show a = b + 1 by omega]; exact Nat.le_refl _
/-! ===== what is given around it: launch, script (address, length, ints), first address, classes, the two array classes, the four texts and their bytes, a static that is only carried ===== -/
abbrev Zt : Type := Launch × (Nat × Nat × (Nat → Int32)) × Nat × va_G × (ClassId × ClassId) × (Nat → Nat) × (Nat → Nat) × Option Nat
def zl (Z : Zt) : Launch := Z.1
def zb (Z : Zt) : Nat := Z.2.1.1
def zn (Z : Zt) : Nat := Z.2.1.2.1
def zx (Z : Zt) : Nat → Int32 := Z.2.1.2.2
def zo (Z : Zt) : Nat := Z.2.2.1
def zD (Z : Zt) : va_G := Z.2.2.2.1
def zcI (Z : Zt) : ClassId := Z.2.2.2.2.1.1
def zcL (Z : Zt) : ClassId := Z.2.2.2.2.1.2
def zK (Z : Zt) : Nat → Nat := Z.2.2.2.2.2.1
def zV (Z : Zt) : Nat → Nat := Z.2.2.2.2.2.2.1
def zF (Z : Zt) : Option Nat := Z.2.2.2.2.2.2.2
/-- the address of a number: 0 null, 1 the script, 2 .. 5 the texts, 6 .. 9 their bytes, 10 what is only carried, from 16 on the cells -/
def rfo (Z : Zt) (i : Nat) : Option Nat := if 16 ≤ i then some (zo Z + (i - 16)) else if i = 1 then some (zb Z) else if 2 ≤ i ∧ i < 6 then some (zK Z (i - 2)) else if 6 ≤ i ∧ i < 10 then some (zV Z (i - 6)) else if i = 10 then zF Z else none
def ad (Z : Zt) (i : Nat) : Value := va_rf (rfo Z i)
def cv (Z : Zt) (v : Value) : Value := match v with
  | .ref i => ad Z i
  | w => w
theorem ad_cell {Z : Zt} {i : Nat} (h : 16 ≤ i) : ad Z i = .ref (zo Z + (i - 16)) := by simp [ad, rfo, h, va_rf]
theorem rfo_cell {Z : Zt} {i : Nat} (h : 16 ≤ i) : rfo Z i = some (zo Z + (i - 16)) := by simp [rfo, h]
theorem ad_or (Z : Zt) (i : Nat) : ad Z i = .null ∨ ∃ a, ad Z i = .ref a := by
  unfold ad
  cases rfo Z i with
  | none => exact Or.inl rfl
  | some a => exact Or.inr ⟨a, rfl⟩
theorem ad_cat (Z : Zt) (i : Nat) : (ad Z i).category = 1 := by
  rcases ad_or Z i with h | ⟨a, h⟩ <;> rw [h] <;> rfl
theorem cv_cat (Z : Zt) (v : Value) : (cv Z v).category = v.category := by
  cases v with
  | ref i => exact ad_cat Z i
  | _ => rfl
def RX0 : String := "LimitBank$Claims"
def TX0 : u_T := fun k => match k with
  | 0 => ("LimitBank$Claims", "cells", "[I", true)
  | 1 => ("LimitBank$Claims", "most", "I", true)
  | _ => ("LimitBank$Claims", "size", "I", false)
def tyX0 : Nat → FieldType := fun k => match k with
  | 0 => .array .int
  | 1 => .int
  | _ => .int
def RX1 : String := "LimitBank$History"
def TX1 : u_T := fun k => match k with
  | 0 => ("LimitBank$History", "states", "[LLimitBank$Ledger;", true)
  | _ => ("LimitBank$History", "size", "I", false)
def tyX1 : Nat → FieldType := fun k => match k with
  | 0 => .array (.object "LimitBank$Ledger")
  | _ => .int
def RX2 : String := "LimitBank$Ledger"
def TX2 : u_T := fun k => match k with
  | 0 => ("LimitBank$Ledger", "capacity", "[I", true)
  | 1 => ("LimitBank$Ledger", "fund", "[I", true)
  | 2 => ("LimitBank$Ledger", "used", "[I", true)
  | 3 => ("LimitBank$Ledger", "weight", "[I", true)
  | 4 => ("LimitBank$Ledger", "points", "[I", true)
  | 5 => ("LimitBank$Ledger", "ruinedAt", "[I", true)
  | 6 => ("LimitBank$Ledger", "limit", "[I", true)
  | 7 => ("LimitBank$Ledger", "loan", "[I", true)
  | 8 => ("LimitBank$Ledger", "usedBy", "[I", true)
  | 9 => ("LimitBank$Ledger", "grants", "LLimitBank$Claims;", true)
  | 10 => ("LimitBank$Ledger", "demands", "LLimitBank$Claims;", true)
  | 11 => ("LimitBank$Ledger", "queue", "[I", true)
  | 12 => ("LimitBank$Ledger", "bankrupts", "I", false)
  | 13 => ("LimitBank$Ledger", "tenants", "I", false)
  | 14 => ("LimitBank$Ledger", "time", "I", false)
  | 15 => ("LimitBank$Ledger", "rest", "I", false)
  | 16 => ("LimitBank$Ledger", "nextNumber", "I", false)
  | _ => ("LimitBank$Ledger", "ruins", "I", false)
def tyX2 : Nat → FieldType := fun k => match k with
  | 0 => .array .int
  | 1 => .array .int
  | 2 => .array .int
  | 3 => .array .int
  | 4 => .array .int
  | 5 => .array .int
  | 6 => .array .int
  | 7 => .array .int
  | 8 => .array .int
  | 9 => .object "LimitBank$Claims"
  | 10 => .object "LimitBank$Claims"
  | 11 => .array .int
  | 12 => .int
  | 13 => .int
  | 14 => .int
  | 15 => .int
  | 16 => .int
  | _ => .int
def RX3 : String := "LimitBank$VectorText"
def TX3 : u_T := fun k => match k with
  | 0 => ("LimitBank$VectorText", "bytes", "[I", true)
  | 1 => ("LimitBank$VectorText", "units", "[I", true)
  | _ => ("LimitBank$VectorText", "length", "I", false)
def tyX3 : Nat → FieldType := fun k => match k with
  | 0 => .array .int
  | 1 => .array .int
  | _ => .int
def RX4 : String := "LimitBank"
def TX4 : u_T := fun k => match k with
  | 0 => ("LimitBank", "text", "LLimitBank$VectorText;", true)
  | 1 => ("LimitBank", "now", "LLimitBank$Ledger;", true)
  | 2 => ("LimitBank", "trial", "LLimitBank$Ledger;", true)
  | 3 => ("LimitBank", "history", "LLimitBank$History;", true)
  | 4 => ("LimitBank", "served", "[I", true)
  | _ => ("LimitBank", "ticksToRuin", "[I", true)
def tyX4 : Nat → FieldType := fun k => match k with
  | 0 => .object "LimitBank$VectorText"
  | 1 => .object "LimitBank$Ledger"
  | 2 => .object "LimitBank$Ledger"
  | 3 => .object "LimitBank$History"
  | 4 => .array .int
  | _ => .array .int
def RX5 : String := "LimitBankModel"
def TX5 : u_T := fun k => match k with
  | 0 => ("LimitBankModel", "m", "[I", true)
  | 1 => ("LimitBankModel", "past", "[I", true)
  | 2 => ("LimitBankModel", "aside", "[I", true)
  | 3 => ("LimitBankModel", "undos", "I", false)
  | 4 => ("LimitBankModel", "text", "[I", true)
  | 5 => ("LimitBankModel", "textLength", "I", false)
  | 6 => ("LimitBankModel", "read", "[I", true)
  | 7 => ("LimitBankModel", "at", "I", false)
  | 8 => ("LimitBankModel", "fault", "I", false)
  | 9 => ("LimitBankModel", "served", "[I", true)
  | _ => ("LimitBankModel", "hash", "J", false)
def tyX5 : Nat → FieldType := fun k => match k with
  | 0 => .array .int
  | 1 => .array .int
  | 2 => .array .int
  | 3 => .int
  | 4 => .array .int
  | 5 => .int
  | 6 => .array .int
  | 7 => .int
  | 8 => .int
  | 9 => .array .int
  | _ => .long
/-- the classes of the cells: claims, history, ledger, text, bank, model -/
def cls : List vw_C := [(RX0, TX0, 3), (RX1, TX1, 2), (RX2, TX2, 18), (RX3, TX3, 3), (RX4, TX4, 6), (RX5, TX5, 11)]
def cnm (ci : Nat) : String := (cls.getD ci ("", TX0, 0)).1
def cT (ci : Nat) : u_T := (cls.getD ci ("", TX0, 0)).2.1
def cW (ci : Nat) : Nat := (cls.getD ci ("", TX0, 0)).2.2
def cty (ci : Nat) : Nat → FieldType := [tyX0, tyX1, tyX2, tyX3, tyX4, tyX5].getD ci tyX0
/-- how a field is kept: 0 an int, 1 a reference, 2 an int that never changes (in mR), 3 a long -/
def fkl : List (List Nat) := [[1, 2, 0], [1, 0], [1, 1, 1, 1, 1, 1, 1, 1, 1, 1, 1, 1, 0, 0, 0, 0, 0, 0], [1, 1, 0], [1, 1, 1, 1, 1, 1], [1, 1, 1, 0, 1, 0, 1, 0, 0, 1, 3]]
def fk (ci k : Nat) : Nat := (fkl.getD ci []).getD k 0
def fv (Z : Zt) (M : Mem) (i ci k : Nat) : Value := if fk ci k = 0 then .int (mI M i k) else if fk ci k = 1 then ad Z (mR M i k) else if fk ci k = 2 then .int (nI (mR M i k)) else .long (mL M i)
def ce (Z : Zt) (M : Mem) (i : Nat) : va_E := if (kd i).1 = 1 then .inl (zcI Z, (kd i).2, .inl (mI M i)) else if (kd i).1 = 2 then .inl (zcL Z, (kd i).2, .inr (.inr (.inr (.inr (fun j => rfo Z (mR M i j)))))) else .inr ((kd i).1 - 3, (List.range (kd i).2).map (fv Z M i ((kd i).1 - 3)))
def wsZ (Z : Zt) (M : Mem) : va_W := (List.range (mN M - 16)).map fun j => (zo Z + j, ce Z M (j + 16))
def Ar (Z : Zt) : Nat → Prop := fun q => zo Z ≤ q
def Rep (Z : Zt) (M : Mem) (H : Heap) : Prop := va_P (zD Z) cls (wsZ Z M) H ∧ H.size = zo Z + (mN M - 16) ∧ 16 ≤ mN M
theorem wsZ_len (Z : Zt) (M : Mem) : (wsZ Z M).length = mN M - 16 := by simp [wsZ]
theorem wsZ_at {Z : Zt} {M : Mem} {i : Nat} (h : 16 ≤ i) (h2 : i < mN M) : (wsZ Z M)[i - 16]? = some (zo Z + (i - 16), ce Z M i) := by
  unfold wsZ
  rw [List.getElem?_map, List.getElem?_range (by omega)]
  simp [show i - 16 + 16 = i by omega]
theorem wsZ_get {Z : Zt} {M : Mem} {k : Nat} {q : Nat × va_E} (h : (wsZ Z M)[k]? = some q) : k < mN M - 16 ∧ q = (zo Z + k, ce Z M (k + 16)) := by
  have hl : k < (wsZ Z M).length := (List.getElem?_eq_some_iff.mp h).1
  rw [wsZ_len] at hl
  have h2 := wsZ_at (Z := Z) (M := M) (i := k + 16) (by omega) (by omega)
  rw [show k + 16 - 16 = k by omega] at h2
  exact ⟨hl, Option.some.inj (h.symm.trans h2)⟩
theorem wsD (Z : Zt) (M : Mem) : va_D (Ar Z) (wsZ Z M) := by
  refine ⟨fun i j p q hi hj e => ?_, fun k q h => ?_⟩
  · obtain ⟨-, rfl⟩ := wsZ_get hi
    obtain ⟨-, rfl⟩ := wsZ_get hj
    simp at e
    exact e
  · obtain ⟨-, rfl⟩ := wsZ_get h
    show zo Z ≤ zo Z + k
    omega
theorem wsZ_set {Z : Zt} {M M' : Mem} {i : Nat} (h : 16 ≤ i) (h2 : i < mN M) (hn : mN M' = mN M) (ho : ∀ j, j ≠ i → ce Z M' j = ce Z M j) : (wsZ Z M).set (i - 16) (zo Z + (i - 16), ce Z M' i) = wsZ Z M' := by
  apply List.ext_getElem?
  intro k
  by_cases hk : k = i - 16
  · subst hk
    rw [List.getElem?_set_self (by rw [wsZ_len]; omega), wsZ_at h (by rw [hn]; exact h2)]
  · rw [List.getElem?_set_ne (fun z => hk z.symm)]
    by_cases hl : k < mN M - 16
    · have a := wsZ_at (Z := Z) (M := M) (i := k + 16) (by omega) (by omega)
      have b := wsZ_at (Z := Z) (M := M') (i := k + 16) (by omega) (by omega)
      rw [show k + 16 - 16 = k by omega] at a b
      rw [a, b, ho _ (by omega)]
    · rw [List.getElem?_eq_none (by rw [wsZ_len]; omega), List.getElem?_eq_none (by rw [wsZ_len]; omega)]
theorem wsZ_push {Z : Zt} {M M' : Mem} (h : 16 ≤ mN M) (hn : mN M' = mN M + 1) (ho : ∀ j, j < mN M → ce Z M' j = ce Z M j) : wsZ Z M ++ [(zo Z + (mN M - 16), ce Z M' (mN M))] = wsZ Z M' := by
  unfold wsZ
  rw [hn, show mN M + 1 - 16 = (mN M - 16) + 1 by omega, List.range_succ, List.map_append]
  congr 1
  · apply List.map_congr_left
    intro j hj
    have := List.mem_range.mp hj
    rw [ho _ (by omega)]
  · simp [show mN M - 16 + 16 = mN M by omega]
theorem ce_stI {Z : Zt} {M : Mem} {i k j : Nat} {v : Int32} (h : j ≠ i) : ce Z (stI M i k v) j = ce Z M j := by
  have e : ∀ y, mI (stI M i k v) j y = mI M j y := fun y => by simp [mI, stI, u2, h]
  have e2 : mI (stI M i k v) j = mI M j := funext e
  have e3 : fv Z (stI M i k v) j = fv Z M j := by
    funext ci y
    unfold fv
    rw [e]
    rfl
  unfold ce
  rw [e2, e3]
  rfl
theorem ce_stR {Z : Zt} {M : Mem} {i k j : Nat} {v : Nat} (h : j ≠ i) : ce Z (stR M i k v) j = ce Z M j := by
  have e : ∀ y, mR (stR M i k v) j y = mR M j y := fun y => by simp [mR, stR, u2, h]
  have e3 : fv Z (stR M i k v) j = fv Z M j := by
    funext ci y
    unfold fv
    rw [e]
    rfl
  unfold ce
  rw [e3]
  simp only [e]
  rfl
theorem ce_stL {Z : Zt} {M : Mem} {i j : Nat} {v : Int64} (h : j ≠ i) : ce Z (stL M i v) j = ce Z M j := by
  have e : mL (stL M i v) j = mL M j := by simp [mL, stL, u1, h]
  have e3 : fv Z (stL M i v) j = fv Z M j := by
    funext ci y
    unfold fv
    rw [e]
    rfl
  unfold ce
  rw [e3]
  rfl
theorem ce_al {Z : Zt} {M : Mem} {j : Nat} (h : j < mN M) : ce Z (al M) j = ce Z M j := by
  have hne : ¬ j = M.1 := Nat.ne_of_lt h
  have e1 : mI (al M) j = mI M j := by funext y; simp [mI, al, hne]
  have e2 : ∀ y, mR (al M) j y = mR M j y := fun y => by simp [mR, al, hne]
  have e4 : mL (al M) j = mL M j := by simp [mL, al, hne]
  have e3 : fv Z (al M) j = fv Z M j := by
    funext ci y
    unfold fv
    rw [e1, e2, e4]
  unfold ce
  rw [e1, e3]
  simp only [e2]
theorem map_set_range {α : Type} (f g : Nat → α) (n k : Nat) (v : α) (hk : g k = v) (ho : ∀ j, j ≠ k → g j = f j) : ((List.range n).map f).set k v = (List.range n).map g := by
  apply List.ext_getElem?
  intro j
  by_cases hj : j = k
  · subst hj
    by_cases hl : j < n
    · rw [List.getElem?_set_self (by simpa using hl), List.getElem?_map, List.getElem?_range hl]
      simp [hk]
    · rw [List.getElem?_eq_none (by simp; omega), List.getElem?_eq_none (by simp; omega)]
  · rw [List.getElem?_set_ne (fun z => hj z.symm), List.getElem?_map, List.getElem?_map]
    by_cases hl : j < n
    · rw [List.getElem?_range hl]
      simp [ho j hj]
    · rw [List.getElem?_eq_none (by simp; omega)]
      rfl
theorem fv_get {Z : Zt} {M : Mem} {i ci n k : Nat} (hk : k < n) : ((List.range n).map (fv Z M i ci))[k]? = some (fv Z M i ci k) := by
  rw [List.getElem?_map, List.getElem?_range hk]
  rfl
theorem fits_ad (Z : Zt) (i : Nat) (ty : FieldType) (h : ty.isReference = true) : fits ty (ad Z i) = true ∧ narrow ty (ad Z i) = ad Z i := by
  rcases ad_or Z i with e | ⟨a, e⟩ <;> rw [e] <;> cases ty <;> first | exact ⟨rfl, rfl⟩ | simp [FieldType.isReference] at h
end
section
/-! ===== the words, and what stays given in every frame ===== -/
def WS : List Cond := lw_tbl.filter goodWord
theorem WS_of {w : Cond} (h : w ∈ lw_tbl) (g : goodWord w = true) : w ∈ WS := List.mem_filter.mpr ⟨h, g⟩
theorem WS_good : ∀ w ∈ WS, goodWord w = true := fun _ h => (List.mem_filter.mp h).2
theorem WS_tbl : ∀ w ∈ WS, w ∈ lw_tbl := fun _ h => (List.mem_filter.mp h).1
def nestL : List (String × Nat × MethodName × String) := [("LimitBank", 9, ⟨"LimitBank$VectorText", "<init>", "()V"⟩, "LimitBank"), ("LimitBank$VectorText", 44, ⟨"LimitBank", "within", "(III)Z"⟩, "LimitBank"), ("LimitBank$Ledger", 59, ⟨"LimitBank", "copy", "([I[I)V"⟩, "LimitBank"), ("LimitBank$Claims", 25, ⟨"LimitBank", "copy", "([I[I)V"⟩, "LimitBank"), ("LimitBank$Claims", 32, ⟨"LimitBank", "within", "(III)Z"⟩, "LimitBank"), ("LimitBank$Ledger", 89, ⟨"LimitBank", "slot", "(II)I"⟩, "LimitBank"), ("LimitBank$Ledger", 82, ⟨"LimitBank", "isResource", "(I)Z"⟩, "LimitBank")]
def nestW (q : String × Nat × MethodName × String) : Cond := .methodLinkNest q.1 q.2.1 q.2.2.1 q.2.2.2
def strL : List (Nat × String) := [(65, "cpu"), (67, "mem"), (69, "net"), (71, "disk")]
def lenL : List Nat := [3, 3, 3, 4]
def bytL : List (List Int32) := [[99, 112, 117], [109, 101, 109], [110, 101, 116], [100, 105, 115, 107]]
def tysZ (Z : Zt) : List (ClassId × FieldType) := [(zcI Z, .int), (zcL Z, .object RX2)]
def GS (Z : Zt) (U : State) : Prop := va_K (zD Z) cls (tysZ Z) U ∧ (∀ q ∈ nestL, va_Nw (nestW q) U) ∧ va_AO RX2 U ∧ (∀ i, i < 4 → vk_R RX3 (strL.getD i (0, "")).1 (strL.getD i (0, "")).2 (zK Z i) U) ∧ vk_S 4 lenL bytL (zK Z) (zV Z) (Ar Z) U U.heap ∧ va_Z "java/lang/String" "COMPACT_STRINGS" "Z" (.int 1) (Ar Z) U U.heap ∧ va_Z "jdk/internal/util/Preconditions" "SIOOBE_FORMATTER" "Ljava/util/function/BiFunction;" (va_rf (zF Z)) (Ar Z) U U.heap ∧ va_T .int (zb Z) (zn Z) (fun j => .int (zx Z j)) (Ar Z) U U.heap
theorem GS.step {Z : Zt} {s U : State} {H : Heap} {locs : List Loc} (h : GS Z s) (hS : va_S (Ar Z) s.heap H locs) (hU : U.heap = H) (hW : s.WarmedH U.vm) : GS Z U := by
  obtain ⟨h1, h2, h3, h4, h5, h6, h7, h8⟩ := h
  have hv := hW.alike
  refine ⟨va_K.moved hv h1, fun q hq => va_Nw.warmM hW (h2 q hq), va_AO.moved hv h3, fun i hi => (h4 i hi).warm hW, ?_, ?_, ?_, ?_⟩
  · rw [hU]; exact (vk_S.moved hv h5).kept hS.2.1
  · rw [hU]; exact (va_Z.moved hv h6).kept hS.2.1
  · rw [hU]; exact (va_Z.moved hv h7).kept hS.2.1
  · rw [hU]; exact (va_T.moved hv h8).kept hS.2.1
theorem GS.calling {Z : Zt} {U : State} {g : JFrame} {mk : MethodId} {a : Array Value} (h : GS Z U) : GS Z (U.calling g mk a) := by
  obtain ⟨h1, h2, h3, h4, h5, h6, h7, h8⟩ := h
  have hv : U.vm.Alike (U.calling g mk a).vm := Vm.Alike.refl U.vm
  exact ⟨va_K.moved (u := U) (U := U.calling g mk a) hv h1, fun q hq => va_Nw.same rfl (u := U) (U := U.calling g mk a) rfl (h2 q hq), va_AO.moved (u := U) (U := U.calling g mk a) hv h3, fun i hi => vk_R.same (u := U) (U := U.calling g mk a) rfl (h4 i hi), vk_S.moved (u := U) (U := U.calling g mk a) hv h5, va_Z.moved (u := U) (U := U.calling g mk a) hv h6, va_Z.moved (u := U) (U := U.calling g mk a) hv h7, va_T.moved (u := U) (U := U.calling g mk a) hv h8⟩
/-! ===== the locals, by their places ===== -/
def lget (l : List (Option Value)) (i : Nat) : Option Value := match l, i with
  | [], _ => none
  | x :: _, 0 => x
  | _ :: t, i + 1 => lget t i
def lkill (x : Option Value) : Option Value := match x with
  | some (.long _) => none
  | some (.double _) => none
  | y => y
def lset (l : List (Option Value)) (i : Nat) (v : Value) : List (Option Value) := match l, i with
  | [], _ => []
  | _ :: t, 0 => some v :: t
  | x :: t, 1 => lkill x :: lset t 0 v
  | x :: t, i + 2 => x :: lset t (i + 1) v
def lset2 (l : List (Option Value)) (i : Nat) (v : Value) : List (Option Value) := match l, i with
  | [], _ => []
  | [_], 0 => []
  | _ :: _ :: t, 0 => some v :: none :: t
  | x :: t, 1 => lkill x :: lset2 t 0 v
  | x :: t, i + 2 => x :: lset2 t (i + 1) v
def LH (Z : Zt) (la : Array Slot) (nL : Nat) (l : List (Option Value)) : Prop := la.size = nL ∧ lv_wf la ∧ ∀ (i : Nat) (v : Value), lget l i = some v → la[i]? = some (.val (cv Z v))
theorem lkill_some {x : Option Value} {v : Value} (h : lkill x = some v) : x = some v ∧ v.category = 1 := by
  cases x with
  | none => simp [lkill] at h
  | some w => cases w <;> simp [lkill] at h <;> subst h <;> exact ⟨rfl, rfl⟩
theorem lset_get : ∀ (l : List (Option Value)) (i : Nat) (v w : Value) (j : Nat), lget (lset l i v) j = some w → (j = i ∧ w = v) ∨ (j ≠ i ∧ lget l j = some w ∧ (j + 1 = i → w.category = 1))
  | [], i, v, w, j, h => by simp [lset, lget] at h
  | x :: t, 0, v, w, j, h => by
    cases j with
    | zero => simp [lset, lget] at h; exact Or.inl ⟨rfl, h.symm⟩
    | succ j => simp [lset, lget] at h; exact Or.inr ⟨by omega, by simpa [lget] using h, by omega⟩
  | x :: t, 1, v, w, j, h => by
    cases j with
    | zero =>
      simp only [lset, lget] at h
      obtain ⟨a, b⟩ := lkill_some h
      exact Or.inr ⟨by omega, by simpa [lget] using a, fun _ => b⟩
    | succ j =>
      simp only [lset, lget] at h
      rcases lset_get t 0 v w j h with ⟨a, b⟩ | ⟨a, b, c⟩
      · exact Or.inl ⟨by omega, b⟩
      · exact Or.inr ⟨by omega, by simpa [lget] using b, by omega⟩
  | x :: t, i + 2, v, w, j, h => by
    cases j with
    | zero => simp only [lset, lget] at h; exact Or.inr ⟨by omega, by simpa [lget] using h, by omega⟩
    | succ j =>
      simp only [lset, lget] at h
      rcases lset_get t (i + 1) v w j h with ⟨a, b⟩ | ⟨a, b, c⟩
      · exact Or.inl ⟨by omega, b⟩
      · exact Or.inr ⟨by omega, by simpa [lget] using b, fun z => c (by omega)⟩
theorem lset2_get : ∀ (l : List (Option Value)) (i : Nat) (v w : Value) (j : Nat), lget (lset2 l i v) j = some w → (j = i ∧ w = v) ∨ (j ≠ i ∧ j ≠ i + 1 ∧ lget l j = some w ∧ (j + 1 = i → w.category = 1))
  | [], i, v, w, j, h => by simp [lset2, lget] at h
  | [x], 0, v, w, j, h => by simp [lset2, lget] at h
  | x :: y :: t, 0, v, w, j, h => by
    match j with
    | 0 => simp [lset2, lget] at h; exact Or.inl ⟨rfl, h.symm⟩
    | 1 => simp [lset2, lget] at h
    | j + 2 => simp [lset2, lget] at h; exact Or.inr ⟨by omega, by omega, by simpa [lget] using h, by omega⟩
  | x :: t, 1, v, w, j, h => by
    cases j with
    | zero =>
      simp only [lset2, lget] at h
      obtain ⟨a, b⟩ := lkill_some h
      exact Or.inr ⟨by omega, by omega, by simpa [lget] using a, fun _ => b⟩
    | succ j =>
      simp only [lset2, lget] at h
      rcases lset2_get t 0 v w j h with ⟨a, b⟩ | ⟨a, a2, b, c⟩
      · exact Or.inl ⟨by omega, b⟩
      · exact Or.inr ⟨by omega, by omega, by simpa [lget] using b, by omega⟩
  | x :: t, i + 2, v, w, j, h => by
    cases j with
    | zero => simp only [lset2, lget] at h; exact Or.inr ⟨by omega, by omega, by simpa [lget] using h, by omega⟩
    | succ j =>
      simp only [lset2, lget] at h
      rcases lset2_get t (i + 1) v w j h with ⟨a, b⟩ | ⟨a, a2, b, c⟩
      · exact Or.inl ⟨by omega, b⟩
      · exact Or.inr ⟨by omega, by omega, by simpa [lget] using b, fun z => c (by omega)⟩
/-- the listed pairs of the kit's own form -/
def lpairs (Z : Zt) (l : List (Option Value)) : List (Nat × Value) := (List.range l.length).filterMap fun i => (lget l i).map fun v => (i, cv Z v)
theorem lget_lt : ∀ (l : List (Option Value)) (i : Nat) (v : Value), lget l i = some v → i < l.length
  | [], i, v, h => by simp [lget] at h
  | x :: t, 0, v, h => by simp
  | x :: t, i + 1, v, h => by simp only [lget] at h; have := lget_lt t i v h; simp; omega
theorem lpairs_mem {Z : Zt} {l : List (Option Value)} {i : Nat} {v : Value} (h : lget l i = some v) : (i, cv Z v) ∈ lpairs Z l := by
  unfold lpairs
  exact List.mem_filterMap.mpr ⟨i, List.mem_range.mpr (lget_lt l i v h), by rw [h]; rfl⟩
theorem LH.has {Z : Zt} {la : Array Slot} {nL : Nat} {l : List (Option Value)} (h : LH Z la nL l) : lv_has la nL (lpairs Z l) := by
  refine ⟨h.1, h.2.1, fun q hq => ?_⟩
  obtain ⟨i, -, hi⟩ := List.mem_filterMap.mp hq
  cases hg : lget l i with
  | none => rw [hg] at hi; simp at hi
  | some v =>
    rw [hg] at hi
    simp at hi
    rw [← hi]
    exact h.2.2 i v hg
theorem LH.set1 {Z : Zt} {la : Array Slot} {nL i : Nat} {l : List (Option Value)} {v : Value} (h : lv_has la nL ((i, cv Z v) :: (lpairs Z l).filter (fun q => !(q.1 == i) && !(q.1 + 1 == i && q.2.category == 2)))) : LH Z la nL (lset l i v) := by
  refine ⟨h.1, h.2.1, fun j w hw => ?_⟩
  rcases lset_get l i v w j hw with ⟨rfl, rfl⟩ | ⟨a, b, c⟩
  · exact h.2.2 (j, cv Z w) List.mem_cons_self
  · refine h.2.2 (j, cv Z w) (List.mem_cons_of_mem _ (List.mem_filter.mpr ⟨lpairs_mem b, ?_⟩))
    by_cases hj : j + 1 = i
    · have := c hj
      simp [a, cv_cat, this]
    · simp [a, hj]
theorem LH.set2 {Z : Zt} {la : Array Slot} {nL i : Nat} {l : List (Option Value)} {v : Value} (h : lv_has la nL ((i, cv Z v) :: (lpairs Z l).filter (fun q => !(q.1 == i) && (!(q.1 == i + 1) && !(q.1 + 1 == i && q.2.category == 2))))) : LH Z la nL (lset2 l i v) := by
  refine ⟨h.1, h.2.1, fun j w hw => ?_⟩
  rcases lset2_get l i v w j hw with ⟨rfl, rfl⟩ | ⟨a, a2, b, c⟩
  · exact h.2.2 (j, cv Z w) List.mem_cons_self
  · refine h.2.2 (j, cv Z w) (List.mem_cons_of_mem _ (List.mem_filter.mpr ⟨lpairs_mem b, ?_⟩))
    by_cases hj : j + 1 = i
    · have := c hj
      simp [a, a2, cv_cat, this]
    · simp [a, a2, hj]
/-! ===== a method: its name, bytes, locals, type of its answer ===== -/
abbrev Sig : Type := MethodName × ByteArray × Nat × Option FieldType
def FC (Z : Zt) (d : Nat) (sg : Sig) (R : Room) (p : Program) (s : State) (m : MethodId) (args : Array Value) (meth : Method) (c : Code) : Prop :=
  p.tables.exec = Jvm.exec ∧ c.code = sg.2.1 ∧ c.maxLocals = sg.2.2.1 ∧ s.vm.findClass sg.1.cls = some m.cls ∧ (∀ w ∈ WS, w.before args s = true) ∧ GS Z s ∧ d ≤ R.frames ∧ 36 * d ≤ R.locals ∧ meth.name = sg.1.name
/-- the return instruction that fits an answer -/
def rOK (sg : Sig) (pc : Nat) (r : Option Value) : Prop := match r with
  | none => decode sg.2.1 pc = .ok (.return_, 1) ∧ sg.2.2.2 = none
  | some (.int v) => decode sg.2.1 pc = .ok (.ireturn, 1) ∧ ∃ ty, sg.2.2.2 = some ty ∧ narrow ty (.int v) = .int v
  | some (.long _) => decode sg.2.1 pc = .ok (.lreturn, 1) ∧ sg.2.2.2 = some .long
  | some (.ref _) => decode sg.2.1 pc = .ok (.areturn, 1) ∧ ∃ ty, sg.2.2.2 = some ty ∧ ((∃ n, ty = .object n) ∨ ∃ t, ty = .array t)
  | _ => False
/-- from here the machine comes to the frame's end, with an answer and a memory that are in Q -/
def X (Z : Zt) (d : Nat) (sg : Sig) (n0 nF : Nat) (Q : Option Value → Mem → Prop) (pc : Nat) (lv : List (Option Value)) (st : List Value) (M : Mem) : Prop :=
  ∀ (p : Program) (e : Env) (R : Room) (s : State) (m : MethodId) (args : Array Value) (below : List Frame) (meth : Method) (c : Code) (Qe : State → Prop) (H : Heap) (locs : List Loc) (la : Array Slot),
    FC Z d sg R p s m args meth c → nF - n0 ≤ R.cells → sl nF - sl n0 ≤ R.slots → n0 ≤ mN M → mN M ≤ nF → Rep Z M H → va_S (Ar Z) s.heap H locs → LH Z la sg.2.2.1 lv →
    (∀ (r : Option Value) (M' : Mem) (H' : Heap) (locs' : List Loc) (la' : Array Slot) (pc' : Nat), Q r M' → n0 ≤ mN M' → mN M' ≤ nF → Rep Z M' H' → va_S (Ar Z) s.heap H' locs' → rOK sg pc' r →
      W p (zl Z) e R s m args below meth c H' locs' (mN M' - n0) (sl (mN M') - sl n0) Qe (F0 m pc' la' (r.map (cv Z)).toList)) →
    W p (zl Z) e R s m args below meth c H locs (mN M - n0) (sl (mN M) - sl n0) Qe (F0 m pc la (st.map (cv Z)))
section XR
variable {Z : Zt} {d : Nat} {sg : Sig} {n0 nF : Nat} {Q : Option Value → Mem → Prop} {pc : Nat} {lv : List (Option Value)} {st : List Value} {M : Mem}
theorem X_ret {r : Option Value} (hr : rOK sg pc r) (hq : Q r M) : X Z d sg n0 nF Q pc lv r.toList M := by
  intro p e R s m args below meth c Qe H locs la hF h1 h2 h3 h4 hR hS hL hE
  have := hE r M H locs la pc hq h3 h4 hR hS hr
  cases r <;> exact this
theorem X_iconst {v : Int32} (hd : decode sg.2.1 pc = .ok (.iconst v.toInt, 1)) (h : X Z d sg n0 nF Q (pc + 1) lv (.int v :: st) M) : X Z d sg n0 nF Q pc lv st M := by
  intro p e R s m args below meth c Qe H locs la hF h1 h2 h3 h4 hR hS hL hE
  exact lv_iconst hF.1 hF.2.1 hd (by simp) (h p e R s m args below meth c Qe H locs la hF h1 h2 h3 h4 hR hS hL hE)
theorem X_bipush {v : Int32} (hd : decode sg.2.1 pc = .ok (.bipush v.toInt, 2)) (hv : (Int8.ofInt v.toInt).toInt32 = v) (h : X Z d sg n0 nF Q (pc + 2) lv (.int v :: st) M) : X Z d sg n0 nF Q pc lv st M := by
  intro p e R s m args below meth c Qe H locs la hF h1 h2 h3 h4 hR hS hL hE
  exact lv_bipush hF.1 hF.2.1 hd hv (h p e R s m args below meth c Qe H locs la hF h1 h2 h3 h4 hR hS hL hE)
theorem X_sipush {v : Int32} (hd : decode sg.2.1 pc = .ok (.sipush v.toInt, 3)) (hv : (Int16.ofInt v.toInt).toInt32 = v) (h : X Z d sg n0 nF Q (pc + 3) lv (.int v :: st) M) : X Z d sg n0 nF Q pc lv st M := by
  intro p e R s m args below meth c Qe H locs la hF h1 h2 h3 h4 hR hS hL hE
  exact lv_sipush hF.1 hF.2.1 hd hv (h p e R s m args below meth c Qe H locs la hF h1 h2 h3 h4 hR hS hL hE)
theorem X_ldc {v : Int32} {ix : Nat} (hw : Cond.constant sg.1.cls ix v ∈ WS) (hd : decode sg.2.1 pc = .ok (.ldc ix, 2)) (h : X Z d sg n0 nF Q (pc + 2) lv (.int v :: st) M) : X Z d sg n0 nF Q pc lv st M := by
  intro p e R s m args below meth c Qe H locs la hF h1 h2 h3 h4 hR hS hL hE
  exact lv_ldc hF.1 hF.2.1 hF.2.2.2.1 (hF.2.2.2.2.1 _ hw) hd (h p e R s m args below meth c Qe H locs la hF h1 h2 h3 h4 hR hS hL hE)
theorem X_ldc2 {v : Int64} {ix : Nat} (hw : Cond.constantLong sg.1.cls ix v ∈ WS) (hd : decode sg.2.1 pc = .ok (.ldc2_w ix, 3)) (h : X Z d sg n0 nF Q (pc + 3) lv (.long v :: st) M) : X Z d sg n0 nF Q pc lv st M := by
  intro p e R s m args below meth c Qe H locs la hF h1 h2 h3 h4 hR hS hL hE
  exact lv_ldc2 hF.1 hF.2.1 hF.2.2.2.1 (hF.2.2.2.2.1 _ hw) hd (h p e R s m args below meth c Qe H locs la hF h1 h2 h3 h4 hR hS hL hE)
theorem X_ldcS {i : Nat} (hi : i < 4) (hc : sg.1.cls = RX3) (hd : decode sg.2.1 pc = .ok (.ldc (strL.getD i (0, "")).1, 2)) (h : X Z d sg n0 nF Q (pc + 2) lv (.ref (i + 2) :: st) M) : X Z d sg n0 nF Q pc lv st M := by
  intro p e R s m args below meth c Qe H locs la hF h1 h2 h3 h4 hR hS hL hE
  have hz := hF.2.2.2.2.2.1.2.2.2.1 i hi
  have e1 : cv Z (.ref (i + 2)) = .ref (zK Z i) := by
    show ad Z (i + 2) = _
    have a : ¬ 16 ≤ i + 2 := by omega
    have b : ¬ i + 2 = 1 := by omega
    have c : 2 ≤ i + 2 ∧ i + 2 < 6 := by omega
    unfold ad rfo
    rw [if_neg a, if_neg b, if_pos c, show i + 2 - 2 = i by omega]
    rfl
  refine va_ldcS hF.1 hF.2.1 hF.2.2.2.1 (by rw [hc]; exact hz) hd ?_
  have := h p e R s m args below meth c Qe H locs la hF h1 h2 h3 h4 hR hS hL hE
  rw [List.map_cons, e1] at this
  exact this
theorem X_iload {i : Nat} {x : Int32} (hd : decode sg.2.1 pc = .ok (.iload i, 2)) (hl : lget lv i = some (.int x)) (h : X Z d sg n0 nF Q (pc + 2) lv (.int x :: st) M) : X Z d sg n0 nF Q pc lv st M := by
  intro p e R s m args below meth c Qe H locs la hF h1 h2 h3 h4 hR hS hL hE
  exact lv_iload hF.1 hF.2.1 hd (hL.2.2 _ _ hl) (h p e R s m args below meth c Qe H locs la hF h1 h2 h3 h4 hR hS hL hE)
theorem X_iload_n {k : Fin 4} {x : Int32} (hd : decode sg.2.1 pc = .ok (.iload_n k, 1)) (hl : lget lv k = some (.int x)) (h : X Z d sg n0 nF Q (pc + 1) lv (.int x :: st) M) : X Z d sg n0 nF Q pc lv st M := by
  intro p e R s m args below meth c Qe H locs la hF h1 h2 h3 h4 hR hS hL hE
  exact lv_iload_n hF.1 hF.2.1 hd rfl (hL.2.2 _ _ hl) (h p e R s m args below meth c Qe H locs la hF h1 h2 h3 h4 hR hS hL hE)
theorem X_lload {i : Nat} {x : Int64} (hd : decode sg.2.1 pc = .ok (.lload i, 2)) (hl : lget lv i = some (.long x)) (h : X Z d sg n0 nF Q (pc + 2) lv (.long x :: st) M) : X Z d sg n0 nF Q pc lv st M := by
  intro p e R s m args below meth c Qe H locs la hF h1 h2 h3 h4 hR hS hL hE
  exact lv_lload hF.1 hF.2.1 hd (hL.2.2 _ _ hl) (h p e R s m args below meth c Qe H locs la hF h1 h2 h3 h4 hR hS hL hE)
theorem X_lload_n {k : Fin 4} {x : Int64} (hd : decode sg.2.1 pc = .ok (.lload_n k, 1)) (hl : lget lv k = some (.long x)) (h : X Z d sg n0 nF Q (pc + 1) lv (.long x :: st) M) : X Z d sg n0 nF Q pc lv st M := by
  intro p e R s m args below meth c Qe H locs la hF h1 h2 h3 h4 hR hS hL hE
  exact lv_lload_n hF.1 hF.2.1 hd rfl (hL.2.2 _ _ hl) (h p e R s m args below meth c Qe H locs la hF h1 h2 h3 h4 hR hS hL hE)
theorem X_aload {i x : Nat} (hd : decode sg.2.1 pc = .ok (.aload i, 2)) (hl : lget lv i = some (.ref x)) (h : X Z d sg n0 nF Q (pc + 2) lv (.ref x :: st) M) : X Z d sg n0 nF Q pc lv st M := by
  intro p e R s m args below meth c Qe H locs la hF h1 h2 h3 h4 hR hS hL hE
  have a := hL.2.2 _ _ hl
  have b := h p e R s m args below meth c Qe H locs la hF h1 h2 h3 h4 hR hS hL hE
  rw [List.map_cons] at b
  change la[i]? = some (.val (ad Z x)) at a
  change W p (zl Z) e R s m args below meth c H locs _ _ Qe (F0 m _ la (ad Z x :: _)) at b
  rcases ad_or Z x with z | ⟨y, z⟩ <;> rw [z] at a b
  · exact lv_aloadN hF.1 hF.2.1 hd a b
  · exact lv_aload hF.1 hF.2.1 hd a b
theorem X_aload_n {k : Fin 4} {x : Nat} (hd : decode sg.2.1 pc = .ok (.aload_n k, 1)) (hl : lget lv k = some (.ref x)) (h : X Z d sg n0 nF Q (pc + 1) lv (.ref x :: st) M) : X Z d sg n0 nF Q pc lv st M := by
  intro p e R s m args below meth c Qe H locs la hF h1 h2 h3 h4 hR hS hL hE
  have a := hL.2.2 _ _ hl
  have b := h p e R s m args below meth c Qe H locs la hF h1 h2 h3 h4 hR hS hL hE
  rw [List.map_cons] at b
  change la[(k : Nat)]? = some (.val (ad Z x)) at a
  change W p (zl Z) e R s m args below meth c H locs _ _ Qe (F0 m _ la (ad Z x :: _)) at b
  rcases ad_or Z x with z | ⟨y, z⟩ <;> rw [z] at a b
  · exact lv_aload_nN hF.1 hF.2.1 hd rfl a b
  · exact lv_aload_n hF.1 hF.2.1 hd rfl a b
theorem X_istore {i : Nat} {x : Int32} (hn : i < sg.2.2.1) (hd : decode sg.2.1 pc = .ok (.istore i, 2)) (h : X Z d sg n0 nF Q (pc + 2) (lset lv i (.int x)) st M) : X Z d sg n0 nF Q pc lv (.int x :: st) M := by
  intro p e R s m args below meth c Qe H locs la hF h1 h2 h3 h4 hR hS hL hE
  exact lv_istore hF.1 hF.2.1 hd hL.has hn rfl (fun la' hla => h p e R s m args below meth c Qe H locs la' hF h1 h2 h3 h4 hR hS (LH.set1 (v := .int x) hla) hE)
theorem X_istore_n {k : Fin 4} {x : Int32} (hn : (k : Nat) < sg.2.2.1) (hd : decode sg.2.1 pc = .ok (.istore_n k, 1)) (h : X Z d sg n0 nF Q (pc + 1) (lset lv k (.int x)) st M) : X Z d sg n0 nF Q pc lv (.int x :: st) M := by
  intro p e R s m args below meth c Qe H locs la hF h1 h2 h3 h4 hR hS hL hE
  exact lv_istore_n hF.1 hF.2.1 hd rfl hL.has hn rfl (fun la' hla => h p e R s m args below meth c Qe H locs la' hF h1 h2 h3 h4 hR hS (LH.set1 (v := .int x) hla) hE)
theorem X_lstore {i : Nat} {x : Int64} (hn : i + 1 < sg.2.2.1) (hd : decode sg.2.1 pc = .ok (.lstore i, 2)) (h : X Z d sg n0 nF Q (pc + 2) (lset2 lv i (.long x)) st M) : X Z d sg n0 nF Q pc lv (.long x :: st) M := by
  intro p e R s m args below meth c Qe H locs la hF h1 h2 h3 h4 hR hS hL hE
  exact lv_lstore hF.1 hF.2.1 hd hL.has hn rfl (fun la' hla => h p e R s m args below meth c Qe H locs la' hF h1 h2 h3 h4 hR hS (LH.set2 (v := .long x) hla) hE)
theorem X_lstore_n {k : Fin 4} {x : Int64} (hn : (k : Nat) + 1 < sg.2.2.1) (hd : decode sg.2.1 pc = .ok (.lstore_n k, 1)) (h : X Z d sg n0 nF Q (pc + 1) (lset2 lv k (.long x)) st M) : X Z d sg n0 nF Q pc lv (.long x :: st) M := by
  intro p e R s m args below meth c Qe H locs la hF h1 h2 h3 h4 hR hS hL hE
  exact lv_lstore_n hF.1 hF.2.1 hd rfl hL.has hn rfl (fun la' hla => h p e R s m args below meth c Qe H locs la' hF h1 h2 h3 h4 hR hS (LH.set2 (v := .long x) hla) hE)
theorem X_astore {i x : Nat} (hn : i < sg.2.2.1) (hd : decode sg.2.1 pc = .ok (.astore i, 2)) (h : X Z d sg n0 nF Q (pc + 2) (lset lv i (.ref x)) st M) : X Z d sg n0 nF Q pc lv (.ref x :: st) M := by
  intro p e R s m args below meth c Qe H locs la hF h1 h2 h3 h4 hR hS hL hE
  rw [List.map_cons]
  change W p (zl Z) e R s m args below meth c H locs _ _ Qe (F0 m _ la (ad Z x :: _))
  rcases ad_or Z x with z | ⟨y, z⟩
  · rw [z]
    exact lv_astoreN hF.1 hF.2.1 hd hL.has hn rfl (fun la' hla => h p e R s m args below meth c Qe H locs la' hF h1 h2 h3 h4 hR hS (LH.set1 (v := .ref x) (by show lv_has _ _ ((i, ad Z x) :: _); rw [z]; exact hla)) hE)
  · rw [z]
    exact lv_astore hF.1 hF.2.1 hd hL.has hn rfl (fun la' hla => h p e R s m args below meth c Qe H locs la' hF h1 h2 h3 h4 hR hS (LH.set1 (v := .ref x) (by show lv_has _ _ ((i, ad Z x) :: _); rw [z]; exact hla)) hE)
theorem X_astore_n {k : Fin 4} {x : Nat} (hn : (k : Nat) < sg.2.2.1) (hd : decode sg.2.1 pc = .ok (.astore_n k, 1)) (h : X Z d sg n0 nF Q (pc + 1) (lset lv k (.ref x)) st M) : X Z d sg n0 nF Q pc lv (.ref x :: st) M := by
  intro p e R s m args below meth c Qe H locs la hF h1 h2 h3 h4 hR hS hL hE
  rw [List.map_cons]
  change W p (zl Z) e R s m args below meth c H locs _ _ Qe (F0 m _ la (ad Z x :: _))
  rcases ad_or Z x with z | ⟨y, z⟩
  · rw [z]
    exact lv_astore_nN hF.1 hF.2.1 hd rfl hL.has hn rfl (fun la' hla => h p e R s m args below meth c Qe H locs la' hF h1 h2 h3 h4 hR hS (LH.set1 (v := .ref x) (by show lv_has _ _ (((k : Nat), ad Z x) :: _); rw [z]; exact hla)) hE)
  · rw [z]
    exact lv_astore_n hF.1 hF.2.1 hd rfl hL.has hn rfl (fun la' hla => h p e R s m args below meth c Qe H locs la' hF h1 h2 h3 h4 hR hS (LH.set1 (v := .ref x) (by show lv_has _ _ (((k : Nat), ad Z x) :: _); rw [z]; exact hla)) hE)
theorem X_iinc {i : Nat} {x v : Int32} (hn : i < sg.2.2.1) (hl : lget lv i = some (.int x)) (hd : decode sg.2.1 pc = .ok (.iinc i v.toInt, 3)) (h : X Z d sg n0 nF Q (pc + 3) (lset lv i (.int (x + v))) st M) : X Z d sg n0 nF Q pc lv st M := by
  intro p e R s m args below meth c Qe H locs la hF h1 h2 h3 h4 hR hS hL hE
  obtain ⟨k, hk⟩ := List.getElem?_of_mem (lpairs_mem (Z := Z) hl)
  exact lv_iinc (v := x + v) hF.1 hF.2.1 hd hL.has hk (by simp) hn rfl (fun la' hla => h p e R s m args below meth c Qe H locs la' hF h1 h2 h3 h4 hR hS (LH.set1 (v := .int (x + v)) hla) hE)
theorem X_iadd {x y : Int32} (hd : decode sg.2.1 pc = .ok (.iadd, 1)) (h : X Z d sg n0 nF Q (pc + 1) lv (.int (x + y) :: st) M) : X Z d sg n0 nF Q pc lv (.int y :: .int x :: st) M := by
  intro p e R s m args below meth c Qe H locs la hF h1 h2 h3 h4 hR hS hL hE
  exact lv_iadd hF.1 hF.2.1 hd (h p e R s m args below meth c Qe H locs la hF h1 h2 h3 h4 hR hS hL hE)
theorem X_isub {x y : Int32} (hd : decode sg.2.1 pc = .ok (.isub, 1)) (h : X Z d sg n0 nF Q (pc + 1) lv (.int (x - y) :: st) M) : X Z d sg n0 nF Q pc lv (.int y :: .int x :: st) M := by
  intro p e R s m args below meth c Qe H locs la hF h1 h2 h3 h4 hR hS hL hE
  exact lv_isub hF.1 hF.2.1 hd (h p e R s m args below meth c Qe H locs la hF h1 h2 h3 h4 hR hS hL hE)
theorem X_imul {x y : Int32} (hd : decode sg.2.1 pc = .ok (.imul, 1)) (h : X Z d sg n0 nF Q (pc + 1) lv (.int (x * y) :: st) M) : X Z d sg n0 nF Q pc lv (.int y :: .int x :: st) M := by
  intro p e R s m args below meth c Qe H locs la hF h1 h2 h3 h4 hR hS hL hE
  exact lv_imul hF.1 hF.2.1 hd (h p e R s m args below meth c Qe H locs la hF h1 h2 h3 h4 hR hS hL hE)
theorem X_idiv {x y : Int32} (hd : decode sg.2.1 pc = .ok (.idiv, 1)) (hy : ¬ y = 0) (h : X Z d sg n0 nF Q (pc + 1) lv (.int (x / y) :: st) M) : X Z d sg n0 nF Q pc lv (.int y :: .int x :: st) M := by
  intro p e R s m args below meth c Qe H locs la hF h1 h2 h3 h4 hR hS hL hE
  exact lv_idiv hF.1 hF.2.1 hd hy (h p e R s m args below meth c Qe H locs la hF h1 h2 h3 h4 hR hS hL hE)
theorem X_irem {x y : Int32} (hd : decode sg.2.1 pc = .ok (.irem, 1)) (hy : ¬ y = 0) (h : X Z d sg n0 nF Q (pc + 1) lv (.int (x - x / y * y) :: st) M) : X Z d sg n0 nF Q pc lv (.int y :: .int x :: st) M := by
  intro p e R s m args below meth c Qe H locs la hF h1 h2 h3 h4 hR hS hL hE
  exact lv_irem hF.1 hF.2.1 hd hy (h p e R s m args below meth c Qe H locs la hF h1 h2 h3 h4 hR hS hL hE)
theorem X_ineg {x : Int32} (hd : decode sg.2.1 pc = .ok (.ineg, 1)) (h : X Z d sg n0 nF Q (pc + 1) lv (.int (-x) :: st) M) : X Z d sg n0 nF Q pc lv (.int x :: st) M := by
  intro p e R s m args below meth c Qe H locs la hF h1 h2 h3 h4 hR hS hL hE
  exact lv_ineg hF.1 hF.2.1 hd (h p e R s m args below meth c Qe H locs la hF h1 h2 h3 h4 hR hS hL hE)
theorem X_iand {x y : Int32} (hd : decode sg.2.1 pc = .ok (.iand, 1)) (h : X Z d sg n0 nF Q (pc + 1) lv (.int (x &&& y) :: st) M) : X Z d sg n0 nF Q pc lv (.int y :: .int x :: st) M := by
  intro p e R s m args below meth c Qe H locs la hF h1 h2 h3 h4 hR hS hL hE
  exact lv_iand hF.1 hF.2.1 hd (h p e R s m args below meth c Qe H locs la hF h1 h2 h3 h4 hR hS hL hE)
theorem X_ior {x y : Int32} (hd : decode sg.2.1 pc = .ok (.ior, 1)) (h : X Z d sg n0 nF Q (pc + 1) lv (.int (x ||| y) :: st) M) : X Z d sg n0 nF Q pc lv (.int y :: .int x :: st) M := by
  intro p e R s m args below meth c Qe H locs la hF h1 h2 h3 h4 hR hS hL hE
  exact lv_ior hF.1 hF.2.1 hd (h p e R s m args below meth c Qe H locs la hF h1 h2 h3 h4 hR hS hL hE)
theorem X_ishl {x y : Int32} (hd : decode sg.2.1 pc = .ok (.ishl, 1)) (h : X Z d sg n0 nF Q (pc + 1) lv (.int (x <<< (y &&& 31)) :: st) M) : X Z d sg n0 nF Q pc lv (.int y :: .int x :: st) M := by
  intro p e R s m args below meth c Qe H locs la hF h1 h2 h3 h4 hR hS hL hE
  exact lv_ishl hF.1 hF.2.1 hd (h p e R s m args below meth c Qe H locs la hF h1 h2 h3 h4 hR hS hL hE)
theorem X_ishr {x y : Int32} (hd : decode sg.2.1 pc = .ok (.ishr, 1)) (h : X Z d sg n0 nF Q (pc + 1) lv (.int (x >>> (y &&& 31)) :: st) M) : X Z d sg n0 nF Q pc lv (.int y :: .int x :: st) M := by
  intro p e R s m args below meth c Qe H locs la hF h1 h2 h3 h4 hR hS hL hE
  exact lv_ishr hF.1 hF.2.1 hd (h p e R s m args below meth c Qe H locs la hF h1 h2 h3 h4 hR hS hL hE)
theorem X_i2l {x : Int32} (hd : decode sg.2.1 pc = .ok (.i2l, 1)) (h : X Z d sg n0 nF Q (pc + 1) lv (.long x.toInt64 :: st) M) : X Z d sg n0 nF Q pc lv (.int x :: st) M := by
  intro p e R s m args below meth c Qe H locs la hF h1 h2 h3 h4 hR hS hL hE
  exact lv_i2l hF.1 hF.2.1 hd rfl (h p e R s m args below meth c Qe H locs la hF h1 h2 h3 h4 hR hS hL hE)
theorem X_i2c {x : Int32} (hd : decode sg.2.1 pc = .ok (.i2c, 1)) (h : X Z d sg n0 nF Q (pc + 1) lv (.int (x.toUInt32 % 65536).toInt32 :: st) M) : X Z d sg n0 nF Q pc lv (.int x :: st) M := by
  intro p e R s m args below meth c Qe H locs la hF h1 h2 h3 h4 hR hS hL hE
  exact lv_i2c hF.1 hF.2.1 hd rfl (h p e R s m args below meth c Qe H locs la hF h1 h2 h3 h4 hR hS hL hE)
theorem X_ladd {x y : Int64} (hd : decode sg.2.1 pc = .ok (.ladd, 1)) (h : X Z d sg n0 nF Q (pc + 1) lv (.long (x + y) :: st) M) : X Z d sg n0 nF Q pc lv (.long y :: .long x :: st) M := by
  intro p e R s m args below meth c Qe H locs la hF h1 h2 h3 h4 hR hS hL hE
  exact lv_ladd hF.1 hF.2.1 hd (h p e R s m args below meth c Qe H locs la hF h1 h2 h3 h4 hR hS hL hE)
theorem X_lmul {x y : Int64} (hd : decode sg.2.1 pc = .ok (.lmul, 1)) (h : X Z d sg n0 nF Q (pc + 1) lv (.long (x * y) :: st) M) : X Z d sg n0 nF Q pc lv (.long y :: .long x :: st) M := by
  intro p e R s m args below meth c Qe H locs la hF h1 h2 h3 h4 hR hS hL hE
  exact lv_lmul hF.1 hF.2.1 hd (h p e R s m args below meth c Qe H locs la hF h1 h2 h3 h4 hR hS hL hE)
theorem X_lcmp {x y : Int64} (hd : decode sg.2.1 pc = .ok (.lcmp, 1)) (h : X Z d sg n0 nF Q (pc + 1) lv (.int (lg_cmp x y) :: st) M) : X Z d sg n0 nF Q pc lv (.long y :: .long x :: st) M := by
  intro p e R s m args below meth c Qe H locs la hF h1 h2 h3 h4 hR hS hL hE
  exact W.lcmp hF.1 hF.2.1 hd (h p e R s m args below meth c Qe H locs la hF h1 h2 h3 h4 hR hS hL hE)
theorem X_dup {v : Value} (hc : v.category = 1) (hd : decode sg.2.1 pc = .ok (.dup, 1)) (h : X Z d sg n0 nF Q (pc + 1) lv (v :: v :: st) M) : X Z d sg n0 nF Q pc lv (v :: st) M := by
  intro p e R s m args below meth c Qe H locs la hF h1 h2 h3 h4 hR hS hL hE
  exact lv_dup hF.1 hF.2.1 hd (by rw [cv_cat]; exact hc) (h p e R s m args below meth c Qe H locs la hF h1 h2 h3 h4 hR hS hL hE)
theorem X_dup2 {v w : Value} (hc : v.category = 1) (hc2 : w.category = 1) (hd : decode sg.2.1 pc = .ok (.dup2, 1)) (h : X Z d sg n0 nF Q (pc + 1) lv (v :: w :: v :: w :: st) M) : X Z d sg n0 nF Q pc lv (v :: w :: st) M := by
  intro p e R s m args below meth c Qe H locs la hF h1 h2 h3 h4 hR hS hL hE
  exact lv_dup2_11 hF.1 hF.2.1 hd (by rw [cv_cat]; exact hc) (by rw [cv_cat]; exact hc2) (h p e R s m args below meth c Qe H locs la hF h1 h2 h3 h4 hR hS hL hE)
theorem X_pop {v : Value} (hc : v.category = 1) (hd : decode sg.2.1 pc = .ok (.pop, 1)) (h : X Z d sg n0 nF Q (pc + 1) lv st M) : X Z d sg n0 nF Q pc lv (v :: st) M := by
  intro p e R s m args below meth c Qe H locs la hF h1 h2 h3 h4 hR hS hL hE
  exact lv_pop hF.1 hF.2.1 hd (by rw [cv_cat]; exact hc) (h p e R s m args below meth c Qe H locs la hF h1 h2 h3 h4 hR hS hL hE)
theorem X_goto {tgt : Nat} (hd : decode sg.2.1 pc = .ok (.goto ((tgt : Int) - pc), 3)) (h : X Z d sg n0 nF Q tgt lv st M) : X Z d sg n0 nF Q pc lv st M := by
  intro p e R s m args below meth c Qe H locs la hF h1 h2 h3 h4 hR hS hL hE
  exact lv_goto hF.1 hF.2.1 hd (by omega) (h p e R s m args below meth c Qe H locs la hF h1 h2 h3 h4 hR hS hL hE)
theorem X_if_eq {x : Int32} {tgt : Nat} (hd : decode sg.2.1 pc = .ok (.ifCond .eq ((tgt : Int) - pc), 3)) (ht : x = 0 → X Z d sg n0 nF Q tgt lv st M) (hf : ¬ x = 0 → X Z d sg n0 nF Q (pc + 3) lv st M) : X Z d sg n0 nF Q pc lv (.int x :: st) M := by
  intro p e R s m args below meth c Qe H locs la hF h1 h2 h3 h4 hR hS hL hE
  exact lv_if_eq hF.1 hF.2.1 hd (by omega) (fun q => ht q p e R s m args below meth c Qe H locs la hF h1 h2 h3 h4 hR hS hL hE) (fun q => hf q p e R s m args below meth c Qe H locs la hF h1 h2 h3 h4 hR hS hL hE)
theorem X_icmp_eq {x y : Int32} {tgt : Nat} (hd : decode sg.2.1 pc = .ok (.if_icmp .eq ((tgt : Int) - pc), 3)) (ht : x = y → X Z d sg n0 nF Q tgt lv st M) (hf : ¬ x = y → X Z d sg n0 nF Q (pc + 3) lv st M) : X Z d sg n0 nF Q pc lv (.int y :: .int x :: st) M := by
  intro p e R s m args below meth c Qe H locs la hF h1 h2 h3 h4 hR hS hL hE
  exact lv_icmp_eq hF.1 hF.2.1 hd (by omega) (fun q => ht q p e R s m args below meth c Qe H locs la hF h1 h2 h3 h4 hR hS hL hE) (fun q => hf q p e R s m args below meth c Qe H locs la hF h1 h2 h3 h4 hR hS hL hE)
theorem X_if_ne {x : Int32} {tgt : Nat} (hd : decode sg.2.1 pc = .ok (.ifCond .ne ((tgt : Int) - pc), 3)) (ht : ¬ x = 0 → X Z d sg n0 nF Q tgt lv st M) (hf : x = 0 → X Z d sg n0 nF Q (pc + 3) lv st M) : X Z d sg n0 nF Q pc lv (.int x :: st) M := by
  intro p e R s m args below meth c Qe H locs la hF h1 h2 h3 h4 hR hS hL hE
  exact lv_if_ne hF.1 hF.2.1 hd (by omega) (fun q => ht q p e R s m args below meth c Qe H locs la hF h1 h2 h3 h4 hR hS hL hE) (fun q => hf q p e R s m args below meth c Qe H locs la hF h1 h2 h3 h4 hR hS hL hE)
theorem X_icmp_ne {x y : Int32} {tgt : Nat} (hd : decode sg.2.1 pc = .ok (.if_icmp .ne ((tgt : Int) - pc), 3)) (ht : ¬ x = y → X Z d sg n0 nF Q tgt lv st M) (hf : x = y → X Z d sg n0 nF Q (pc + 3) lv st M) : X Z d sg n0 nF Q pc lv (.int y :: .int x :: st) M := by
  intro p e R s m args below meth c Qe H locs la hF h1 h2 h3 h4 hR hS hL hE
  exact lv_icmp_ne hF.1 hF.2.1 hd (by omega) (fun q => ht q p e R s m args below meth c Qe H locs la hF h1 h2 h3 h4 hR hS hL hE) (fun q => hf q p e R s m args below meth c Qe H locs la hF h1 h2 h3 h4 hR hS hL hE)
theorem X_if_lt {x : Int32} {tgt : Nat} (hd : decode sg.2.1 pc = .ok (.ifCond .lt ((tgt : Int) - pc), 3)) (ht : x < 0 → X Z d sg n0 nF Q tgt lv st M) (hf : ¬ x < 0 → X Z d sg n0 nF Q (pc + 3) lv st M) : X Z d sg n0 nF Q pc lv (.int x :: st) M := by
  intro p e R s m args below meth c Qe H locs la hF h1 h2 h3 h4 hR hS hL hE
  exact lv_if_lt hF.1 hF.2.1 hd (by omega) (fun q => ht q p e R s m args below meth c Qe H locs la hF h1 h2 h3 h4 hR hS hL hE) (fun q => hf q p e R s m args below meth c Qe H locs la hF h1 h2 h3 h4 hR hS hL hE)
theorem X_icmp_lt {x y : Int32} {tgt : Nat} (hd : decode sg.2.1 pc = .ok (.if_icmp .lt ((tgt : Int) - pc), 3)) (ht : x < y → X Z d sg n0 nF Q tgt lv st M) (hf : ¬ x < y → X Z d sg n0 nF Q (pc + 3) lv st M) : X Z d sg n0 nF Q pc lv (.int y :: .int x :: st) M := by
  intro p e R s m args below meth c Qe H locs la hF h1 h2 h3 h4 hR hS hL hE
  exact lv_icmp_lt hF.1 hF.2.1 hd (by omega) (fun q => ht q p e R s m args below meth c Qe H locs la hF h1 h2 h3 h4 hR hS hL hE) (fun q => hf q p e R s m args below meth c Qe H locs la hF h1 h2 h3 h4 hR hS hL hE)
theorem X_if_ge {x : Int32} {tgt : Nat} (hd : decode sg.2.1 pc = .ok (.ifCond .ge ((tgt : Int) - pc), 3)) (ht : 0 ≤ x → X Z d sg n0 nF Q tgt lv st M) (hf : ¬ 0 ≤ x → X Z d sg n0 nF Q (pc + 3) lv st M) : X Z d sg n0 nF Q pc lv (.int x :: st) M := by
  intro p e R s m args below meth c Qe H locs la hF h1 h2 h3 h4 hR hS hL hE
  exact lv_if_ge hF.1 hF.2.1 hd (by omega) (fun q => ht q p e R s m args below meth c Qe H locs la hF h1 h2 h3 h4 hR hS hL hE) (fun q => hf q p e R s m args below meth c Qe H locs la hF h1 h2 h3 h4 hR hS hL hE)
theorem X_icmp_ge {x y : Int32} {tgt : Nat} (hd : decode sg.2.1 pc = .ok (.if_icmp .ge ((tgt : Int) - pc), 3)) (ht : y ≤ x → X Z d sg n0 nF Q tgt lv st M) (hf : ¬ y ≤ x → X Z d sg n0 nF Q (pc + 3) lv st M) : X Z d sg n0 nF Q pc lv (.int y :: .int x :: st) M := by
  intro p e R s m args below meth c Qe H locs la hF h1 h2 h3 h4 hR hS hL hE
  exact lv_icmp_ge hF.1 hF.2.1 hd (by omega) (fun q => ht q p e R s m args below meth c Qe H locs la hF h1 h2 h3 h4 hR hS hL hE) (fun q => hf q p e R s m args below meth c Qe H locs la hF h1 h2 h3 h4 hR hS hL hE)
theorem X_if_gt {x : Int32} {tgt : Nat} (hd : decode sg.2.1 pc = .ok (.ifCond .gt ((tgt : Int) - pc), 3)) (ht : 0 < x → X Z d sg n0 nF Q tgt lv st M) (hf : ¬ 0 < x → X Z d sg n0 nF Q (pc + 3) lv st M) : X Z d sg n0 nF Q pc lv (.int x :: st) M := by
  intro p e R s m args below meth c Qe H locs la hF h1 h2 h3 h4 hR hS hL hE
  exact lv_if_gt hF.1 hF.2.1 hd (by omega) (fun q => ht q p e R s m args below meth c Qe H locs la hF h1 h2 h3 h4 hR hS hL hE) (fun q => hf q p e R s m args below meth c Qe H locs la hF h1 h2 h3 h4 hR hS hL hE)
theorem X_icmp_gt {x y : Int32} {tgt : Nat} (hd : decode sg.2.1 pc = .ok (.if_icmp .gt ((tgt : Int) - pc), 3)) (ht : y < x → X Z d sg n0 nF Q tgt lv st M) (hf : ¬ y < x → X Z d sg n0 nF Q (pc + 3) lv st M) : X Z d sg n0 nF Q pc lv (.int y :: .int x :: st) M := by
  intro p e R s m args below meth c Qe H locs la hF h1 h2 h3 h4 hR hS hL hE
  exact lv_icmp_gt hF.1 hF.2.1 hd (by omega) (fun q => ht q p e R s m args below meth c Qe H locs la hF h1 h2 h3 h4 hR hS hL hE) (fun q => hf q p e R s m args below meth c Qe H locs la hF h1 h2 h3 h4 hR hS hL hE)
theorem X_if_le {x : Int32} {tgt : Nat} (hd : decode sg.2.1 pc = .ok (.ifCond .le ((tgt : Int) - pc), 3)) (ht : x ≤ 0 → X Z d sg n0 nF Q tgt lv st M) (hf : ¬ x ≤ 0 → X Z d sg n0 nF Q (pc + 3) lv st M) : X Z d sg n0 nF Q pc lv (.int x :: st) M := by
  intro p e R s m args below meth c Qe H locs la hF h1 h2 h3 h4 hR hS hL hE
  exact lv_if_le hF.1 hF.2.1 hd (by omega) (fun q => ht q p e R s m args below meth c Qe H locs la hF h1 h2 h3 h4 hR hS hL hE) (fun q => hf q p e R s m args below meth c Qe H locs la hF h1 h2 h3 h4 hR hS hL hE)
theorem X_icmp_le {x y : Int32} {tgt : Nat} (hd : decode sg.2.1 pc = .ok (.if_icmp .le ((tgt : Int) - pc), 3)) (ht : x ≤ y → X Z d sg n0 nF Q tgt lv st M) (hf : ¬ x ≤ y → X Z d sg n0 nF Q (pc + 3) lv st M) : X Z d sg n0 nF Q pc lv (.int y :: .int x :: st) M := by
  intro p e R s m args below meth c Qe H locs la hF h1 h2 h3 h4 hR hS hL hE
  exact lv_icmp_le hF.1 hF.2.1 hd (by omega) (fun q => ht q p e R s m args below meth c Qe H locs la hF h1 h2 h3 h4 hR hS hL hE) (fun q => hf q p e R s m args below meth c Qe H locs la hF h1 h2 h3 h4 hR hS hL hE)
end XR
end
section
theorem clsW : ∀ ci, ci < 6 → ∀ w ∈ u_ws (cnm ci) (cT ci) (cW ci), w ∈ WS := by decide +kernel
theorem clsNm : ∀ ci, ci < 6 → ∀ a, a < cW ci → ∀ b, b < cW ci → a ≠ b → (cT ci a).2.1 ≠ (cT ci b).2.1 := by decide +kernel
theorem clsTy : ∀ ci, ci < 6 → ∀ k, k < cW ci → parseFieldDescriptor (cT ci k).2.2.1 = some (cty ci k) := by decide +kernel
theorem clsGet : ∀ ci, ci < 6 → cls[ci]? = some (cnm ci, cT ci, cW ci) := by
  intro ci h
  rcases (by omega : ci = 0 ∨ ci = 1 ∨ ci = 2 ∨ ci = 3 ∨ ci = 4 ∨ ci = 5) with h | h | h | h | h | h <;> subst h <;> rfl
/-- the type of a field fits how it is kept -/
theorem clsFk : ∀ ci, ci < 6 → ∀ k, k < cW ci → (fk ci k = 0 ∧ cty ci k = .int) ∨ (fk ci k = 1 ∧ (cty ci k).isReference = true) ∨ (fk ci k = 2 ∧ cty ci k = .int) ∨ (fk ci k = 3 ∧ cty ci k = .long) := by decide +kernel
def isO (M : Mem) (i ci : Nat) : Prop := i < mN M ∧ (kd i).1 = ci + 3 ∧ (kd i).2 = cW ci
def isA (M : Mem) (a : Nat) (i : Int32) : Prop := a < mN M ∧ (kd a).1 = 1 ∧ vp_in i (kd a).2
theorem isO.lo {M : Mem} {i ci : Nat} (h : isO M i ci) : 16 ≤ i := kd_lo (by rw [h.2.1]; omega)
theorem isA.lo {M : Mem} {a : Nat} {i : Int32} (h : isA M a i) : 16 ≤ a := kd_lo (by rw [h.2.1]; omega)
theorem isO.ce {Z : Zt} {M : Mem} {i ci : Nat} (h : isO M i ci) : ce Z M i = .inr (ci, (List.range (cW ci)).map (fv Z M i ci)) := by
  show (if (kd i).1 = 1 then _ else _) = _
  rw [h.2.1, h.2.2, if_neg (by omega), if_neg (by omega), show ci + 3 - 3 = ci by omega]
/-- what getfield pushes -/
def gval (M : Mem) (i ci k : Nat) : Value := if fk ci k = 0 then .int (mI M i k) else if fk ci k = 1 then .ref (mR M i k) else if fk ci k = 2 then .int (nI (mR M i k)) else .long (mL M i)
theorem gval_cv (Z : Zt) (M : Mem) (i ci k : Nat) : cv Z (gval M i ci k) = fv Z M i ci k := by
  unfold gval fv
  split
  · rfl
  · split
    · rfl
    · split <;> rfl
theorem Rep.at {Z : Zt} {M : Mem} {H : Heap} (h : Rep Z M H) {i : Nat} (h1 : 16 ≤ i) (h2 : i < mN M) : (wsZ Z M)[i - 16]? = some (zo Z + (i - 16), ce Z M i) := wsZ_at h1 h2
theorem isO_at {Z : Zt} {M : Mem} {i ci : Nat} (ho : isO M i ci) : (wsZ Z M)[i - 16]? = some (zo Z + (i - 16), .inr (ci, (List.range (cW ci)).map (fv Z M i ci))) := by
  rw [wsZ_at ho.lo ho.1, ho.ce]
theorem ce_arr {Z : Zt} {M : Mem} {a : Nat} (h : (kd a).1 = 1) : ce Z M a = .inl (zcI Z, (kd a).2, .inl (mI M a)) := by
  show (if (kd a).1 = 1 then _ else _) = _
  rw [if_pos h]
theorem ce_led {Z : Zt} {M : Mem} {a : Nat} (h : (kd a).1 = 2) : ce Z M a = .inl (zcL Z, (kd a).2, .inr (.inr (.inr (.inr (fun j => rfo Z (mR M a j)))))) := by
  show (if (kd a).1 = 1 then _ else _) = _
  rw [if_neg (by omega), if_pos h]
theorem arr_at {Z : Zt} {M : Mem} {a : Nat} (h1 : a < mN M) (h : (kd a).1 = 1) : (wsZ Z M)[a - 16]? = some (zo Z + (a - 16), .inl (zcI Z, (kd a).2, .inl (mI M a))) := by
  rw [wsZ_at (kd_lo (by omega)) h1, ce_arr h]
theorem led_at {Z : Zt} {M : Mem} {a : Nat} (h1 : a < mN M) (h : (kd a).1 = 2) : (wsZ Z M)[a - 16]? = some (zo Z + (a - 16), .inl (zcL Z, (kd a).2, .inr (.inr (.inr (.inr (fun j => rfo Z (mR M a j))))))) := by
  rw [wsZ_at (kd_lo (by omega)) h1, ce_led h]
theorem ad_of {Z : Zt} {M : Mem} {i : Nat} (h : 16 ≤ i) : cv Z (.ref i) = .ref (zo Z + (i - 16)) := ad_cell h
section XH
variable {Z : Zt} {d : Nat} {sg : Sig} {n0 nF : Nat} {Q : Option Value → Mem → Prop} {pc : Nat} {lv : List (Option Value)} {st : List Value} {M : Mem}
theorem X_getf {i ci k ix : Nat} (hci : ci < 6) (hk : k < cW ci) (hw : Cond.fieldLink sg.1.cls ix (cT ci k).1 (cT ci k).2.1 (cT ci k).2.2.1 ∈ WS) (hd : decode sg.2.1 pc = .ok (.getfield ix, 3)) (ho : isO M i ci) (h : X Z d sg n0 nF Q (pc + 3) lv (gval M i ci k :: st) M) : X Z d sg n0 nF Q pc lv (.ref i :: st) M := by
  intro p e R s m args below meth c Qe H locs la hF h1 h2 h3 h4 hR hS hL hE
  have kk := h p e R s m args below meth c Qe H locs la hF h1 h2 h3 h4 hR hS hL hE
  rw [List.map_cons, gval_cv] at kk
  rw [List.map_cons, ad_of (M := M) ho.lo]
  exact va_get (Ts := WS) hF.1 hF.2.1 hF.2.2.2.2.1 (clsW ci hci) hF.2.2.2.1 hF.2.2.2.2.2.1.1 hR.1 (i - 16) (isO_at ho) (clsGet ci hci) k hk (hF.2.2.2.2.1 _ hw) (fun _ h => h) (fv_get hk) hd kk
theorem Rep.set {Z : Zt} {M M' : Mem} {i : Nat} {H H1 : Heap} {e : va_E} (hR : Rep Z M H) (h : 16 ≤ i) (h2 : i < mN M) (hn : mN M' = mN M) (ho : ∀ j, j ≠ i → ce Z M' j = ce Z M j) (he : ce Z M' i = e) (hz : H1.size = H.size) (hP : va_P (zD Z) cls ((wsZ Z M).set (i - 16) (zo Z + (i - 16), e)) H1) : Rep Z M' H1 := by
  subst he
  rw [wsZ_set h h2 hn ho] at hP
  exact ⟨hP, by rw [hz, hR.2.1, hn], by rw [hn]; exact hR.2.2⟩
theorem va_P_size {Z : Zt} {H H1 : Heap} {A : Nat → Prop} {H0 : Heap} {locs locs1 : List Loc} (h : va_S A H0 H locs) (h' : va_S A H0 H1 locs1) : True := trivial
theorem X_putI {i ci k ix : Nat} {v : Int32} (hci : ci < 6) (hk : k < cW ci) (hf : (cT ci k).2.2.2 = false) (h0 : fk ci k = 0) (hty : cty ci k = .int) (hw : Cond.fieldLink sg.1.cls ix (cT ci k).1 (cT ci k).2.1 (cT ci k).2.2.1 ∈ WS) (hd : decode sg.2.1 pc = .ok (.putfield ix, 3)) (ho : isO M i ci) (h : X Z d sg n0 nF Q (pc + 3) lv st (stI M i k v)) : X Z d sg n0 nF Q pc lv (.int v :: .ref i :: st) M := by
  intro p e R s m args below meth c Qe H locs la hF h1 h2 h3 h4 hR hS hL hE
  rw [List.map_cons, List.map_cons, ad_of (M := M) ho.lo]
  have hap := va_apart (own := sg.1.cls) hF.2.2.2.2.1 (clsW ci hci) (cty ci) (clsTy ci hci) (clsNm ci hci) hF.2.2.2.2.2.1.1 (clsGet ci hci)
  obtain ⟨r, g1, cell, q1, q2, q3, q4⟩ := hR.1 (i - 16) _ (isO_at ho)
  have hr : r = (cnm ci, cT ci, cW ci) := Option.some.inj (g1.symm.trans (clsGet ci hci))
  subst hr
  obtain ⟨hSl, hfc, kC, hkC, hkind⟩ := hF.2.2.2.2.2.1.1.1 ci _ (clsGet ci hci)
  obtain ⟨cf, kf, fi, f, hi, hsl⟩ := hSl k hk
  have hlay := hF.2.2.2.2.1 _ (clsW ci hci _ (u_in_lay hk))
  unfold u_lay at hlay
  rw [if_neg (by rw [hf]; decide)] at hlay
  have hst := (u_facts hfc hkC (u_lays hF.2.2.2.2.1 (clsW ci hci) hk) hi).1
  have h6 := u_store (v := .int v) hfc hkC hkind hlay hi (clsTy ci hci k hk) (by rw [hty]; rfl) (by rw [hty]; rfl)
  refine W.putK hF.1 hF.2.1 (f := f) ⟨hF.2.2.2.1, hF.2.2.2.2.1 _ hw, ⟨_, _, _, hi⟩, hst⟩ (by rw [q2]; exact h6) q1 q3 (by rw [hsl]; exact k2_hasslot (q4 k hk)) rfl rfl hd fun H' e1 e2 e3 => ?_
  rw [hsl] at e1 ⊢
  have hl : k < ((List.range (cW ci)).map (fv Z M i ci)).length := by simpa using hk
  have hP := hR.1.set (wsD Z M) (isO_at ho) (e := .inr (ci, ((List.range (cW ci)).map (fv Z M i ci)).set k (.int v))) ⟨_, clsGet ci hci, t_OB.to (V := updV (vp_V ((List.range (cW ci)).map (fv Z M i ci))) k (.int v)) ⟨_, e1, q2, q3, t_set q4 hap hk (.int v)⟩ (fun j _ => vp_updV_set hl (.int v) j)⟩ e3
  have ho' : isO (stI M i k v) i ci := ho
  have hR' : Rep Z (stI M i k v) H' := Rep.set (M' := stI M i k v) hR ho.lo ho.1 rfl (fun j hj => ce_stI hj) (by
    rw [ho'.ce]
    congr 2
    refine (map_set_range _ _ _ _ _ ?_ ?_).symm
    · unfold fv
      rw [if_pos h0]
      simp [mI, stI, u2]
    · intro j hj
      unfold fv
      have e9 : mI (stI M i k v) i j = mI M i j := by simp [mI, stI, u2, hj]
      rw [e9]
      rfl) e2 hP
  exact h p e R s m args below meth c Qe H' _ la hF h1 h2 h3 h4 hR' (hS.put e2 e3 ((wsD Z M).2 (i - 16) _ (isO_at ho))) hL hE
theorem X_putJ {i ci k ix : Nat} {v : Int64} (hci : ci < 6) (hk : k < cW ci) (hf : (cT ci k).2.2.2 = false) (h0 : fk ci k = 3) (hu : ∀ j, j < cW ci → j ≠ k → fk ci j < 3) (hty : cty ci k = .long) (hw : Cond.fieldLink sg.1.cls ix (cT ci k).1 (cT ci k).2.1 (cT ci k).2.2.1 ∈ WS) (hd : decode sg.2.1 pc = .ok (.putfield ix, 3)) (ho : isO M i ci) (h : X Z d sg n0 nF Q (pc + 3) lv st (stL M i v)) : X Z d sg n0 nF Q pc lv (.long v :: .ref i :: st) M := by
  intro p e R s m args below meth c Qe H locs la hF h1 h2 h3 h4 hR hS hL hE
  rw [List.map_cons, List.map_cons, ad_of (M := M) ho.lo]
  have hap := va_apart (own := sg.1.cls) hF.2.2.2.2.1 (clsW ci hci) (cty ci) (clsTy ci hci) (clsNm ci hci) hF.2.2.2.2.2.1.1 (clsGet ci hci)
  obtain ⟨r, g1, cell, q1, q2, q3, q4⟩ := hR.1 (i - 16) _ (isO_at ho)
  have hr : r = (cnm ci, cT ci, cW ci) := Option.some.inj (g1.symm.trans (clsGet ci hci))
  subst hr
  obtain ⟨hSl, hfc, kC, hkC, hkind⟩ := hF.2.2.2.2.2.1.1.1 ci _ (clsGet ci hci)
  obtain ⟨cf, kf, fi, f, hi, hsl⟩ := hSl k hk
  have hlay := hF.2.2.2.2.1 _ (clsW ci hci _ (u_in_lay hk))
  unfold u_lay at hlay
  rw [if_neg (by rw [hf]; decide)] at hlay
  have hst := (u_facts hfc hkC (u_lays hF.2.2.2.2.1 (clsW ci hci) hk) hi).1
  have h6 := u_store (v := .long v) hfc hkC hkind hlay hi (clsTy ci hci k hk) (by rw [hty]; rfl) (by rw [hty]; rfl)
  refine W.putK hF.1 hF.2.1 (f := f) ⟨hF.2.2.2.1, hF.2.2.2.2.1 _ hw, ⟨_, _, _, hi⟩, hst⟩ (by rw [q2]; exact h6) q1 q3 (by rw [hsl]; exact k2_hasslot (q4 k hk)) rfl rfl hd fun H' e1 e2 e3 => ?_
  rw [hsl] at e1 ⊢
  have hl : k < ((List.range (cW ci)).map (fv Z M i ci)).length := by simpa using hk
  have hP := hR.1.set (wsD Z M) (isO_at ho) (e := .inr (ci, ((List.range (cW ci)).map (fv Z M i ci)).set k (.long v))) ⟨_, clsGet ci hci, t_OB.to (V := updV (vp_V ((List.range (cW ci)).map (fv Z M i ci))) k (.long v)) ⟨_, e1, q2, q3, t_set q4 hap hk (.long v)⟩ (fun j _ => vp_updV_set hl (.long v) j)⟩ e3
  have ho' : isO (stL M i v) i ci := ho
  have hR' : Rep Z (stL M i v) H' := Rep.set (M' := stL M i v) hR ho.lo ho.1 rfl (fun j hj => ce_stL hj) (by
    rw [ho'.ce]
    congr 2
    apply List.ext_getElem?
    intro j
    by_cases hjl : j < cW ci
    · rw [fv_get hjl]
      by_cases hj : j = k
      · subst hj
        rw [List.getElem?_set_self hl]
        unfold fv
        rw [if_neg (by omega), if_neg (by omega), if_neg (by omega)]
        simp [mL, stL, u1]
      · rw [List.getElem?_set_ne (fun z => hj z.symm), fv_get hjl]
        have := hu j hjl hj
        unfold fv
        rcases (by omega : fk ci j = 0 ∨ fk ci j = 1 ∨ fk ci j = 2) with z | z | z <;> rw [z] <;> rfl
    · rw [List.getElem?_eq_none (by simp; omega), List.getElem?_eq_none (by simp; omega)]) e2 hP
  exact h p e R s m args below meth c Qe H' _ la hF h1 h2 h3 h4 hR' (hS.put e2 e3 ((wsD Z M).2 (i - 16) _ (isO_at ho))) hL hE
/-- a final field, in the constructor -/
theorem X_putF {i ci k ix : Nat} {v : Value} {M' : Mem} (hci : ci < 6) (hk : k < cW ci) (hf : (cT ci k).2.2.2 = true) (hin : sg.1.name = "<init>") (hdc : (cT ci k).1 = sg.1.cls) (hn : narrow (cty ci k) (cv Z v) = cv Z v) (hfit : fits (cty ci k) (cv Z v) = true) (hw : Cond.fieldLink sg.1.cls ix (cT ci k).1 (cT ci k).2.1 (cT ci k).2.2.1 ∈ WS) (hd : decode sg.2.1 pc = .ok (.putfield ix, 3)) (ho : isO M i ci) (hM : mN M' = mN M ∧ (∀ j, j ≠ i → ce Z M' j = ce Z M j) ∧ fv Z M' i ci k = cv Z v ∧ ∀ j, j ≠ k → fv Z M' i ci j = fv Z M i ci j) (h : X Z d sg n0 nF Q (pc + 3) lv st M') : X Z d sg n0 nF Q pc lv (v :: .ref i :: st) M := by
  intro p e R s m args below meth c Qe H locs la hF h1 h2 h3 h4 hR hS hL hE
  obtain ⟨m1, m2, m3, m4⟩ := hM
  rw [List.map_cons, List.map_cons, ad_of (M := M) ho.lo]
  generalize cv Z v = w at hn hfit m3 ⊢
  have hap := va_apart (own := sg.1.cls) hF.2.2.2.2.1 (clsW ci hci) (cty ci) (clsTy ci hci) (clsNm ci hci) hF.2.2.2.2.2.1.1 (clsGet ci hci)
  obtain ⟨r, g1, cell, q1, q2, q3, q4⟩ := hR.1 (i - 16) _ (isO_at ho)
  have hr : r = (cnm ci, cT ci, cW ci) := Option.some.inj (g1.symm.trans (clsGet ci hci))
  subst hr
  obtain ⟨hSl, hfc, kC, hkC, hkind⟩ := hF.2.2.2.2.2.1.1.1 ci _ (clsGet ci hci)
  obtain ⟨cf, kf, fi, f, hi, hsl⟩ := hSl k hk
  have hlay := hF.2.2.2.2.1 _ (clsW ci hci _ (u_in_lay hk))
  unfold u_lay at hlay
  rw [if_pos hf] at hlay
  have hst := (u_facts hfc hkC (u_lays hF.2.2.2.2.1 (clsW ci hci) hk) hi).1
  have hcf : m.cls = cf := by
    obtain ⟨_, _, c', _, _, _, -, -, hf', -, -, -, hown2, -⟩ := Cond.laysFinal_spec hlay
    have e1 : c' = cf := by have := hi.symm.trans hf'; simp at this; exact this.1.symm
    rw [hdc] at hown2
    rw [← e1]; exact Option.some.inj (hF.2.2.2.1.symm.trans hown2)
  have h6 := u_fits (v := w) hfc hkC hkind (Or.inr hlay) hi (clsTy ci hci k hk) hn hfit
  refine W.putFinK hF.1 hF.2.1 hF.2.2.2.1 (hF.2.2.2.2.1 _ hw) hi hst hcf (by rw [hF.2.2.2.2.2.2.2.2]; exact hin) (by rw [q2]; exact h6) q1 q3 (by rw [hsl]; exact k2_hasslot (q4 k hk)) rfl rfl hd fun H' e1 e2 e3 => ?_
  rw [hsl] at e1 ⊢
  have hl : k < ((List.range (cW ci)).map (fv Z M i ci)).length := by simpa using hk
  have hP := hR.1.set (wsD Z M) (isO_at ho) (e := .inr (ci, ((List.range (cW ci)).map (fv Z M i ci)).set k w)) ⟨_, clsGet ci hci, t_OB.to (V := updV (vp_V ((List.range (cW ci)).map (fv Z M i ci))) k w) ⟨_, e1, q2, q3, t_set q4 hap hk w⟩ (fun j _ => vp_updV_set hl w j)⟩ e3
  have ho' : isO M' i ci := ⟨by rw [m1]; exact ho.1, ho.2⟩
  have hR' : Rep Z M' H' := Rep.set (M' := M') hR ho.lo ho.1 m1 m2 (by
    rw [ho'.ce]
    congr 2
    exact (map_set_range _ _ _ _ _ m3 m4).symm) e2 hP
  have hS' := hS.put (k := (zD Z).2 ci k) e2 e3 ((wsD Z M).2 (i - 16) _ (isO_at ho))
  have hx := h p e R s m args below meth c Qe H' (locs ++ [⟨zo Z + (i - 16), (zD Z).2 ci k⟩]) la hF h1 h2 (by rw [m1]; exact h3) (by rw [m1]; exact h4) hR' hS' hL hE
  rw [m1] at hx
  exact hx
theorem X_putR {i ci k ix r : Nat} (hci : ci < 6) (hk : k < cW ci) (hf : (cT ci k).2.2.2 = true) (h0 : fk ci k = 1) (hin : sg.1.name = "<init>") (hdc : (cT ci k).1 = sg.1.cls) (hw : Cond.fieldLink sg.1.cls ix (cT ci k).1 (cT ci k).2.1 (cT ci k).2.2.1 ∈ WS) (hd : decode sg.2.1 pc = .ok (.putfield ix, 3)) (ho : isO M i ci) (h : X Z d sg n0 nF Q (pc + 3) lv st (stR M i k r)) : X Z d sg n0 nF Q pc lv (.ref r :: .ref i :: st) M := by
  have hty : (cty ci k).isReference = true := by
    rcases clsFk ci hci k hk with z | z | z | z
    · omega
    · exact z.2
    · omega
    · omega
  refine X_putF (v := .ref r) (M' := stR M i k r) hci hk hf hin hdc (fits_ad Z r _ hty).2 (fits_ad Z r _ hty).1 hw hd ho ⟨rfl, fun j hj => ce_stR hj, ?_, fun j hj => ?_⟩ h
  · unfold fv
    rw [if_neg (by omega), if_pos h0]
    simp [mR, stR, u2, cv]
  · unfold fv
    have e9 : mR (stR M i k r) i j = mR M i j := by simp [mR, stR, u2, hj]
    rw [e9]
    rfl
theorem X_putC {i ci k ix n : Nat} (hci : ci < 6) (hk : k < cW ci) (hf : (cT ci k).2.2.2 = true) (h0 : fk ci k = 2) (hin : sg.1.name = "<init>") (hdc : (cT ci k).1 = sg.1.cls) (hw : Cond.fieldLink sg.1.cls ix (cT ci k).1 (cT ci k).2.1 (cT ci k).2.2.1 ∈ WS) (hd : decode sg.2.1 pc = .ok (.putfield ix, 3)) (ho : isO M i ci) (h : X Z d sg n0 nF Q (pc + 3) lv st (stR M i k n)) : X Z d sg n0 nF Q pc lv (.int (nI n) :: .ref i :: st) M := by
  have hty : cty ci k = .int := by
    rcases clsFk ci hci k hk with z | z | z | z
    · omega
    · omega
    · exact z.2
    · omega
  refine X_putF (v := .int (nI n)) (M' := stR M i k n) hci hk hf hin hdc (by rw [hty]; rfl) (by rw [hty]; rfl) hw hd ho ⟨rfl, fun j hj => ce_stR hj, ?_, fun j hj => ?_⟩ h
  · unfold fv
    rw [if_neg (by omega), if_neg (by omega), if_pos h0]
    simp [mR, stR, u2, cv]
  · unfold fv
    have e9 : mR (stR M i k n) i j = mR M i j := by simp [mR, stR, u2, hj]
    rw [e9]
    rfl
theorem X_iald {a : Nat} {i : Int32} (hd : decode sg.2.1 pc = .ok (.iaload, 1)) (ho : isA M a i) (h : X Z d sg n0 nF Q (pc + 1) lv (.int (mI M a i.toNatClampNeg) :: st) M) : X Z d sg n0 nF Q pc lv (.int i :: .ref a :: st) M := by
  intro p e R s m args below meth c Qe H locs la hF h1 h2 h3 h4 hR hS hL hE
  have kk := h p e R s m args below meth c Qe H locs la hF h1 h2 h3 h4 hR hS hL hE
  rw [List.map_cons, List.map_cons, ad_of (M := M) ho.lo]
  exact va_iald hF.1 hF.2.1 hF.2.2.2.2.2.1.1 hR.1 (a - 16) 0 (arr_at ho.1 ho.2.1) rfl ho.2.2 hd kk
theorem X_iast {a : Nat} {i v : Int32} (hd : decode sg.2.1 pc = .ok (.iastore, 1)) (ho : isA M a i) (h : X Z d sg n0 nF Q (pc + 1) lv st (stI M a i.toNatClampNeg v)) : X Z d sg n0 nF Q pc lv (.int v :: .int i :: .ref a :: st) M := by
  intro p e R s m args below meth c Qe H locs la hF h1 h2 h3 h4 hR hS hL hE
  rw [List.map_cons, List.map_cons, List.map_cons, ad_of (M := M) ho.lo]
  have hlt : i.toNatClampNeg < (kd a).2 := Nat.not_le.mp fun q => ho.2.2 (Or.inr q)
  refine W.iast hF.1 hF.2.1 (hR.1 (a - 16) _ (arr_at ho.1 ho.2.1)) ((hF.2.2.2.2.2.1.1.2 0 _ rfl).1 (kd a).2 (fun j => .int (mI M a j))) (fun q => by cases q) (by show ¬ (i < 0 ∨ (arrV _ _ _).slots.size ≤ _); rw [arrV_size]; exact ho.2.2) rfl rfl hd fun H1 e1 z oq => ?_
  have hP := hR.1.set (wsD Z M) (arr_at ho.1 ho.2.1) (e := .inl (zcI Z, (kd a).2, .inl (upd (mI M a) i.toNatClampNeg v))) (by
    show H1[zo Z + (a - 16)]? = some (vp_cell _ _)
    rw [e1, vp_cell_i, vp_cell_i, arrV_store]
    congr 2
    funext q
    by_cases hq : q = i.toNatClampNeg
    · subst hq
      simp [updV, upd]
    · simp [updV, upd, hq]) oq
  have hR' : Rep Z (stI M a i.toNatClampNeg v) H1 := Rep.set (M' := stI M a i.toNatClampNeg v) hR ho.lo ho.1 rfl (fun j hj => ce_stI hj) (by
    rw [ce_arr ho.2.1]
    congr 4
    funext q
    by_cases hq : q = i.toNatClampNeg
    · subst hq
      simp [upd, mI, stI, u2]
    · simp [upd, mI, stI, u2, hq]) z hP
  exact h p e R s m args below meth c Qe H1 _ la hF h1 h2 h3 h4 hR' (hS.put z oq ((wsD Z M).2 (a - 16) _ (arr_at ho.1 ho.2.1))) hL hE
theorem X_aald {a : Nat} {i : Int32} (hd : decode sg.2.1 pc = .ok (.aaload, 1)) (h1 : a < mN M) (h2 : (kd a).1 = 2) (h3 : vp_in i (kd a).2) (h : X Z d sg n0 nF Q (pc + 1) lv (.ref (mR M a i.toNatClampNeg) :: st) M) : X Z d sg n0 nF Q pc lv (.int i :: .ref a :: st) M := by
  intro p e R s m args below meth c Qe H locs la hF g1 g2 g3 g4 hR hS hL hE
  have kk := h p e R s m args below meth c Qe H locs la hF g1 g2 g3 g4 hR hS hL hE
  rw [List.map_cons, List.map_cons, ad_of (M := M) (kd_lo (by omega))]
  exact va_aldq hF.1 hF.2.1 hF.2.2.2.2.2.1.1 hR.1 (a - 16) 1 (led_at h1 h2) rfl h3 hd kk
theorem X_aast {a v : Nat} {i : Int32} (hd : decode sg.2.1 pc = .ok (.aastore, 1)) (h1 : a < mN M) (h2 : (kd a).1 = 2) (h3 : vp_in i (kd a).2) (hv : isO M v 2) (h : X Z d sg n0 nF Q (pc + 1) lv st (stR M a i.toNatClampNeg v)) : X Z d sg n0 nF Q pc lv (.ref v :: .int i :: .ref a :: st) M := by
  intro p e R s m args below meth c Qe H locs la hF g1 g2 g3 g4 hR hS hL hE
  have h16 : 16 ≤ a := kd_lo (by omega)
  rw [List.map_cons, List.map_cons, List.map_cons, ad_of (M := M) h16, ad_of (M := M) hv.lo]
  have hK := hF.2.2.2.2.2.1.1
  have hlt : i.toNatClampNeg < (kd a).2 := Nat.not_le.mp fun q => h3 (Or.inr q)
  have h0 : ¬ i < 0 := fun q => h3 (Or.inl q)
  obtain ⟨r', hr', cellV, q1, q2, q3, -⟩ := hR.1 (v - 16) _ (isO_at hv)
  have hcls := (hK.1 2 _ (clsGet 2 (by omega))).2
  obtain ⟨kA, comp, k1, k2, k3, -⟩ := (hK.2 1 _ rfl).2
  have hcomp : comp = (zD Z).1 2 := Option.some.inj (k3.symm.trans hcls.1)
  subst hcomp
  obtain ⟨kC, hkC, -⟩ := hcls.2
  refine W.aast hF.1 hF.2.1 (hR.1 (a - 16) _ (led_at h1 h2)) (fun q h => by cases h) (fun h => by cases h) k1 k2 rfl hkC ⟨h0, by show _ < (arrV _ _ _).slots.size; rw [arrV_size]; exact hlt⟩ q1 (fun q h => by rw [q3] at h; cases h) (by rw [q2]; exact hkC) (by rw [q2]; exact va_assign hcls) rfl rfl hd fun H1 e1 z oq => ?_
  have hP := hR.1.set (wsD Z M) (led_at h1 h2) (e := .inl (zcL Z, (kd a).2, .inr (.inr (.inr (.inr (va_up (fun j => rfo Z (mR M a j)) i.toNatClampNeg (some (zo Z + (v - 16))))))))) (by
    show H1[zo Z + (a - 16)]? = some (vp_cell _ _)
    rw [e1, vp_cell_q, vp_cell_q, arrV_store]
    congr 2
    funext q
    by_cases hq : q = i.toNatClampNeg
    · subst hq
      simp [updV, va_up, va_rf]
    · simp [updV, va_up, hq]) oq
  have hR' : Rep Z (stR M a i.toNatClampNeg v) H1 := Rep.set (M' := stR M a i.toNatClampNeg v) hR h16 h1 rfl (fun j hj => ce_stR hj) (by
    rw [ce_led h2]
    congr 7
    funext q
    by_cases hq : q = i.toNatClampNeg
    · subst hq
      simp [va_up, mR, stR, u2, rfo_cell hv.lo]
    · simp [va_up, mR, stR, u2, hq]) z hP
  exact h p e R s m args below meth c Qe H1 _ la hF g1 g2 g3 g4 hR' (hS.put z oq ((wsD Z M).2 (a - 16) _ (led_at h1 h2))) hL hE
end XH
end
section
section XA
variable {Z : Zt} {d : Nat} {sg : Sig} {n0 nF : Nat} {Q : Option Value → Mem → Prop} {pc : Nat} {lv : List (Option Value)} {st : List Value} {M : Mem}
theorem fv_al (Z : Zt) (M : Mem) (ci k : Nat) (hci : ci < 6) (hk : k < cW ci) : fv Z (al M) (mN M) ci k = defaultValue (cty ci k) := by
  have e1 : mI (al M) (mN M) k = 0 := by simp [mI, al, mN]
  have e2 : mR (al M) (mN M) k = 0 := by simp [mR, al, mN]
  have e3 : mL (al M) (mN M) = 0 := by simp [mL, al, mN]
  unfold fv
  rw [e1, e2, e3]
  rcases clsFk ci hci k hk with ⟨a, b⟩ | ⟨a, b⟩ | ⟨a, b⟩ | ⟨a, b⟩
  · rw [if_pos a, b]; rfl
  · rw [if_neg (by omega), if_pos a]
    have : ad Z 0 = .null := rfl
    rw [this]
    cases hc : cty ci k <;> rw [hc] at b <;> first | rfl | simp [FieldType.isReference] at b
  · rw [if_neg (by omega), if_neg (by omega), if_pos a, b]; rfl
  · rw [if_neg (by omega), if_neg (by omega), if_neg (by omega), b]; rfl
theorem X_new {ci ix : Nat} (hci : ci < 6) (hw : Cond.classLink sg.1.cls ix (cnm ci) ∈ WS) (hw2 : Cond.instantiable (cnm ci) (cW ci) ∈ WS) (hw3 : Cond.initialized (cnm ci) ∈ WS) (hd : decode sg.2.1 pc = .ok (.new ix, 3)) (hk : kd (mN M) = (ci + 3, cW ci)) (hn : mN M + 1 ≤ nF) (h : X Z d sg n0 nF Q (pc + 3) lv (.ref (mN M) :: st) (al M)) : X Z d sg n0 nF Q pc lv st M := by
  intro p e R s m args below meth c Qe H locs la hF h1 h2 h3 h4 hR hS hL hE
  have hts := hF.2.2.2.2.1
  have hKn := hF.2.2.2.2.2.1.1.1 ci _ (clsGet ci hci)
  have h16 := hR.2.2
  have hsl : sl (mN M + 1) = sl (mN M) + cW ci := by rw [sl_succ h16, hk]
  have hmo := sl_mono hn
  have hmo2 := sl_mono h3
  refine W.newcK hF.1 hF.2.1 hF.2.2.2.1 (hts _ hw) (hts _ hw2) (hts _ hw3) rfl hd (by omega) (by omega) hKn.2.1 rfl fun H1 kC hkC e1 z1 o1 => ?_
  have hkk : ∀ (k : Nat) (x : Nat × va_E), (wsZ Z M)[k]? = some x → H1[x.1]? = H[x.1]? := fun k x hx => o1 x.1 ((hR.1 k x hx).lt)
  have hce : ce Z (al M) (mN M) = .inr (ci, (List.range (cW ci)).map (fv Z (al M) (mN M) ci)) := by
    have ho : isO (al M) (mN M) ci := ⟨Nat.lt_succ_self _, by rw [hk], by rw [hk]⟩
    exact ho.ce
  have hP : va_P (zD Z) cls (wsZ Z M ++ [(zo Z + (mN M - 16), ce Z (al M) (mN M))]) H1 := by
    refine (hR.1.kept hkk).app (fun k x hx => ?_)
    have hz : k < 1 := (List.getElem?_eq_some_iff.mp hx).1
    rw [show k = 0 by omega] at hx
    cases hx
    rw [hce]
    refine ⟨_, clsGet ci hci, ?_⟩
    rw [hR.2.1] at e1
    refine (u_born (cty ci) hts (clsW ci hci) hKn hkC e1 (clsTy ci hci)).to fun j hj => ?_
    show _ = vp_V _ j
    unfold vp_V
    rw [List.getD_eq_getElem?_getD, fv_get hj, fv_al Z M ci j hci hj]
    rfl
  rw [wsZ_push h16 rfl (fun j hj => ce_al hj)] at hP
  have hR' : Rep Z (al M) H1 := ⟨hP, by rw [z1, hR.2.1]; show _ = zo Z + (mN M + 1 - 16); omega, by show 16 ≤ mN M + 1; omega⟩
  have hS' : va_S (Ar Z) s.heap H1 locs := ⟨Nat.le_trans hS.1 (by omega), fun x h1 h2 => (o1 x (Nat.lt_of_lt_of_le h1 hS.1)).trans (hS.2.1 x h1 h2), hS.2.2⟩
  have hx := h p e R s m args below meth c Qe H1 locs la hF h1 h2 (by show n0 ≤ mN M + 1; omega) hn hR' hS' hL hE
  rw [List.map_cons, ad_of (M := M) h16] at hx
  have ea : mN (al M) = mN M + 1 := rfl
  rw [ea, hsl, show mN M + 1 - n0 = mN M - n0 + 1 by omega, show sl (mN M) + cW ci - sl n0 = sl (mN M) - sl n0 + cW ci by omega] at hx
  rw [hR.2.1]
  exact hx
theorem X_newa {v : Int32} {len : Nat} (hw : Cond.arrayClass .int ∈ WS) (hd : decode sg.2.1 pc = .ok (.newarray .int, 2)) (hv : v = nI len) (hk : kd (mN M) = (1, len)) (hlen : len < 100000) (hn : mN M + 1 ≤ nF) (h : X Z d sg n0 nF Q (pc + 2) lv (.ref (mN M) :: st) (al M)) : X Z d sg n0 nF Q pc lv (.int v :: st) M := by
  intro p e R s m args below meth c Qe H locs la hF h1 h2 h3 h4 hR hS hL hE
  have hts := hF.2.2.2.2.1
  have h16 := hR.2.2
  have hsl : sl (mN M + 1) = sl (mN M) + len := by rw [sl_succ h16, hk]
  have hmo := sl_mono hn
  have hmo2 := sl_mono h3
  have hcl : v.toNatClampNeg = len := by rw [hv]; exact nI_clamp (by omega)
  refine va_newaK (atype := .int) hF.1 hF.2.1 (hts _ hw) rfl hd rfl (by rw [hv]; exact nI_pos (by omega)) hcl (by show len * 4 ≤ _; omega) (by omega) (by omega) rfl fun H1 cA e1 z1 o1 hAr hNm => ?_
  have hcA : cA = zcI Z := by
    have := (hF.2.2.2.2.2.1.1.2 0 _ rfl).2
    change s.vm.findClass ("[" ++ (FieldType.int).toString) = some (zcI Z) at this
    exact Option.some.inj (hNm.symm.trans this)
  subst hcA
  have hkk : ∀ (k : Nat) (x : Nat × va_E), (wsZ Z M)[k]? = some x → H1[x.1]? = H[x.1]? := fun k x hx => o1 x.1 ((hR.1 k x hx).lt)
  have hmi : mI (al M) (mN M) = fun _ => 0 := by funext k; simp [mI, al, mN]
  have hP : va_P (zD Z) cls (wsZ Z M ++ [(zo Z + (mN M - 16), ce Z (al M) (mN M))]) H1 := by
    refine (hR.1.kept hkk).app (fun k x hx => ?_)
    have hz : k < 1 := (List.getElem?_eq_some_iff.mp hx).1
    rw [show k = 0 by omega] at hx
    cases hx
    rw [ce_arr (by rw [hk]), hk, hmi]
    rw [hR.2.1] at e1
    show H1[_]? = some (vp_cell _ _)
    rw [vp_cell_i]
    exact e1
  rw [wsZ_push h16 rfl (fun j hj => ce_al hj)] at hP
  have hR' : Rep Z (al M) H1 := ⟨hP, by rw [z1, hR.2.1]; show _ = zo Z + (mN M + 1 - 16); omega, by show 16 ≤ mN M + 1; omega⟩
  have hS' : va_S (Ar Z) s.heap H1 locs := ⟨Nat.le_trans hS.1 (by omega), fun x h1 h2 => (o1 x (Nat.lt_of_lt_of_le h1 hS.1)).trans (hS.2.1 x h1 h2), hS.2.2⟩
  have hx := h p e R s m args below meth c Qe H1 locs la hF h1 h2 (by show n0 ≤ mN M + 1; omega) hn hR' hS' hL hE
  rw [List.map_cons, ad_of (M := M) h16] at hx
  have ea : mN (al M) = mN M + 1 := rfl
  rw [ea, hsl, show mN M + 1 - n0 = mN M - n0 + 1 by omega, show sl (mN M) + len - sl n0 = sl (mN M) - sl n0 + len by omega] at hx
  rw [hR.2.1]
  exact hx
theorem X_anew {v : Int32} {len ix : Nat} (hw : Cond.classLink sg.1.cls ix RX2 ∈ WS) (hd : decode sg.2.1 pc = .ok (.anewarray ix, 3)) (hv : v = nI len) (hk : kd (mN M) = (2, len)) (hlen : len < 100000) (hn : mN M + 1 ≤ nF) (h : X Z d sg n0 nF Q (pc + 3) lv (.ref (mN M) :: st) (al M)) : X Z d sg n0 nF Q pc lv (.int v :: st) M := by
  intro p e R s m args below meth c Qe H locs la hF h1 h2 h3 h4 hR hS hL hE
  have hts := hF.2.2.2.2.1
  have h16 := hR.2.2
  have hsl : sl (mN M + 1) = sl (mN M) + len := by rw [sl_succ h16, hk]
  have hmo := sl_mono hn
  have hmo2 := sl_mono h3
  have hcl : v.toNatClampNeg = len := by rw [hv]; exact nI_clamp (by omega)
  refine W.anew hF.1 hF.2.1 hF.2.2.2.1 (hts _ hw) (va_AO.use hF.2.2.2.2.2.1.2.2.1) rfl hd rfl (by rw [hv]; exact nI_pos (by omega)) (by rw [hcl]; omega) (by omega) (by rw [hcl]; omega) fun cA kA comp f1 f2 f3 f4 => ?_
  rw [hcl]
  generalize hH1 : H.push ({ cls := cA, slots := Array.replicate len .null, vm := .none } : Cell) = H1
  have z1 : H1.size = H.size + 1 := by rw [← hH1, Array.size_push]
  have e1 : H1[H.size]? = some (arrV cA len (fun _ => .null)) := by rw [← hH1, Array.getElem?_push_size, ← arrV_new]
  have o1 : ∀ q : Nat, q < H.size → H1[q]? = H[q]? := fun q hq => by rw [← hH1, Array.getElem?_push, if_neg (Nat.ne_of_lt hq)]
  have hcA : cA = zcL Z := by
    obtain ⟨kA', comp', k1, k2, k3, k4⟩ := (hF.2.2.2.2.2.1.1.2 1 _ rfl).2
    exact Option.some.inj (f1.symm.trans k4)
  subst hcA
  have hkk : ∀ (k : Nat) (x : Nat × va_E), (wsZ Z M)[k]? = some x → H1[x.1]? = H[x.1]? := fun k x hx => o1 x.1 ((hR.1 k x hx).lt)
  have hP : va_P (zD Z) cls (wsZ Z M ++ [(zo Z + (mN M - 16), ce Z (al M) (mN M))]) H1 := by
    refine (hR.1.kept hkk).app (fun k x hx => ?_)
    have hz : k < 1 := (List.getElem?_eq_some_iff.mp hx).1
    rw [show k = 0 by omega] at hx
    cases hx
    rw [ce_led (by rw [hk]), hk]
    rw [hR.2.1] at e1
    show H1[_]? = some (vp_cell _ _)
    rw [vp_cell_q, e1]
    congr 2
    funext j
    have : mR (al M) (mN M) j = 0 := by simp [mR, al, mN]
    rw [this]
    rfl
  rw [wsZ_push h16 rfl (fun j hj => ce_al hj)] at hP
  have hR' : Rep Z (al M) H1 := ⟨hP, by rw [z1, hR.2.1]; show _ = zo Z + (mN M + 1 - 16); omega, by show 16 ≤ mN M + 1; omega⟩
  have hS' : va_S (Ar Z) s.heap H1 locs := ⟨Nat.le_trans hS.1 (by omega), fun x h1 h2 => (o1 x (Nat.lt_of_lt_of_le h1 hS.1)).trans (hS.2.1 x h1 h2), hS.2.2⟩
  have hx := h p e R s m args below meth c Qe H1 locs la hF h1 h2 (by show n0 ≤ mN M + 1; omega) hn hR' hS' hL hE
  rw [List.map_cons, ad_of (M := M) h16] at hx
  have ea : mN (al M) = mN M + 1 := rfl
  rw [ea, hsl, show mN M + 1 - n0 = mN M - n0 + 1 by omega, show sl (mN M) + len - sl n0 = sl (mN M) - sl n0 + len by omega] at hx
  rw [hR.2.1]
  exact hx
theorem X_alen {a : Nat} (hd : decode sg.2.1 pc = .ok (.arraylength, 1)) (h1 : a < mN M) (h2 : (kd a).1 = 1) (h : X Z d sg n0 nF Q (pc + 1) lv (.int (nI (kd a).2) :: st) M) : X Z d sg n0 nF Q pc lv (.ref a :: st) M := by
  intro p e R s m args below meth c Qe H locs la hF g1 g2 g3 g4 hR hS hL hE
  have kk := h p e R s m args below meth c Qe H locs la hF g1 g2 g3 g4 hR hS hL hE
  rw [List.map_cons, ad_of (M := M) (kd_lo (by omega))]
  exact va_alen hF.1 hF.2.1 hF.2.2.2.2.2.1.1 hR.1 (a - 16) 0 (arr_at h1 h2) rfl rfl hd kk
/-- the script -/
theorem X_slen (hd : decode sg.2.1 pc = .ok (.arraylength, 1)) (h : X Z d sg n0 nF Q (pc + 1) lv (.int (nI (zn Z)) :: st) M) : X Z d sg n0 nF Q pc lv (.ref 1 :: st) M := by
  intro p e R s m args below meth c Qe H locs la hF g1 g2 g3 g4 hR hS hL hE
  have kk := h p e R s m args below meth c Qe H locs la hF g1 g2 g3 g4 hR hS hL hE
  exact va_tlen hF.1 hF.2.1 hF.2.2.2.2.2.1.2.2.2.2.2.2.2 hS rfl hd kk
theorem X_sld {i : Int32} (hd : decode sg.2.1 pc = .ok (.iaload, 1)) (hin : vp_in i (zn Z)) (h : X Z d sg n0 nF Q (pc + 1) lv (.int (zx Z i.toNatClampNeg) :: st) M) : X Z d sg n0 nF Q pc lv (.int i :: .ref 1 :: st) M := by
  intro p e R s m args below meth c Qe H locs la hF g1 g2 g3 g4 hR hS hL hE
  have kk := h p e R s m args below meth c Qe H locs la hF g1 g2 g3 g4 hR hS hL hE
  exact va_ti hF.1 hF.2.1 hF.2.2.2.2.2.1.2.2.2.2.2.2.2 hS hin rfl hd kk
/-- the texts and their bytes -/
theorem ad_str (Z : Zt) {i : Nat} (hi : i < 4) : ad Z (i + 2) = .ref (zK Z i) := by
  have a : ¬ 16 ≤ i + 2 := by omega
  have b : ¬ i + 2 = 1 := by omega
  have c : 2 ≤ i + 2 ∧ i + 2 < 6 := by omega
  unfold ad rfo
  rw [if_neg a, if_neg b, if_pos c, show i + 2 - 2 = i by omega]
  rfl
theorem ad_byt (Z : Zt) {i : Nat} (hi : i < 4) : ad Z (i + 6) = .ref (zV Z i) := by
  have a : ¬ 16 ≤ i + 6 := by omega
  have b : ¬ i + 6 = 1 := by omega
  have c : ¬ (2 ≤ i + 6 ∧ i + 6 < 6) := by omega
  have c2 : 6 ≤ i + 6 ∧ i + 6 < 10 := by omega
  unfold ad rfo
  rw [if_neg a, if_neg b, if_neg c, if_pos c2, show i + 6 - 6 = i by omega]
  rfl
theorem X_strV {i ix : Nat} (hi : i < 4) (hw : Cond.fieldLink sg.1.cls ix "java/lang/String" "value" "[B" ∈ WS) (hd : decode sg.2.1 pc = .ok (.getfield ix, 3)) (h : X Z d sg n0 nF Q (pc + 3) lv (.ref (i + 6) :: st) M) : X Z d sg n0 nF Q pc lv (.ref (i + 2) :: st) M := by
  intro p e R s m args below meth c Qe H locs la hF g1 g2 g3 g4 hR hS hL hE
  have kk := h p e R s m args below meth c Qe H locs la hF g1 g2 g3 g4 hR hS hL hE
  rw [List.map_cons] at kk ⊢
  change W p (zl Z) e R s m args below meth c H locs _ _ Qe (F0 m _ la (ad Z (i + 6) :: _)) at kk
  change W p (zl Z) e R s m args below meth c H locs _ _ Qe (F0 m _ la (ad Z (i + 2) :: _))
  rw [ad_byt Z hi] at kk
  rw [ad_str Z hi]
  exact vk_getf hF.1 hF.2.1 (hF.2.2.2.2.2.1.2.2.2.2.1.1 i hi).2.2.1 hS hF.2.2.2.1 (hF.2.2.2.2.1 _ hw) (fun _ h => h) hd kk
theorem X_strC {i ix : Nat} (hi : i < 4) (hw : Cond.fieldLink sg.1.cls ix "java/lang/String" "coder" "B" ∈ WS) (hd : decode sg.2.1 pc = .ok (.getfield ix, 3)) (h : X Z d sg n0 nF Q (pc + 3) lv (.int 0 :: st) M) : X Z d sg n0 nF Q pc lv (.ref (i + 2) :: st) M := by
  intro p e R s m args below meth c Qe H locs la hF g1 g2 g3 g4 hR hS hL hE
  have kk := h p e R s m args below meth c Qe H locs la hF g1 g2 g3 g4 hR hS hL hE
  rw [List.map_cons]
  change W p (zl Z) e R s m args below meth c H locs _ _ Qe (F0 m _ la (ad Z (i + 2) :: _))
  rw [ad_str Z hi]
  exact vk_getf hF.1 hF.2.1 (hF.2.2.2.2.2.1.2.2.2.2.1.1 i hi).2.1 hS hF.2.2.2.1 (hF.2.2.2.2.1 _ hw) (fun _ h => h) hd kk
theorem X_blen {i : Nat} (hi : i < 4) (hd : decode sg.2.1 pc = .ok (.arraylength, 1)) (h : X Z d sg n0 nF Q (pc + 1) lv (.int (nI (lenL.getD i 0)) :: st) M) : X Z d sg n0 nF Q pc lv (.ref (i + 6) :: st) M := by
  intro p e R s m args below meth c Qe H locs la hF g1 g2 g3 g4 hR hS hL hE
  have kk := h p e R s m args below meth c Qe H locs la hF g1 g2 g3 g4 hR hS hL hE
  rw [List.map_cons]
  change W p (zl Z) e R s m args below meth c H locs _ _ Qe (F0 m _ la (ad Z (i + 6) :: _))
  rw [ad_byt Z hi]
  exact va_tlen hF.1 hF.2.1 (hF.2.2.2.2.2.1.2.2.2.2.1.1 i hi).2.2.2 hS rfl hd kk
theorem X_bld {i : Nat} {j : Int32} (hi : i < 4) (hj : vp_in j (lenL.getD i 0)) (hd : decode sg.2.1 pc = .ok (.baload, 1)) (h : X Z d sg n0 nF Q (pc + 1) lv (.int ((bytL.getD i []).getD j.toNatClampNeg 0) :: st) M) : X Z d sg n0 nF Q pc lv (.int j :: .ref (i + 6) :: st) M := by
  intro p e R s m args below meth c Qe H locs la hF g1 g2 g3 g4 hR hS hL hE
  have kk := h p e R s m args below meth c Qe H locs la hF g1 g2 g3 g4 hR hS hL hE
  rw [List.map_cons, List.map_cons]
  change W p (zl Z) e R s m args below meth c H locs _ _ Qe (F0 m _ la (.int j :: ad Z (i + 6) :: _))
  rw [ad_byt Z hi]
  exact va_tb hF.1 hF.2.1 (hF.2.2.2.2.2.1.2.2.2.2.1.1 i hi).2.2.2 hS hj rfl hd kk
theorem X_compact {ix : Nat} (hw : Cond.fieldLink sg.1.cls ix "java/lang/String" "COMPACT_STRINGS" "Z" ∈ WS) (hd : decode sg.2.1 pc = .ok (.getstatic ix, 3)) (h : X Z d sg n0 nF Q (pc + 3) lv (.int 1 :: st) M) : X Z d sg n0 nF Q pc lv st M := by
  intro p e R s m args below meth c Qe H locs la hF g1 g2 g3 g4 hR hS hL hE
  have kk := h p e R s m args below meth c Qe H locs la hF g1 g2 g3 g4 hR hS hL hE
  exact va_gets hF.1 hF.2.1 hF.2.2.2.2.2.1.2.2.2.2.2.1 hS hF.2.2.2.1 (hF.2.2.2.2.1 _ hw) (fun _ h => h) hd kk
theorem X_format {ix : Nat} (hw : Cond.fieldLink sg.1.cls ix "jdk/internal/util/Preconditions" "SIOOBE_FORMATTER" "Ljava/util/function/BiFunction;" ∈ WS) (hd : decode sg.2.1 pc = .ok (.getstatic ix, 3)) (h : X Z d sg n0 nF Q (pc + 3) lv (.ref 10 :: st) M) : X Z d sg n0 nF Q pc lv st M := by
  intro p e R s m args below meth c Qe H locs la hF g1 g2 g3 g4 hR hS hL hE
  have kk := h p e R s m args below meth c Qe H locs la hF g1 g2 g3 g4 hR hS hL hE
  exact va_gets (v := va_rf (zF Z)) hF.1 hF.2.1 hF.2.2.2.2.2.1.2.2.2.2.2.2.1 hS hF.2.2.2.1 (hF.2.2.2.2.1 _ hw) (fun _ h => h) hd kk
end XA
end
section
/-! ===== contracts: a method, its arguments, the memory before; at its end an answer and a memory in Q, nF cells made in all ===== -/
def wk (sg : Sig) : List Cond := Cond.code sg.1 sg.2.1 sg.2.2.1 sg.2.2.2 :: WS
def rmk (d mc ms : Nat) : Room := { frames := d, cells := mc, slots := ms, locals := 36 * d }
def Pm (Z : Zt) (av : List Value) (M : Mem) : Array Value → State → Prop := va_Pc (av.map (cv Z)) (fun U => Rep Z M U.heap ∧ GS Z U)
def Qm (Z : Zt) (nF : Nat) (Q : Option Value → Mem → Prop) : Array Value → State → Outcome → State → Prop := fun _ st o t => (∃ (r : Option Value) (M' : Mem), o = .returned (r.map (cv Z)) ∧ Q r M' ∧ mN M' = nF ∧ Rep Z M' t.heap) ∧ va_F (Ar Z) st t
def GmA (Z : Zt) (d : Nat) (sg : Sig) (av : List Value) (M : Mem) (nF : Nat) (Q : Option Value → Mem → Prop) : Prop := mN M ≤ nF ∧ Met (zl Z) sg.1 (wk sg) (rmk d (nF - mN M) (sl nF - sl (mN M))) (Pm Z av M) (Qm Z nF Q) (nF - mN M) (sl nF - sl (mN M)) (Ar Z)
def Gm (Z : Zt) (d : Nat) (sg : Sig) (av : List Value) (M : Mem) (Q : Option Value → Mem → Prop) : Prop := GmA Z d sg av M (mN M) Q
theorem Pm_blind (Z : Zt) (av : List Value) (M : Mem) : FrameBlind (Pm Z av M) := fun _ _ _ _ q => ⟨q.1, q.2.1, GS.calling q.2.2⟩
theorem Gm.cons {Z : Zt} {d : Nat} {sg : Sig} {av : List Value} {M : Mem} {nF : Nat} {Q Q' : Option Value → Mem → Prop} (h : GmA Z d sg av M nF Q) (hq : ∀ r M', Q r M' → Q' r M') : GmA Z d sg av M nF Q' := by
  refine ⟨h.1, fun p e ha hc hk s m args below hf happ hP hw => ?_⟩
  obtain ⟨k, o, h1, h2, h3, ⟨⟨r, M', a, b, c, d⟩, f⟩, g⟩ := h.2 p e ha hc hk s m args below hf happ hP hw
  exact ⟨k, o, h1, h2, h3, ⟨⟨r, M', a, hq r M' b, c, d⟩, f⟩, g⟩
theorem wk_good {sg : Sig} (h : Cond.code sg.1 sg.2.1 sg.2.2.1 sg.2.2.2 ∈ WS) : GoodIn WS (wk sg) := by
  intro w hw
  rcases List.mem_cons.mp hw with rfl | hw
  · exact ⟨h, good_of_word (WS_good _ h)⟩
  · exact ⟨hw, good_of_word (WS_good _ hw)⟩
def argL (l : List Value) : List (Option Value) := match l with
  | [] => []
  | v :: t => if v.category = 2 then some v :: none :: argL t else some v :: argL t
theorem argL_len (Z : Zt) : ∀ l : List Value, (lg_sl (l.map (cv Z))).length = (argL l).length
  | [] => rfl
  | v :: t => by
    have ih := argL_len Z t
    by_cases h : v.category = 2
    · have e : lg_sl (((v :: t).map (cv Z))) = [.val (cv Z v), .second] ++ lg_sl (t.map (cv Z)) := by simp [lg_sl, cv_cat, h]
      rw [e, argL, if_pos h]
      simp [ih]
    · have e : lg_sl (((v :: t).map (cv Z))) = [.val (cv Z v)] ++ lg_sl (t.map (cv Z)) := by simp [lg_sl, cv_cat, h]
      rw [e, argL, if_neg h]
      simp [ih]
theorem lget_none : ∀ (n i : Nat) (v : Value), ¬ lget (List.replicate n none) i = some v
  | 0, i, v => by simp [lget]
  | n + 1, 0, v => by simp [List.replicate_succ, lget]
  | n + 1, i + 1, v => by rw [List.replicate_succ]; simp only [lget]; exact lget_none n i v
theorem argL_mem (Z : Zt) (n : Nat) : ∀ (l : List Value) (k i : Nat) (v : Value), lget (argL l ++ List.replicate n none) i = some v → (k + i, cv Z v) ∈ lv_args k (l.map (cv Z))
  | [], k, i, v, h => by simp only [argL, List.nil_append] at h; exact absurd h (lget_none n i v)
  | w :: t, k, i, v, h => by
    by_cases hc : w.category = 2
    · rw [argL, if_pos hc] at h
      simp only [List.map_cons, lv_args, cv_cat, hc, if_true]
      match i, h with
      | 0, h => simp [lget] at h; subst h; exact List.mem_cons_self
      | 1, h => simp [lget] at h
      | i + 2, h =>
        simp only [List.cons_append, lget] at h
        refine List.mem_cons_of_mem _ ?_
        have := argL_mem Z n t (k + 2) i v h
        rw [show k + (i + 2) = k + 2 + i by omega]
        exact this
    · rw [argL, if_neg hc] at h
      simp only [List.map_cons, lv_args, cv_cat, hc, if_false]
      match i, h with
      | 0, h => simp [lget] at h; subst h; exact List.mem_cons_self
      | i + 1, h =>
        simp only [List.cons_append, lget] at h
        refine List.mem_cons_of_mem _ ?_
        have := argL_mem Z n t (k + 1) i v h
        rw [show k + (i + 1) = k + 1 + i by omega]
        exact this
/-- a method's entry -/
theorem Gm_of {Z : Zt} {d : Nat} {sg : Sig} {av : List Value} {M : Mem} {nF : Nat} {Q : Option Value → Mem → Prop} {lv : List (Option Value)} (hy : plainName sg.1.cls = true) (hl : lv = argL av ++ List.replicate (sg.2.2.1 - (argL av).length) none) (hn : (argL av).length ≤ sg.2.2.1) (hM : mN M ≤ nF) (hQ : ∀ r M', Q r M' → mN M' = nF)
    (h : X Z d sg (mN M) nF Q 0 lv [] M) : GmA Z d sg av M nF Q := by
  refine ⟨hM, ?_⟩
  refine Met.ofW (cc := sg.2.1) (maxL := sg.2.2.1) (ret := sg.2.2.2) hy rfl ?_
  intro p e s m args below meth c s₁ B hml hv
  obtain ⟨rfl, hR, hG⟩ := hv
  have hx := B.exec
  have hb := B.bytes
  have hr := B.returns
  have hts := atoms_spec (ws := wk sg) B.pre
  have hown : s.vm.findClass sg.1.cls = some m.cls := findClass_of_methodNamed B.named
  have hin : meth.name = sg.1.name := (name_of_methodNamed B.named B.method).1
  have hlocks := B.notSynchronized
  have hFC : FC Z d sg (headSpec (wk sg) (rmk d (nF - mN M) (sl nF - sl (mN M)))).room p s m ((av.map (cv Z)).toArray) meth c := ⟨hx, hb, hml, hown, fun w hw => hts w (List.mem_cons_of_mem _ hw), hG, Nat.le_refl _, Nat.le_refl _, hin⟩
  have he := lv_entry (av.map (cv Z)) (n := sg.2.2.1) (by rw [argL_len]; exact hn)
  rw [lg_entry_eq]
  generalize hla : (lg_sl (av.map (cv Z)) ++ List.replicate (sg.2.2.1 - (lg_sl (av.map (cv Z))).length) Slot.unset).toArray = la at he ⊢
  have hL : LH Z la sg.2.2.1 lv := by
    refine ⟨he.1, he.2.1, fun i v hi => ?_⟩
    rw [hl] at hi
    have := he.2.2 _ (argL_mem Z _ av 0 i v hi)
    simpa using this
  have key := h p e _ s m _ below meth c (MQ below (Qm Z nF Q) ((av.map (cv Z)).toArray) s (nF - mN M) (sl nF - sl (mN M)) (Ar Z)) s.heap [] la hFC (Nat.le_refl _) (Nat.le_refl _) (Nat.le_refl _) hM hR va_S.rf hL (fun r M' H' locs' la' pc' hq h1 h2 hR' hS' hr' => ?_)
  · rw [Nat.sub_self, Nat.sub_self] at key
    exact key
  · have hMn := hQ r M' hq
    subst hMn
    have hpost : ∀ t : State, t.heap = H' → Qm Z (mN M') Q ((av.map (cv Z)).toArray) s (.returned (r.map (cv Z))) t := fun t ht => ⟨⟨r, M', rfl, hq, rfl, by rw [ht]; exact hR'⟩, by rw [va_F, ht]; exact ⟨hS'.1, hS'.2.1⟩⟩
    cases r with
    | none => exact W.vret hx hb (by rw [hr]; exact hr'.2) (fun t ht _ => hpost t ht) hS'.2.2 hr'.1 hlocks
    | some v =>
      cases v with
      | int v => exact W.zret hx hb (by rw [hr]; exact hr'.2.choose_spec.1) hr'.2.choose_spec.2 (fun t ht _ => hpost t ht) hS'.2.2 hr'.1 hlocks
      | long v => exact W.lret hx hb (by rw [hr]; exact hr'.2) (fun t ht _ => hpost t ht) hS'.2.2 hr'.1 hlocks
      | ref i => exact W.aret hx hb (by rw [hr]; exact hr'.2.choose_spec.1) hr'.2.choose_spec.2 (ad_or Z i) (fun t ht _ => hpost t ht) hS'.2.2 hr'.1 hlocks
      | _ => exact hr'.elim
/-! ===== calls ===== -/
def wsum (l : List Value) : Nat := (l.map fun v => v.category).sum
theorem wsum_cv (Z : Zt) (l : List Value) : ((l.map (cv Z)).map fun v => v.category).sum = wsum l := by
  unfold wsum
  rw [List.map_map]
  congr 1
  apply List.map_congr_left
  intro v _
  exact cv_cat Z v
section XC
variable {Z : Zt} {d : Nat} {sg : Sig} {n0 nF : Nat} {Q : Option Value → Mem → Prop} {pc : Nat} {lv : List (Option Value)} {st : List Value} {M : Mem}
/-- from a callee's run to the caller's next instruction -/
theorem W_call {p : Program} {e : Env} {R : Room} {s : State} {m : MethodId} {args : Array Value} {below : List Frame} {meth : Method} {c : Code} {Qe : State → Prop} {H : Heap} {locs : List Loc} {la : Array Slot} {mc ms k n : Nat} {st0 rest : List Value} {Qc : Option Value → Mem → Prop} {a : Array Value} (hr : va_Run p (zl Z) e R s m args below meth c H locs k n mc ms (F0 m pc la st0) rest (Qm Z nF Qc a) (Ar Z)) (hS : va_S (Ar Z) s.heap H locs)
    (kk : ∀ (r : Option Value) (M' : Mem) (H1 : Heap) (locs1 : List Loc), Qc r M' → mN M' = nF → Rep Z M' H1 → va_S (Ar Z) s.heap H1 locs1 → W p (zl Z) e R s m args below meth c H1 locs1 (k + mc) (n + ms) Qe (F0 m (pc + 3) la ((r.map (cv Z)).toList ++ rest))) : W p (zl Z) e R s m args below meth c H locs k n Qe (F0 m pc la st0) := by
  intro T hT X
  obtain ⟨v, st₀, t, T', L, h0, X', hL, e1, e2, ⟨⟨r, M', hv, hq, hn, hR⟩, hz, hk⟩, st⟩ := hr T hT X
  cases hv
  rw [h0] at hz hk
  obtain ⟨t2, a1, b1⟩ := kk r M' T'.heap (locs ++ L) hq hn (by rw [e1]; exact hR) ⟨Nat.le_trans hS.1 (by rw [e1]; exact hz), fun q h1 h2 => by rw [e1, hk q (Nat.lt_of_lt_of_le h1 hS.1) h2]; exact hS.2.1 q h1 h2, fun q hq => by
      rcases List.mem_append.mp hq with h | h
      · exact hS.2.2 q h
      · exact hL q h⟩ T' rfl X'
  exact ⟨t2, st t2 a1, b1⟩
theorem X_fin {p : Program} {e : Env} {R : Room} {s : State} {m : MethodId} {args : Array Value} {below : List Frame} {meth : Method} {c : Code} {Qe : State → Prop} {H1 : Heap} {locs1 : List Loc} {la : Array Slot} {rest : List Value} {r : Option Value} {M' : Mem} {pc' n1 : Nat}
    (hF : FC Z d sg R p s m args meth c) (h1 : nF - n0 ≤ R.cells) (h2 : sl nF - sl n0 ≤ R.slots) (h3 : n0 ≤ mN M) (h5 : mN M ≤ n1) (h4 : n1 ≤ nF) (hn : mN M' = n1) (hR' : Rep Z M' H1) (hS' : va_S (Ar Z) s.heap H1 locs1) (hL : LH Z la sg.2.2.1 lv)
    (hE : ∀ (r : Option Value) (M' : Mem) (H' : Heap) (locs' : List Loc) (la' : Array Slot) (pc' : Nat), Q r M' → n0 ≤ mN M' → mN M' ≤ nF → Rep Z M' H' → va_S (Ar Z) s.heap H' locs' → rOK sg pc' r → W p (zl Z) e R s m args below meth c H' locs' (mN M' - n0) (sl (mN M') - sl n0) Qe (F0 m pc' la' (r.map (cv Z)).toList))
    (hx : X Z d sg n0 nF Q pc' lv (r.toList ++ rest) M') : W p (zl Z) e R s m args below meth c H1 locs1 (mN M - n0 + (n1 - mN M)) (sl (mN M) - sl n0 + (sl n1 - sl (mN M))) Qe (F0 m pc' la ((r.map (cv Z)).toList ++ rest.map (cv Z))) := by
  subst hn
  have hmo := sl_mono h3
  have hmo2 := sl_mono h5
  have := hx p e R s m args below meth c Qe H1 locs1 la hF h1 h2 (by omega) h4 hR' hS' hL hE
  rw [show mN M - n0 + (mN M' - mN M) = mN M' - n0 by omega, show sl (mN M) - sl n0 + (sl (mN M') - sl (mN M)) = sl (mN M') - sl n0 by omega]
  rw [List.map_append] at this
  cases r <;> exact this
theorem Pm_pre {s : State} {H : Heap} {locs : List Loc} {av : List Value} (hR : Rep Z M H) (hG : GS Z s) (hS : va_S (Ar Z) s.heap H locs) : ∀ U : State, U.heap = H → s.WarmedH U.vm → Pm Z av M (av.map (cv Z)).toArray U := fun _ hU hW => ⟨rfl, by rw [hU]; exact hR, hG.step hS hU hW⟩
/-- an instance method of the receiver's own class -/
theorem X_callV {sg2 : Sig} {ci b n1 ix n : Nat} {av rest : List Value} {Qc : Option Value → Mem → Prop} (hci : ci < 6) (hcl : sg2.1.cls = cnm ci) (hmaxL : sg2.2.2.1 ≤ 17) (hpn : sg2.1.cls ≠ "java/lang/invoke/MethodHandle" ∧ sg2.1.cls ≠ "java/lang/invoke/VarHandle") (hnp : (parseMethodDescriptor sg2.1.desc).map (fun d => d.parameters.length) = some n) (hn : av.length = n)
    (hw1 : Cond.methodLink sg.1.cls ix sg2.1 ∈ WS) (hw2 : Cond.instanceMethod sg2.1 ∈ WS) (hw3 : Cond.selects sg2.1.cls sg2.1 sg2.1 ∈ WS) (hw4 : Cond.initialized sg2.1.cls ∈ WS) (hw5 : Cond.code sg2.1 sg2.2.1 sg2.2.2.1 sg2.2.2.2 ∈ WS) (hd : decode sg.2.1 pc = .ok (.invokevirtual ix, 3)) (hst : wsum rest ≤ 8) (ho : isO M b ci) (hG : GmA Z d sg2 (.ref b :: av) M n1 Qc) (h1n : n1 ≤ nF)
    (h : ∀ r M', Qc r M' → mN M' = n1 → X Z (d + 1) sg n0 nF Q (pc + 3) lv (r.toList ++ rest) M') : X Z (d + 1) sg n0 nF Q pc lv (av.reverse ++ .ref b :: rest) M := by
  intro p e R s m args below meth c Qe H locs la hF h1 h2 h3 h4 hR hS hL hE
  have hts := hF.2.2.2.2.1
  have hfr := hF.2.2.2.2.2.2.1
  have hlo := hF.2.2.2.2.2.2.2.1
  have hmo := sl_mono h1n
  have hmo2 := sl_mono h3
  have hmo3 := sl_mono hG.1
  have hrecv : ∃ cell : Cell, H[zo Z + (b - 16)]? = some cell ∧ cell.vm.isStatics = false ∧ s.vm.findClass sg2.1.cls = some cell.cls := by
    rw [hcl]
    exact va_recv (q := (cnm ci, cT ci, cW ci)) hF.2.2.2.2.2.1.1 hR.1 (clsGet ci hci) (isO_at ho)
  rw [show (av.reverse ++ Value.ref b :: rest).map (cv Z) = (av.map (cv Z)).reverse ++ .ref (zo Z + (b - 16)) :: rest.map (cv Z) by rw [List.map_append, List.map_cons, List.map_reverse, ad_of (M := M) ho.lo]]
  refine W_call (rest := rest.map (cv Z)) (a := (Value.ref (zo Z + (b - 16)) :: av.map (cv Z)).toArray) (va_runV (As := av.map (cv Z)) (C := sg2.1.cls) ⟨hF.1, hF.2.1, hF.2.2.1, hF.2.2.2.1, hts⟩ hG.2 ⟨callB_of n hts (wk_good hw5) rfl rfl rfl (hts _ hw4) (hts _ hw1) ⟨hpn.1, hpn.2, hnp⟩ ⟨by show d + 1 ≤ _; omega, by show 8 + (_ + 11) + 36 * d ≤ _; omega⟩, hts _ hw2, hts _ hw3⟩ ⟨Pm_blind _ _ _, hrecv, ?_⟩ rfl (by simpa using hn) (hL.1.trans rfl) rfl ?_ hd ⟨by omega, by omega⟩) hS (fun r M' H1 locs1 hq hn' hR' hS' => X_fin hF h1 h2 h3 hG.1 h1n hn' hR' hS' hL hE (h r M' hq hn'))
  · have := Pm_pre (av := .ref b :: av) hR hF.2.2.2.2.2.1 hS
    rw [List.map_cons, ad_of (M := M) ho.lo] at this
    exact this
  · exact lv_room (by rw [wsum_cv]; exact hst)
/-- an instance method of a text -/
theorem X_callT {sg2 : Sig} {i n1 ix n : Nat} {av rest : List Value} {Qc : Option Value → Mem → Prop} (hi : i < 4) (hcl : sg2.1.cls = "java/lang/String") (hmaxL : sg2.2.2.1 ≤ 17) (hnp : (parseMethodDescriptor sg2.1.desc).map (fun d => d.parameters.length) = some n) (hn : av.length = n)
    (hw1 : Cond.methodLink sg.1.cls ix sg2.1 ∈ WS) (hw2 : Cond.instanceMethod sg2.1 ∈ WS) (hw3 : Cond.selects sg2.1.cls sg2.1 sg2.1 ∈ WS) (hw4 : Cond.initialized sg2.1.cls ∈ WS) (hw5 : Cond.code sg2.1 sg2.2.1 sg2.2.2.1 sg2.2.2.2 ∈ WS) (hd : decode sg.2.1 pc = .ok (.invokevirtual ix, 3)) (hst : wsum rest ≤ 8) (hG : GmA Z d sg2 (.ref (i + 2) :: av) M n1 Qc) (h1n : n1 ≤ nF)
    (h : ∀ r M', Qc r M' → mN M' = n1 → X Z (d + 1) sg n0 nF Q (pc + 3) lv (r.toList ++ rest) M') : X Z (d + 1) sg n0 nF Q pc lv (av.reverse ++ .ref (i + 2) :: rest) M := by
  intro p e R s m args below meth c Qe H locs la hF h1 h2 h3 h4 hR hS hL hE
  have hts := hF.2.2.2.2.1
  have hfr := hF.2.2.2.2.2.2.1
  have hlo := hF.2.2.2.2.2.2.2.1
  have hmo := sl_mono h1n
  have hmo2 := sl_mono h3
  have hmo3 := sl_mono hG.1
  have hrecv : ∃ cell : Cell, H[zK Z i]? = some cell ∧ cell.vm.isStatics = false ∧ s.vm.findClass sg2.1.cls = some cell.cls := by
    rw [hcl]
    exact vk_recv hF.2.2.2.2.2.1.2.2.2.2.1 hi hS
  have hcv : cv Z (.ref (i + 2)) = .ref (zK Z i) := ad_str Z hi
  rw [show (av.reverse ++ Value.ref (i + 2) :: rest).map (cv Z) = (av.map (cv Z)).reverse ++ .ref (zK Z i) :: rest.map (cv Z) by rw [List.map_append, List.map_cons, List.map_reverse, hcv]]
  refine W_call (rest := rest.map (cv Z)) (a := (Value.ref (zK Z i) :: av.map (cv Z)).toArray) (va_runV (As := av.map (cv Z)) (C := sg2.1.cls) ⟨hF.1, hF.2.1, hF.2.2.1, hF.2.2.2.1, hts⟩ hG.2 ⟨callB_of n hts (wk_good hw5) rfl rfl rfl (hts _ hw4) (hts _ hw1) ⟨by rw [hcl]; decide, by rw [hcl]; decide, hnp⟩ ⟨by show d + 1 ≤ _; omega, by show 8 + (_ + 11) + 36 * d ≤ _; omega⟩, hts _ hw2, hts _ hw3⟩ ⟨Pm_blind _ _ _, hrecv, ?_⟩ rfl (by simpa using hn) (hL.1.trans rfl) rfl ?_ hd ⟨by omega, by omega⟩) hS (fun r M' H1 locs1 hq hn' hR' hS' => X_fin hF h1 h2 h3 hG.1 h1n hn' hR' hS' hL hE (h r M' hq hn'))
  · have := Pm_pre (av := .ref (i + 2) :: av) hR hF.2.2.2.2.2.1 hS
    rw [List.map_cons, hcv] at this
    exact this
  · exact lv_room (by rw [wsum_cv]; exact hst)
/-- a static method -/
theorem X_callS {sg2 : Sig} {n1 ix n : Nat} {av rest : List Value} {Qc : Option Value → Mem → Prop} (hmaxL : sg2.2.2.1 ≤ 17) (hpn : sg2.1.cls ≠ "java/lang/invoke/MethodHandle" ∧ sg2.1.cls ≠ "java/lang/invoke/VarHandle") (hnp : (parseMethodDescriptor sg2.1.desc).map (fun d => d.parameters.length) = some n) (hn : av.length = n)
    (hw1 : Cond.methodLink sg.1.cls ix sg2.1 ∈ WS) (hw2 : Cond.static sg2.1 ∈ WS) (hw4 : Cond.initialized sg2.1.cls ∈ WS) (hw5 : Cond.code sg2.1 sg2.2.1 sg2.2.2.1 sg2.2.2.2 ∈ WS) (hd : decode sg.2.1 pc = .ok (.invokestatic ix, 3)) (hst : wsum rest ≤ 8) (hG : GmA Z d sg2 av M n1 Qc) (h1n : n1 ≤ nF)
    (h : ∀ r M', Qc r M' → mN M' = n1 → X Z (d + 1) sg n0 nF Q (pc + 3) lv (r.toList ++ rest) M') : X Z (d + 1) sg n0 nF Q pc lv (av.reverse ++ rest) M := by
  intro p e R s m args below meth c Qe H locs la hF h1 h2 h3 h4 hR hS hL hE
  have hts := hF.2.2.2.2.1
  have hfr := hF.2.2.2.2.2.2.1
  have hlo := hF.2.2.2.2.2.2.2.1
  have hmo := sl_mono h1n
  have hmo2 := sl_mono h3
  have hmo3 := sl_mono hG.1
  rw [show (av.reverse ++ rest).map (cv Z) = (av.map (cv Z)).reverse ++ rest.map (cv Z) by rw [List.map_append, List.map_reverse]]
  exact W_call (rest := rest.map (cv Z)) (a := (av.map (cv Z)).toArray) (va_runS (As := av.map (cv Z)) ⟨hF.1, hF.2.1, hF.2.2.1, hF.2.2.2.1, hts⟩ hG.2 ⟨callB_of n hts (wk_good hw5) rfl rfl rfl (hts _ hw4) (hts _ hw1) ⟨hpn.1, hpn.2, hnp⟩ ⟨by show d + 1 ≤ _; omega, by show 8 + (_ + 11) + 36 * d ≤ _; omega⟩, hts _ hw2⟩ ⟨Pm_blind _ _ _, Pm_pre hR hF.2.2.2.2.2.1 hS⟩ rfl (by simpa using hn) (hL.1.trans rfl) rfl (lv_room (by rw [wsum_cv]; exact hst)) hd ⟨by omega, by omega⟩) hS (fun r M' H1 locs1 hq hn' hR' hS' => X_fin hF h1 h2 h3 hG.1 h1n hn' hR' hS' hL hE (h r M' hq hn'))
/-- a private static method of a nest mate -/
theorem X_callSN {sg2 : Sig} {n1 ix n : Nat} {host : String} {av rest : List Value} {Qc : Option Value → Mem → Prop} (hmaxL : sg2.2.2.1 ≤ 17) (hpn : sg2.1.cls ≠ "java/lang/invoke/MethodHandle" ∧ sg2.1.cls ≠ "java/lang/invoke/VarHandle") (hnp : (parseMethodDescriptor sg2.1.desc).map (fun d => d.parameters.length) = some n) (hn : av.length = n)
    (hw1 : (sg.1.cls, ix, sg2.1, host) ∈ nestL) (hw2 : Cond.static sg2.1 ∈ WS) (hw4 : Cond.initialized sg2.1.cls ∈ WS) (hw5 : Cond.code sg2.1 sg2.2.1 sg2.2.2.1 sg2.2.2.2 ∈ WS) (hd : decode sg.2.1 pc = .ok (.invokestatic ix, 3)) (hst : wsum rest ≤ 8) (hG : GmA Z d sg2 av M n1 Qc) (h1n : n1 ≤ nF)
    (h : ∀ r M', Qc r M' → mN M' = n1 → X Z (d + 1) sg n0 nF Q (pc + 3) lv (r.toList ++ rest) M') : X Z (d + 1) sg n0 nF Q pc lv (av.reverse ++ rest) M := by
  intro p e R s m args below meth c Qe H locs la hF h1 h2 h3 h4 hR hS hL hE
  have hts := hF.2.2.2.2.1
  have hfr := hF.2.2.2.2.2.2.1
  have hlo := hF.2.2.2.2.2.2.2.1
  have hmo := sl_mono h1n
  have hmo2 := sl_mono h3
  have hmo3 := sl_mono hG.1
  rw [show (av.reverse ++ rest).map (cv Z) = (av.map (cv Z)).reverse ++ rest.map (cv Z) by rw [List.map_append, List.map_reverse]]
  exact W_call (rest := rest.map (cv Z)) (a := (av.map (cv Z)).toArray) (va_runSN (As := av.map (cv Z)) ⟨hF.1, hF.2.1, hF.2.2.1, hF.2.2.2.1, hts⟩ hG.2 ⟨va_cnB n hts (wk_good hw5) rfl rfl rfl (hF.2.2.2.2.2.1.2.1 _ hw1) (hts _ hw4) ⟨hpn.1, hpn.2, hnp⟩ ⟨by show d + 1 ≤ _; omega, by show 8 + (_ + 11) + 36 * d ≤ _; omega⟩, hts _ hw2, trivial⟩ ⟨Pm_blind _ _ _, Pm_pre hR hF.2.2.2.2.2.1 hS⟩ rfl (by simpa using hn) (hL.1.trans rfl) rfl (lv_room (by rw [wsum_cv]; exact hst)) hd ⟨by omega, by omega⟩) hS (fun r M' H1 locs1 hq hn' hR' hS' => X_fin hF h1 h2 h3 hG.1 h1n hn' hR' hS' hL hE (h r M' hq hn'))
/-- a constructor -/
theorem X_callI {sg2 : Sig} {b n1 ix n : Nat} {av rest : List Value} {Qc : Option Value → Mem → Prop} (hb16 : 16 ≤ b) (hnm : sg2.1.name = "<init>") (hrt : sg2.2.2.2 = none) (hmaxL : sg2.2.2.1 ≤ 17) (hpn : sg2.1.cls ≠ "java/lang/invoke/MethodHandle" ∧ sg2.1.cls ≠ "java/lang/invoke/VarHandle") (hnp : (parseMethodDescriptor sg2.1.desc).map (fun d => d.parameters.length) = some n) (hn : av.length = n)
    (hw1 : Cond.methodLink sg.1.cls ix sg2.1 ∈ WS) (hw2 : Cond.instanceMethod sg2.1 ∈ WS) (hw4 : Cond.initialized sg2.1.cls ∈ WS) (hw5 : Cond.code sg2.1 sg2.2.1 sg2.2.2.1 sg2.2.2.2 ∈ WS) (hd : decode sg.2.1 pc = .ok (.invokespecial ix, 3)) (hst : wsum rest ≤ 8) (hG : GmA Z d sg2 (.ref b :: av) M n1 Qc) (h1n : n1 ≤ nF)
    (h : ∀ r M', Qc r M' → mN M' = n1 → X Z (d + 1) sg n0 nF Q (pc + 3) lv (r.toList ++ rest) M') : X Z (d + 1) sg n0 nF Q pc lv (av.reverse ++ .ref b :: rest) M := by
  intro p e R s m args below meth c Qe H locs la hF h1 h2 h3 h4 hR hS hL hE
  have hts := hF.2.2.2.2.1
  have hfr := hF.2.2.2.2.2.2.1
  have hlo := hF.2.2.2.2.2.2.2.1
  have hmo := sl_mono h1n
  have hmo2 := sl_mono h3
  have hmo3 := sl_mono hG.1
  have hcv : cv Z (.ref b) = .ref (zo Z + (b - 16)) := ad_cell hb16
  rw [show (av.reverse ++ Value.ref b :: rest).map (cv Z) = (av.map (cv Z)).reverse ++ .ref (zo Z + (b - 16)) :: rest.map (cv Z) by rw [List.map_append, List.map_cons, List.map_reverse, hcv]]
  obtain ⟨y2, b2, l2, r2⟩ := sg2
  cases hrt
  refine W_call (rest := rest.map (cv Z)) (a := (Value.ref (zo Z + (b - 16)) :: av.map (cv Z)).toArray) (va_runI (As := av.map (cv Z)) ⟨hF.1, hF.2.1, hF.2.2.1, hF.2.2.2.1, hts⟩ hG.2 ⟨callB_of n hts (wk_good hw5) rfl rfl rfl (hts _ hw4) (hts _ hw1) ⟨hpn.1, hpn.2, hnp⟩ ⟨by show d + 1 ≤ _; omega, by show 8 + (_ + 11) + 36 * d ≤ _; omega⟩, hnm, hts _ hw2⟩ ⟨Pm_blind _ _ _, ?_⟩ rfl (by simpa using hn) (hL.1.trans rfl) rfl ?_ hd ⟨by omega, by omega⟩) hS (fun r M' H1 locs1 hq hn' hR' hS' => X_fin hF h1 h2 h3 hG.1 h1n hn' hR' hS' hL hE (h r M' hq hn'))
  · have := Pm_pre (av := .ref b :: av) hR hF.2.2.2.2.2.1 hS
    rw [List.map_cons, hcv] at this
    exact this
  · exact lv_room (by rw [wsum_cv]; exact hst)
/-- a private constructor of a nest mate -/
theorem X_callIN {sg2 : Sig} {b n1 ix n : Nat} {host : String} {av rest : List Value} {Qc : Option Value → Mem → Prop} (hb16 : 16 ≤ b) (hnm : sg2.1.name = "<init>") (hrt : sg2.2.2.2 = none) (hmaxL : sg2.2.2.1 ≤ 17) (hpn : sg2.1.cls ≠ "java/lang/invoke/MethodHandle" ∧ sg2.1.cls ≠ "java/lang/invoke/VarHandle") (hnp : (parseMethodDescriptor sg2.1.desc).map (fun d => d.parameters.length) = some n) (hn : av.length = n)
    (hw1 : (sg.1.cls, ix, sg2.1, host) ∈ nestL) (hw2 : Cond.instanceMethod sg2.1 ∈ WS) (hw4 : Cond.initialized sg2.1.cls ∈ WS) (hw5 : Cond.code sg2.1 sg2.2.1 sg2.2.2.1 sg2.2.2.2 ∈ WS) (hd : decode sg.2.1 pc = .ok (.invokespecial ix, 3)) (hst : wsum rest ≤ 8) (hG : GmA Z d sg2 (.ref b :: av) M n1 Qc) (h1n : n1 ≤ nF)
    (h : ∀ r M', Qc r M' → mN M' = n1 → X Z (d + 1) sg n0 nF Q (pc + 3) lv (r.toList ++ rest) M') : X Z (d + 1) sg n0 nF Q pc lv (av.reverse ++ .ref b :: rest) M := by
  intro p e R s m args below meth c Qe H locs la hF h1 h2 h3 h4 hR hS hL hE
  have hts := hF.2.2.2.2.1
  have hfr := hF.2.2.2.2.2.2.1
  have hlo := hF.2.2.2.2.2.2.2.1
  have hmo := sl_mono h1n
  have hmo2 := sl_mono h3
  have hmo3 := sl_mono hG.1
  have hcv : cv Z (.ref b) = .ref (zo Z + (b - 16)) := ad_cell hb16
  rw [show (av.reverse ++ Value.ref b :: rest).map (cv Z) = (av.map (cv Z)).reverse ++ .ref (zo Z + (b - 16)) :: rest.map (cv Z) by rw [List.map_append, List.map_cons, List.map_reverse, hcv]]
  obtain ⟨y2, b2, l2, r2⟩ := sg2
  cases hrt
  refine W_call (rest := rest.map (cv Z)) (a := (Value.ref (zo Z + (b - 16)) :: av.map (cv Z)).toArray) (va_runIN (As := av.map (cv Z)) ⟨hF.1, hF.2.1, hF.2.2.1, hF.2.2.2.1, hts⟩ hG.2 ⟨va_cnB n hts (wk_good hw5) rfl rfl rfl (hF.2.2.2.2.2.1.2.1 _ hw1) (hts _ hw4) ⟨hpn.1, hpn.2, hnp⟩ ⟨by show d + 1 ≤ _; omega, by show 8 + (_ + 11) + 36 * d ≤ _; omega⟩, hnm, hts _ hw2⟩ ⟨Pm_blind _ _ _, ?_⟩ rfl (by simpa using hn) (hL.1.trans rfl) rfl ?_ hd ⟨by omega, by omega⟩) hS (fun r M' H1 locs1 hq hn' hR' hS' => X_fin hF h1 h2 h3 hG.1 h1n hn' hR' hS' hL hE (h r M' hq hn'))
  · have := Pm_pre (av := .ref b :: av) hR hF.2.2.2.2.2.1 hS
    rw [List.map_cons, hcv] at this
    exact this
  · exact lv_room (by rw [wsum_cv]; exact hst)
/-- Math.max, Math.min, System.arraycopy, Object's constructor -/
theorem X_max {ix : Nat} {x y : Int32} (hw : Cond.methodLink sg.1.cls ix Lib.Math.max.name ∈ WS) (hw2 : Cond.static Lib.Math.max.name ∈ WS) (hw3 : Cond.initialized "java/lang/Math" ∈ WS) (hw4 : Cond.code Lib.Math.max.name Lib.Math.max.code 2 (some .int) ∈ WS) (hd : decode sg.2.1 pc = .ok (.invokestatic ix, 3)) (hst : wsum st ≤ 8) (h : X Z (d + 1) sg n0 nF Q (pc + 3) lv (.int (if x < y then y else x) :: st) M) : X Z (d + 1) sg n0 nF Q pc lv (.int y :: .int x :: st) M := by
  intro p e R s m args below meth c Qe H locs la hF h1 h2 h3 h4 hR hS hL hE
  have hts := hF.2.2.2.2.1
  have hfr := hF.2.2.2.2.2.2.1
  have hlo := hF.2.2.2.2.2.2.2.1
  have hmo := sl_mono h4
  have hsum := wsum_cv Z st
  exact va_mmax hF.1 hF.2.1 (hF.2.2.1.trans hL.1.symm) hF.2.2.2.1 (hts _ hw) (hts _ hw2) (hts _ hw3) (hts _ hw4) (by omega) (by omega) (by omega) (by omega) hd (h p e R s m args below meth c Qe H locs la hF h1 h2 h3 h4 hR hS hL hE)
theorem X_min {ix : Nat} {x y : Int32} (hw : Cond.methodLink sg.1.cls ix Lib.Math.min.name ∈ WS) (hw2 : Cond.static Lib.Math.min.name ∈ WS) (hw3 : Cond.initialized "java/lang/Math" ∈ WS) (hw4 : Cond.code Lib.Math.min.name Lib.Math.min.code 2 (some .int) ∈ WS) (hd : decode sg.2.1 pc = .ok (.invokestatic ix, 3)) (hst : wsum st ≤ 8) (h : X Z (d + 1) sg n0 nF Q (pc + 3) lv (.int (if y < x then y else x) :: st) M) : X Z (d + 1) sg n0 nF Q pc lv (.int y :: .int x :: st) M := by
  intro p e R s m args below meth c Qe H locs la hF h1 h2 h3 h4 hR hS hL hE
  have hts := hF.2.2.2.2.1
  have hfr := hF.2.2.2.2.2.2.1
  have hlo := hF.2.2.2.2.2.2.2.1
  have hmo := sl_mono h4
  have hsum := wsum_cv Z st
  exact va_mmin hF.1 hF.2.1 (hF.2.2.1.trans hL.1.symm) hF.2.2.2.1 (hts _ hw) (hts _ hw2) (hts _ hw3) (hts _ hw4) (by omega) (by omega) (by omega) (by omega) hd (h p e R s m args below meth c Qe H locs la hF h1 h2 h3 h4 hR hS hL hE)
theorem X_objI {ix a : Nat} (h16 : 16 ≤ a) (hw : Cond.methodLink sg.1.cls ix Lib.objectInit ∈ WS) (hw2 : Cond.instanceMethod Lib.objectInit ∈ WS) (hw4 : Cond.code Lib.objectInit ⟨#[0xb1]⟩ 1 none ∈ WS) (hd : decode sg.2.1 pc = .ok (.invokespecial ix, 3)) (hst : wsum st ≤ 8) (h : X Z (d + 1) sg n0 nF Q (pc + 3) lv st M) : X Z (d + 1) sg n0 nF Q pc lv (.ref a :: st) M := by
  intro p e R s m args below meth c Qe H locs la hF h1 h2 h3 h4 hR hS hL hE
  have hts := hF.2.2.2.2.1
  have hfr := hF.2.2.2.2.2.2.1
  have hlo := hF.2.2.2.2.2.2.2.1
  have hsum := wsum_cv Z st
  rw [List.map_cons, ad_of (M := M) h16]
  exact W.objInit hF.1 hF.2.1 hF.2.2.2.1 (hts _ hw) (hts _ hw2) (hts _ hw4) rfl (hL.1.trans hF.2.2.1.symm) rfl hd (by omega) (by show 2 * 0 + _ + 12 ≤ _; omega) (h p e R s m args below meth c Qe H locs la hF h1 h2 h3 h4 hR hS hL hE)
/-- copying n ints from place sp of a to place dp of b -/
def cpI (M : Mem) (a sp b dp n : Nat) : Mem := (M.1, fun x y => if x = b ∧ dp ≤ y ∧ y < dp + n then M.2.1 a (sp + (y - dp)) else M.2.1 x y, M.2.2.1, M.2.2.2)
theorem ce_cpI {M : Mem} {a sp b dp n j : Nat} (h : j ≠ b) : ce Z (cpI M a sp b dp n) j = ce Z M j := by
  have e2 : mI (cpI M a sp b dp n) j = mI M j := by funext y; simp [mI, cpI, h]
  have e3 : fv Z (cpI M a sp b dp n) j = fv Z M j := by
    funext ci y
    unfold fv
    rw [e2]
    rfl
  unfold ce
  rw [e2, e3]
  rfl
theorem X_copy {ix a b sp dp n : Nat} (hw : Cond.methodLink sg.1.cls ix arraycopyName ∈ WS) (hw2 : Cond.native arraycopyName ∈ WS) (hw3 : Cond.static arraycopyName ∈ WS) (hw4 : Cond.initialized "java/lang/System" ∈ WS) (hd : decode sg.2.1 pc = .ok (.invokestatic ix, 3)) (hst : wsum st ≤ 8) (ha : a < mN M) (ha2 : (kd a).1 = 1) (hb : b < mN M) (hb2 : (kd b).1 = 1) (h4 : sp + n ≤ (kd a).2) (h5 : dp + n ≤ (kd b).2) (hsm : sp < 2 ^ 31) (hdm : dp < 2 ^ 31) (hnm : n < 2 ^ 31) (h : X Z (d + 1) sg n0 nF Q (pc + 3) lv st (cpI M a sp b dp n)) : X Z (d + 1) sg n0 nF Q pc lv (.int (nI n) :: .int (nI dp) :: .ref b :: .int (nI sp) :: .ref a :: st) M := by
  intro p e R s m args below meth c Qe H locs la hF g1 g2 g3 g4 hR hS hL hE
  have hts := hF.2.2.2.2.1
  have hfr := hF.2.2.2.2.2.2.1
  have hlo := hF.2.2.2.2.2.2.2.1
  have hK := hF.2.2.2.2.2.1.1
  have hsum := wsum_cv Z st
  have a16 : 16 ≤ a := kd_lo (by omega)
  have hnw : nativeFrameWords "java/lang/System" "arraycopy" 5 ≤ 17 := by decide
  have b16 : 16 ≤ b := kd_lo (by omega)
  have nn : ∀ k : Nat, k < 2 ^ 31 → (nI k).toInt = (k : Int) := fun k hk => nI_toInt hk
  rw [List.map_cons, List.map_cons, List.map_cons, List.map_cons, List.map_cons, ad_of (M := M) a16, ad_of (M := M) b16]
  intro T hT X
  have hc0 : H[zo Z + (a - 16)]? = some (vp_cell (zcI Z) ((kd a).2, .inl (mI M a))) := hR.1 (a - 16) _ (arr_at ha ha2)
  have hc1 : H[zo Z + (b - 16)]? = some (vp_cell (zcI Z) ((kd b).2, .inl (mI M b))) := hR.1 (b - 16) _ (arr_at hb hb2)
  obtain ⟨-, k0, hk0, cm0, hkk0⟩ := (hK.2 0 _ rfl).1 (kd a).2 (fun j => .int (mI M a j))
  obtain ⟨-, k1, hk1, cm1, hkk1⟩ := (hK.2 0 _ rfl).1 (kd b).2 (fun j => .int (mI M b j))
  obtain ⟨vm', X', step⟩ := X.arraycopy hF.1 hF.2.2.2.1 (hts _ hw) (hts _ hw2) (hts _ hw3) (hts _ hw4) (src := zo Z + (a - 16)) (dst := zo Z + (b - 16)) (cs := vp_cell (zcI Z) ((kd a).2, .inl (mI M a))) (cd := vp_cell (zcI Z) ((kd b).2, .inl (mI M b))) (srcPos := nI sp) (destPos := nI dp) (n := nI n) (by rw [hT]; exact hc0) (by rw [hT]; exact hc1)
    (fun _ h => by cases h) (fun _ h => by cases h) (fun h => by cases h) (fun h => by cases h) hk0 hk1 hkk0 hkk1 (by simp [refKind]) (nI_pos hsm) (nI_pos hdm) (nI_pos hnm)
    (by rw [nn sp hsm, nn n hnm]; show ¬ _ > ((arrV (zcI Z) (kd a).2 (fun j => .int (mI M a j))).slots.size : Int); rw [arrV_size]; omega)
    (by rw [nn dp hdm, nn n hnm]; show ¬ _ > ((arrV (zcI Z) (kd b).2 (fun j => .int (mI M b j))).slots.size : Int); rw [arrV_size]; omega)
    (fun vm₁ _ i hi => by
      rw [nI_clamp hnm] at hi
      rw [nI_clamp hsm]
      have e : (vp_cell (zcI Z) ((kd a).2, .inl (mI M a))).slots.getD (sp + i) .null = .int (mI M a (sp + i)) := by
        rw [vp_cell_i, Array.getD_eq_getD_getElem?, arrV_read _ _ (by omega)]
        rfl
      rw [e]
      exact ⟨rfl, trivial⟩)
    (g := F0 m pc la (.int (nI n) :: .int (nI dp) :: .ref (zo Z + (b - 16)) :: .int (nI sp) :: .ref (zo Z + (a - 16)) :: st.map (cv Z))) rfl (by rw [hF.2.2.1]; exact hL.1) (rest := st.map (cv Z)) rfl (by rw [hF.2.1]; exact hd) (by omega) (by show 2 * 0 + _ + (nativeFrameWords "java/lang/System" "arraycopy" 5 + 11) ≤ _; rw [hsum]; omega)
  have e1 : copied (vp_cell (zcI Z) ((kd a).2, .inl (mI M a))) (vp_cell (zcI Z) ((kd b).2, .inl (mI M b))) (nI sp) (nI dp) (nI n) = vp_cell (zcI Z) ((kd b).2, .inl (va_cpy (mI M a) (mI M b) sp dp n)) := by
    have := va_copied (sp := (nI sp).toNatClampNeg) (dp := (nI dp).toNatClampNeg) (n := (nI n).toNatClampNeg) (fun z => .int z) (zcI Z) (zcI Z) (mI M a) (mI M b) (n0 := (kd a).2) (n1 := (kd b).2) (by rw [nI_clamp hsm, nI_clamp hnm]; exact h4)
    rw [show va_cpy (mI M a) (mI M b) sp dp n = va_cpy (mI M a) (mI M b) (nI sp).toNatClampNeg (nI dp).toNatClampNeg (nI n).toNatClampNeg by rw [nI_clamp hsm, nI_clamp hnm, nI_clamp hdm]]
    exact this
  rw [e1] at X' step
  have hl : zo Z + (b - 16) < H.size := (Array.getElem?_eq_some_iff.mp hc1).1
  have hheap : ((T.setVm vm').setCell (zo Z + (b - 16)) (vp_cell (zcI Z) ((kd b).2, .inl (va_cpy (mI M a) (mI M b) sp dp n)))).heap = H.setIfInBounds (zo Z + (b - 16)) (vp_cell (zcI Z) ((kd b).2, .inl (va_cpy (mI M a) (mI M b) sp dp n))) := by rw [← hT]; rfl
  have oq : ∀ q : Nat, q ≠ zo Z + (b - 16) → (H.setIfInBounds (zo Z + (b - 16)) (vp_cell (zcI Z) ((kd b).2, .inl (va_cpy (mI M a) (mI M b) sp dp n))))[q]? = H[q]? := fun q hq => by simp [Array.getElem?_setIfInBounds, Ne.symm hq]
  have hP := hR.1.set (wsD Z M) (arr_at hb hb2) (e := .inl (zcI Z, (kd b).2, .inl (va_cpy (mI M a) (mI M b) sp dp n))) (show (H.setIfInBounds (zo Z + (b - 16)) _)[zo Z + (b - 16)]? = some _ by simp [Array.getElem?_setIfInBounds, hl]) oq
  have hR' : Rep Z (cpI M a sp b dp n) (H.setIfInBounds (zo Z + (b - 16)) (vp_cell (zcI Z) ((kd b).2, .inl (va_cpy (mI M a) (mI M b) sp dp n)))) := Rep.set (M' := cpI M a sp b dp n) hR b16 hb rfl (fun j hj => ce_cpI hj) (by
    rw [ce_arr hb2]
    congr 4
    funext q
    simp [va_cpy, mI, cpI]) (by simp) hP
  obtain ⟨t, a1, b1⟩ := h p e R s m args below meth c Qe _ _ la hF g1 g2 g3 g4 hR' ⟨by simp; exact hS.1, fun q g1 g2 => by
      rw [oq q (fun e => g2 (by rw [e]; show zo Z ≤ _; omega))]
      exact hS.2.1 q g1 g2, fun q hq => by
      rcases List.mem_append.mp hq with h | h
      · exact hS.2.2 q h
      · obtain ⟨z, -, hz⟩ := List.mem_map.mp h
        rw [← hz]
        exact Nat.le_add_right (zo Z) (b - 16)⟩ hL hE _ hheap X'
  exact ⟨t, step t a1, b1⟩
end XC
end
section
/-! ===== programs: a method's instructions as data, and what is to be shown of them, computed ===== -/
abbrev Ins : Type := Nat × Nat × Nat × Nat × Int32 × List Nat
abbrev PI : Type := Nat × Ins
/-- a contract as a caller uses it: what must hold before, what holds behind -/
abbrev Ent : Type := (List Value → Mem → Prop) × (List Value → Mem → Option Value → Mem → Prop)
def f4 (a : Nat) : Fin 4 := Fin.ofNat 4 a
/-- the cells' strings of a field -/
def jI (pc : Nat) (x : Ins) : Instr × Nat := match x with
  | (g, o, a, b, v, tl) => match g with
    | 0 => match o with
      | 0 => match b with
        | 0 => (.iconst v.toInt, 1)
        | 1 => (.bipush v.toInt, 2)
        | 2 => (.sipush v.toInt, 3)
        | _ => (.ldc a, 2)
      | 1 => (.ldc2_w a, 3)
      | 5 => (.ldc2_w a, 3)
      | 2 => (.ldc (strL.getD a (0, "")).1, 2)
      | _ => (.getstatic a, 3)
    | 1 => match o with
      | 0 => if a < 4 then (.iload_n (f4 a), 1) else (.iload a, 2)
      | 1 => if a < 4 then (.aload_n (f4 a), 1) else (.aload a, 2)
      | 2 => if a < 4 then (.lload_n (f4 a), 1) else (.lload a, 2)
      | 3 => if a < 4 then (.istore_n (f4 a), 1) else (.istore a, 2)
      | 4 => if a < 4 then (.astore_n (f4 a), 1) else (.astore a, 2)
      | 5 => if a < 4 then (.lstore_n (f4 a), 1) else (.lstore a, 2)
      | _ => (.iinc a v.toInt, 3)
    | 2 => match o with
      | 0 => (.iadd, 1)
      | 1 => (.isub, 1)
      | 2 => (.imul, 1)
      | 3 => (.idiv, 1)
      | 4 => (.irem, 1)
      | 5 => (.ineg, 1)
      | 6 => (.iand, 1)
      | 7 => (.ior, 1)
      | 8 => (.ishl, 1)
      | _ => (.ishr, 1)
    | 3 => match o with
      | 0 => (.i2l, 1)
      | 1 => (.ladd, 1)
      | 2 => (.lmul, 1)
      | 3 => (.lcmp, 1)
      | _ => (.i2c, 1)
    | 4 => match o with
      | 0 => (.if_icmp .eq ((a : Int) - pc), 3)
      | 1 => (.if_icmp .ne ((a : Int) - pc), 3)
      | 2 => (.if_icmp .lt ((a : Int) - pc), 3)
      | 3 => (.if_icmp .ge ((a : Int) - pc), 3)
      | 4 => (.if_icmp .gt ((a : Int) - pc), 3)
      | _ => (.if_icmp .le ((a : Int) - pc), 3)
    | 5 => match o with
      | 0 => (.ifCond .eq ((a : Int) - pc), 3)
      | 1 => (.ifCond .ne ((a : Int) - pc), 3)
      | 2 => (.ifCond .lt ((a : Int) - pc), 3)
      | 3 => (.ifCond .ge ((a : Int) - pc), 3)
      | 4 => (.ifCond .gt ((a : Int) - pc), 3)
      | _ => (.ifCond .le ((a : Int) - pc), 3)
    | 6 => match o with
      | 0 => (.goto ((a : Int) - pc), 3)
      | _ => (.tableswitch ((a : Int) - pc) 0 ((tl.length : Int) - 1) (tl.map fun (t : Nat) => ((t : Int) - (pc : Int))).toArray, b)
    | 7 => match o with
      | 0 => (.dup, 1)
      | 1 => (.dup2, 1)
      | _ => (.pop, 1)
    | 8 => match o with
      | 0 => (.getfield (tl.getD 0 0), 3)
      | 1 => (.getfield (tl.getD 0 0), 3)
      | 2 => (.getfield (tl.getD 0 0), 3)
      | 3 => (.getfield (tl.getD 0 0), 3)
      | 4 => (.iaload, 1)
      | 5 => (.aaload, 1)
      | 6 => (.arraylength, 1)
      | 7 => (.getfield (tl.getD 0 0), 3)
      | 8 => (.getfield (tl.getD 0 0), 3)
      | 9 => (.baload, 1)
      | 10 => (.arraylength, 1)
      | 11 => (.iaload, 1)
      | _ => (.arraylength, 1)
    | 9 => match o with
      | 0 => (.ireturn, 1)
      | 1 => (.ireturn, 1)
      | 2 => (.ireturn, 1)
      | 3 => (.lreturn, 1)
      | 4 => (.areturn, 1)
      | _ => (.return_, 1)
    | 10 => match o with
      | 0 => (.putfield (tl.getD 0 0), 3)
      | 1 => (.putfield (tl.getD 0 0), 3)
      | 2 => (.putfield (tl.getD 0 0), 3)
      | 3 => (.putfield (tl.getD 0 0), 3)
      | 4 => (.iastore, 1)
      | 5 => (.aastore, 1)
      | 6 => (.new (tl.getD 0 0), 3)
      | 7 => (.newarray .int, 2)
      | _ => (.anewarray (tl.getD 0 0), 3)
    | 11 => match o with
      | 0 => (.invokevirtual (tl.getD 0 0), 3)
      | 1 => (.invokestatic (tl.getD 0 0), 3)
      | 2 => (.invokestatic (tl.getD 0 0), 3)
      | 3 => (.invokevirtual (tl.getD 0 0), 3)
      | 4 => (.invokespecial (tl.getD 0 0), 3)
      | _ => (.invokespecial (tl.getD 0 0), 3)
    | 12 => match o with
      | 0 => (.invokestatic (tl.getD 0 0), 3)
      | 1 => (.invokestatic (tl.getD 0 0), 3)
      | 2 => (.invokestatic (tl.getD 0 0), 3)
      | _ => (.invokespecial (tl.getD 0 0), 3)
    | _ => (.nop, b)
/-! what each instruction asks, and where it goes on -/
def e0 (o a : Nat) (v : Int32) (k : List Value → Prop) (st : List Value) : Prop := match o with
  | 0 => k (.int v :: st)
  | 1 => k (.long 31 :: st)
  | 5 => k (.long 113 :: st)
  | 2 => k (.ref (a + 2) :: st)
  | 3 => k (.int 1 :: st)
  | 4 => k (.ref 10 :: st)
  | _ => False
def e1 (o a : Nat) (v : Int32) (k : List (Option Value) → List Value → Prop) (lv : List (Option Value)) (st : List Value) : Prop := match o with
  | 0 => match lget lv a with
    | some (.int x) => k lv (.int x :: st)
    | _ => False
  | 1 => match lget lv a with
    | some (.ref x) => k lv (.ref x :: st)
    | _ => False
  | 2 => match lget lv a with
    | some (.long x) => k lv (.long x :: st)
    | _ => False
  | 3 => match st with
    | .int x :: r => k (lset lv a (.int x)) r
    | _ => False
  | 4 => match st with
    | .ref x :: r => k (lset lv a (.ref x)) r
    | _ => False
  | 5 => match st with
    | .long x :: r => k (lset2 lv a (.long x)) r
    | _ => False
  | 6 => match lget lv a with
    | some (.int x) => k (lset lv a (.int (x + v))) st
    | _ => False
  | _ => False
def e2 (o : Nat) (k : List Value → Prop) (st : List Value) : Prop := match o with
  | 0 => match st with
    | .int y :: .int x :: r => k (.int (x + y) :: r)
    | _ => False
  | 1 => match st with
    | .int y :: .int x :: r => k (.int (x - y) :: r)
    | _ => False
  | 2 => match st with
    | .int y :: .int x :: r => k (.int (x * y) :: r)
    | _ => False
  | 3 => match st with
    | .int y :: .int x :: r => ¬ y = 0 ∧ k (.int (x / y) :: r)
    | _ => False
  | 4 => match st with
    | .int y :: .int x :: r => ¬ y = 0 ∧ k (.int (x - x / y * y) :: r)
    | _ => False
  | 5 => match st with
    | .int x :: r => k (.int (-x) :: r)
    | _ => False
  | 6 => match st with
    | .int y :: .int x :: r => k (.int (x &&& y) :: r)
    | _ => False
  | 7 => match st with
    | .int y :: .int x :: r => k (.int (x ||| y) :: r)
    | _ => False
  | 8 => match st with
    | .int y :: .int x :: r => k (.int (x <<< (y &&& 31)) :: r)
    | _ => False
  | 9 => match st with
    | .int y :: .int x :: r => k (.int (x >>> (y &&& 31)) :: r)
    | _ => False
  | _ => False
def e3 (o : Nat) (k : List Value → Prop) (st : List Value) : Prop := match o with
  | 0 => match st with
    | .int x :: r => k (.long x.toInt64 :: r)
    | _ => False
  | 1 => match st with
    | .long y :: .long x :: r => k (.long (x + y) :: r)
    | _ => False
  | 2 => match st with
    | .long y :: .long x :: r => k (.long (x * y) :: r)
    | _ => False
  | 3 => match st with
    | .long y :: .long x :: r => k (.int (lg_cmp x y) :: r)
    | _ => False
  | 4 => match st with
    | .int x :: r => k (.int (x.toUInt32 % 65536).toInt32 :: r)
    | _ => False
  | _ => False
def e4 (o : Nat) (kT kF : List Value → Prop) (st : List Value) : Prop := match st with
  | .int y :: .int x :: r => match o with
    | 0 => if x = y then kT r else kF r
    | 1 => if x = y then kF r else kT r
    | 2 => if x < y then kT r else kF r
    | 3 => if y ≤ x then kT r else kF r
    | 4 => if y < x then kT r else kF r
    | 5 => if x ≤ y then kT r else kF r
    | _ => False
  | _ => False
def e5 (o : Nat) (kT kF : List Value → Prop) (st : List Value) : Prop := match st with
  | .int x :: r => match o with
    | 0 => if x = 0 then kT r else kF r
    | 1 => if x = 0 then kF r else kT r
    | 2 => if x < 0 then kT r else kF r
    | 3 => if 0 ≤ x then kT r else kF r
    | 4 => if 0 < x then kT r else kF r
    | 5 => if x ≤ 0 then kT r else kF r
    | _ => False
  | _ => False
/-- a table: from 0 on -/
def tsw (k : Nat → Prop) (dflt : Nat) (x : Int32) (i : Nat) (tl : List Nat) : Prop := match tl with
  | [] => k dflt
  | t :: r => if x = nI i then k t else tsw k dflt x (i + 1) r
def e7 (o : Nat) (k : List Value → Prop) (st : List Value) : Prop := match o with
  | 0 => match st with
    | .int x :: r => k (.int x :: .int x :: r)
    | .ref x :: r => k (.ref x :: .ref x :: r)
    | _ => False
  | 1 => match st with
    | .int y :: .ref x :: r => k (.int y :: .ref x :: .int y :: .ref x :: r)
    | _ => False
  | 2 => match st with
    | .int _ :: r => k r
    | .ref _ :: r => k r
    | _ => False
  | _ => False
/-- a text's or its bytes' number -/
def e8 (Z : Zt) (o a b : Nat) (k : List Value → Prop) (st : List Value) (M : Mem) : Prop := match o with
  | 0 => match st with
    | .ref i :: r => isO M i a ∧ k (.int (mI M i b) :: r)
    | _ => False
  | 1 => match st with
    | .ref i :: r => isO M i a ∧ k (.ref (mR M i b) :: r)
    | _ => False
  | 2 => match st with
    | .ref i :: r => isO M i a ∧ k (.int (nI (mR M i b)) :: r)
    | _ => False
  | 3 => match st with
    | .ref i :: r => isO M i a ∧ k (.long (mL M i) :: r)
    | _ => False
  | 4 => match st with
    | .int j :: .ref i :: r => isA M i j ∧ k (.int (mI M i j.toNatClampNeg) :: r)
    | _ => False
  | 5 => match st with
    | .int j :: .ref i :: r => (i < mN M ∧ (kd i).1 = 2 ∧ vp_in j (kd i).2) ∧ k (.ref (mR M i j.toNatClampNeg) :: r)
    | _ => False
  | 6 => match st with
    | .ref i :: r => (i < mN M ∧ (kd i).1 = 1) ∧ k (.int (nI (kd i).2) :: r)
    | _ => False
  | 7 => match st with
    | .ref i :: r => (2 ≤ i ∧ i < 6) ∧ k (.ref (i + 4) :: r)
    | _ => False
  | 8 => match st with
    | .ref i :: r => (2 ≤ i ∧ i < 6) ∧ k (.int 0 :: r)
    | _ => False
  | 9 => match st with
    | .int j :: .ref i :: r => ((6 ≤ i ∧ i < 10) ∧ vp_in j (lenL.getD (i - 6) 0)) ∧ k (.int ((bytL.getD (i - 6) []).getD j.toNatClampNeg 0) :: r)
    | _ => False
  | 10 => match st with
    | .ref i :: r => (6 ≤ i ∧ i < 10) ∧ k (.int (nI (lenL.getD (i - 6) 0)) :: r)
    | _ => False
  | 11 => match st with
    | .int j :: .ref i :: r => (i = 1 ∧ vp_in j (zn Z)) ∧ k (.int (zx Z j.toNatClampNeg) :: r)
    | _ => False
  | 12 => match st with
    | .ref i :: r => i = 1 ∧ k (.int (nI (zn Z)) :: r)
    | _ => False
  | _ => False
def e9 (o : Nat) (Q : Option Value → Mem → Prop) (st : List Value) (M : Mem) : Prop := match o with
  | 0 => match st with
    | [.int v] => Q (some (.int v)) M
    | _ => False
  | 1 => match st with
    | [.int v] => (v = 0 ∨ v = 1) ∧ Q (some (.int v)) M
    | _ => False
  | 2 => match st with
    | [.int v] => (∃ j : Nat, j < 128 ∧ v = nI j) ∧ Q (some (.int v)) M
    | _ => False
  | 3 => match st with
    | [.long v] => Q (some (.long v)) M
    | _ => False
  | 4 => match st with
    | [.ref v] => Q (some (.ref v)) M
    | _ => False
  | 5 => match st with
    | [] => Q none M
    | _ => False
  | _ => False
def e10 (nF o a b : Nat) (k : List Value → Mem → Prop) (st : List Value) (M : Mem) : Prop := match o with
  | 0 => match st with
    | .int v :: .ref i :: r => isO M i a ∧ k r (stI M i b v)
    | _ => False
  | 1 => match st with
    | .ref v :: .ref i :: r => isO M i a ∧ k r (stR M i b v)
    | _ => False
  | 2 => match st with
    | .int v :: .ref i :: r => isO M i a ∧ ∃ n, v = nI n ∧ k r (stR M i b n)
    | _ => False
  | 3 => match st with
    | .long v :: .ref i :: r => isO M i a ∧ k r (stL M i v)
    | _ => False
  | 4 => match st with
    | .int v :: .int j :: .ref i :: r => isA M i j ∧ k r (stI M i j.toNatClampNeg v)
    | _ => False
  | 5 => match st with
    | .ref v :: .int j :: .ref i :: r => ((i < mN M ∧ (kd i).1 = 2 ∧ vp_in j (kd i).2) ∧ isO M v 2) ∧ k r (stR M i j.toNatClampNeg v)
    | _ => False
  | 6 => (kd (mN M) = (a + 3, cW a) ∧ mN M + 1 ≤ nF) ∧ k (.ref (mN M) :: st) (al M)
  | 7 => match st with
    | .int v :: r => ∃ len, (v = nI len ∧ kd (mN M) = (1, len) ∧ len < 100000 ∧ mN M + 1 ≤ nF) ∧ k (.ref (mN M) :: r) (al M)
    | _ => False
  | 8 => match st with
    | .int v :: r => ∃ len, (v = nI len ∧ kd (mN M) = (2, len) ∧ len < 100000 ∧ mN M + 1 ≤ nF) ∧ k (.ref (mN M) :: r) (al M)
    | _ => False
  | _ => False
def e12 (o : Nat) (k : List Value → Mem → Prop) (st : List Value) (M : Mem) : Prop := match o with
  | 0 => match st with
    | .int y :: .int x :: r => wsum r ≤ 8 ∧ k (.int (if x < y then y else x) :: r) M
    | _ => False
  | 1 => match st with
    | .int y :: .int x :: r => wsum r ≤ 8 ∧ k (.int (if y < x then y else x) :: r) M
    | _ => False
  | 2 => match st with
    | .int vn :: .int vd :: .ref b :: .int vs :: .ref a :: r => ∃ n dp sp : Nat, (vn = nI n ∧ vd = nI dp ∧ vs = nI sp ∧ sp < 2 ^ 31 ∧ dp < 2 ^ 31 ∧ n < 2 ^ 31 ∧ wsum r ≤ 8 ∧ (a < mN M ∧ (kd a).1 = 1) ∧ (b < mN M ∧ (kd b).1 = 1) ∧ sp + n ≤ (kd a).2 ∧ dp + n ≤ (kd b).2) ∧ k r (cpI M a sp b dp n)
    | _ => False
  | 3 => match st with
    | .ref a :: r => (16 ≤ a ∧ wsum r ≤ 8) ∧ k r M
    | _ => False
  | _ => False
/-- calls: by the entry that the caller brings -/
def clook (C : List (Nat × Ent)) (k : Nat) : Ent := match C with
  | [] => (fun _ _ => False, fun _ _ _ _ => True)
  | (j, e) :: t => if k = j then e else clook t k
def pcall (e : Ent) (av : List Value) (M : Mem) (K : Option Value → Mem → Prop) : Prop := e.1 av M ∧ ∀ r M', e.2 av M r M' → K r M'
def splitA (n : Nat) (st acc : List Value) (K : List Value → List Value → Prop) : Prop := match n, st with
  | 0, st => K acc st
  | _ + 1, [] => False
  | n + 1, v :: r => splitA n r (v :: acc) K
def rcv (o ci : Nat) (M : Mem) (av : List Value) : Prop := match o with
  | 0 => match av with
    | .ref i :: _ => isO M i ci
    | _ => False
  | 3 => match av with
    | .ref i :: _ => 2 ≤ i ∧ i < 6
    | _ => False
  | 4 => match av with
    | .ref i :: _ => 16 ≤ i
    | _ => False
  | 5 => match av with
    | .ref i :: _ => 16 ≤ i
    | _ => False
  | _ => True
def e11 (o ci n : Nat) (e : Ent) (k : List Value → Mem → Prop) (st : List Value) (M : Mem) : Prop := splitA n st [] fun av r => (rcv o ci M av ∧ wsum r ≤ 8) ∧ pcall e av M fun v M' => k (v.toList ++ r) M'
def seek (tgt : Nat) (t : List PI) : List PI := match t with
  | [] => []
  | (pc, i) :: t => if pc = tgt then (pc, i) :: t else seek tgt t
def inS (S : List Nat) (pc : Nat) : Bool := match S with
  | [] => false
  | s :: S => if pc = s then true else inS S pc
abbrev Kt : Type := List (Option Value) → List Value → Mem → Prop
def go (S : List Nat) (Kx : Nat → Kt) (rn : List PI → Kt) (t : List PI) : Kt := fun lv st M => match t with
  | [] => False
  | (pc, i) :: t => if inS S pc = true then Kx pc lv st M else rn ((pc, i) :: t) lv st M
def jmp (S : List Nat) (Kx : Nat → Kt) (rn : List PI → Kt) (pc tgt : Nat) (t : List PI) : Kt := if tgt ≤ pc then Kx tgt else go S Kx rn (seek tgt t)
def run (Z : Zt) (nF : Nat) (C : List (Nat × Ent)) (S : List Nat) (Kx : Nat → Kt) (Q : Option Value → Mem → Prop) : Nat → List PI → Kt
  | 0, _ => fun _ _ _ => False
  | _, [] => fun _ _ _ => False
  | f + 1, (pc, g, o, a, b, v, tl) :: t => fun lv st M => match g with
    | 0 => e0 o a v (fun st' => go S Kx (run Z nF C S Kx Q f) t lv st' M) st
    | 1 => e1 o a v (fun lv' st' => go S Kx (run Z nF C S Kx Q f) t lv' st' M) lv st
    | 2 => e2 o (fun st' => go S Kx (run Z nF C S Kx Q f) t lv st' M) st
    | 3 => e3 o (fun st' => go S Kx (run Z nF C S Kx Q f) t lv st' M) st
    | 4 => e4 o (fun st' => jmp S Kx (run Z nF C S Kx Q f) pc a t lv st' M) (fun st' => go S Kx (run Z nF C S Kx Q f) t lv st' M) st
    | 5 => e5 o (fun st' => jmp S Kx (run Z nF C S Kx Q f) pc a t lv st' M) (fun st' => go S Kx (run Z nF C S Kx Q f) t lv st' M) st
    | 6 => match o with
      | 0 => jmp S Kx (run Z nF C S Kx Q f) pc a t lv st M
      | 1 => match st with
        | .int x :: r => tsw (fun tgt => jmp S Kx (run Z nF C S Kx Q f) pc tgt t lv r M) a x 0 tl
        | _ => False
      | _ => False
    | 7 => e7 o (fun st' => go S Kx (run Z nF C S Kx Q f) t lv st' M) st
    | 8 => e8 Z o a b (fun st' => go S Kx (run Z nF C S Kx Q f) t lv st' M) st M
    | 9 => e9 o Q st M
    | 10 => e10 nF o a b (fun st' M' => go S Kx (run Z nF C S Kx Q f) t lv st' M') st M
    | 11 => e11 o a (tl.getD 1 0) (clook C b) (fun st' M' => go S Kx (run Z nF C S Kx Q f) t lv st' M') st M
    | 12 => e12 o (fun st' M' => go S Kx (run Z nF C S Kx Q f) t lv st' M') st M
    | _ => False
end
section
/-! the methods: name, bytes, locals, answer; printed by gen.py -/
def s_C_init : Sig := (⟨"LimitBank$Claims", "<init>", "(I)V"⟩, prog_2_method_1_code, 2, none)
def s_B_copy : Sig := (⟨"LimitBank", "copy", "([I[I)V"⟩, prog_1_method_41_code, 2, none)
def s_C_copyRows : Sig := (⟨"LimitBank$Claims", "copyRows", "(LLimitBank$Claims;)V"⟩, prog_2_method_2_code, 2, none)
def s_C_isFull : Sig := (⟨"LimitBank$Claims", "isFull", "()Z"⟩, prog_2_method_3_code, 1, (some .boolean))
def s_B_within : Sig := (⟨"LimitBank", "within", "(III)Z"⟩, prog_1_method_37_code, 3, (some .boolean))
def s_C_cell : Sig := (⟨"LimitBank$Claims", "cell", "(II)I"⟩, prog_2_method_4_code, 3, (some .int))
def s_C_add : Sig := (⟨"LimitBank$Claims", "add", "([II)V"⟩, prog_2_method_5_code, 5, none)
def s_C_addRowOf : Sig := (⟨"LimitBank$Claims", "addRowOf", "(LLimitBank$Claims;II)V"⟩, prog_2_method_6_code, 6, none)
def s_C_remove : Sig := (⟨"LimitBank$Claims", "remove", "(I)V"⟩, prog_2_method_7_code, 3, none)
def s_C_removeAllOf : Sig := (⟨"LimitBank$Claims", "removeAllOf", "(I)V"⟩, prog_2_method_8_code, 3, none)
def s_C_countOf : Sig := (⟨"LimitBank$Claims", "countOf", "(I)I"⟩, prog_2_method_9_code, 4, (some .int))
def s_C_firstWith : Sig := (⟨"LimitBank$Claims", "firstWith", "(II)I"⟩, prog_2_method_11_code, 4, (some .int))
def s_C_rowOf : Sig := (⟨"LimitBank$Claims", "rowOf", "(I)I"⟩, prog_2_method_10_code, 2, (some .int))
def s_L_init : Sig := (⟨"LimitBank$Ledger", "<init>", "()V"⟩, prog_4_method_1_code, 2, none)
def s_H_init : Sig := (⟨"LimitBank$History", "<init>", "()V"⟩, prog_3_method_1_code, 2, none)
def s_H_dropOldest : Sig := (⟨"LimitBank$History", "dropOldest", "()V"⟩, prog_3_method_4_code, 3, none)
def s_L_copyFrom : Sig := (⟨"LimitBank$Ledger", "copyFrom", "(LLimitBank$Ledger;)V"⟩, prog_4_method_2_code, 2, none)
def s_H_keep : Sig := (⟨"LimitBank$History", "keep", "(LLimitBank$Ledger;)V"⟩, prog_3_method_2_code, 2, none)
def s_H_restore : Sig := (⟨"LimitBank$History", "restore", "(LLimitBank$Ledger;)V"⟩, prog_3_method_3_code, 2, none)
def s_L_hasTenant : Sig := (⟨"LimitBank$Ledger", "hasTenant", "(I)Z"⟩, prog_4_method_3_code, 2, (some .boolean))
def s_B_isResource : Sig := (⟨"LimitBank", "isResource", "(I)Z"⟩, prog_1_method_38_code, 1, (some .boolean))
def s_L_priceOf : Sig := (⟨"LimitBank$Ledger", "priceOf", "(I)I"⟩, prog_4_method_4_code, 2, (some .int))
def s_B_slot : Sig := (⟨"LimitBank", "slot", "(II)I"⟩, prog_1_method_39_code, 2, (some .int))
def s_L_shareOf : Sig := (⟨"LimitBank$Ledger", "shareOf", "(I)I"⟩, prog_4_method_5_code, 5, (some .int))
def s_L_sumOverTenants : Sig := (⟨"LimitBank$Ledger", "sumOverTenants", "([II)I"⟩, prog_4_method_6_code, 5, (some .int))
def s_L_loansOf : Sig := (⟨"LimitBank$Ledger", "loansOf", "(I)I"⟩, prog_4_method_7_code, 4, (some .int))
def s_L_freePart : Sig := (⟨"LimitBank$Ledger", "freePart", "(II)I"⟩, prog_4_method_8_code, 4, (some .int))
def s_L_exchangeable : Sig := (⟨"LimitBank$Ledger", "exchangeable", "(II)I"⟩, prog_4_method_9_code, 4, (some .int))
def s_L_addToFund : Sig := (⟨"LimitBank$Ledger", "addToFund", "(II)V"⟩, prog_4_method_10_code, 3, none)
def s_L_giveBack : Sig := (⟨"LimitBank$Ledger", "giveBack", "(III)V"⟩, prog_4_method_11_code, 5, none)
def s_L_fits : Sig := (⟨"LimitBank$Ledger", "fits", "(I)Z"⟩, prog_4_method_13_code, 6, (some .boolean))
def s_L_nextDemand : Sig := (⟨"LimitBank$Ledger", "nextDemand", "()I"⟩, prog_4_method_12_code, 6, (some .int))
def s_L_addUse : Sig := (⟨"LimitBank$Ledger", "addUse", "(LLimitBank$Claims;II)V"⟩, prog_4_method_17_code, 7, none)
def s_L_serve : Sig := (⟨"LimitBank$Ledger", "serve", "(I)I"⟩, prog_4_method_14_code, 3, (some .int))
def s_L_serveAll : Sig := (⟨"LimitBank$Ledger", "serveAll", "([I)I"⟩, prog_4_method_15_code, 4, (some .int))
def s_L_endGrant : Sig := (⟨"LimitBank$Ledger", "endGrant", "(I)V"⟩, prog_4_method_16_code, 2, none)
def s_L_placeOf : Sig := (⟨"LimitBank$Ledger", "placeOf", "(I)I"⟩, prog_4_method_20_code, 3, (some .int))
def s_L_isBankrupt : Sig := (⟨"LimitBank$Ledger", "isBankrupt", "(I)Z"⟩, prog_4_method_18_code, 2, (some .boolean))
def s_L_isSolvent : Sig := (⟨"LimitBank$Ledger", "isSolvent", "(I)Z"⟩, prog_4_method_19_code, 2, (some .boolean))
def s_L_rentOf : Sig := (⟨"LimitBank$Ledger", "rentOf", "(I)I"⟩, prog_4_method_22_code, 4, (some .int))
def s_L_interestOn : Sig := (⟨"LimitBank$Ledger", "interestOn", "(I)I"⟩, prog_4_method_23_code, 1, (some .int))
def s_L_bankrupt : Sig := (⟨"LimitBank$Ledger", "bankrupt", "(I)V"⟩, prog_4_method_24_code, 4, none)
def s_L_redeemFirst : Sig := (⟨"LimitBank$Ledger", "redeemFirst", "()V"⟩, prog_4_method_25_code, 2, none)
def s_L_tick : Sig := (⟨"LimitBank$Ledger", "tick", "()V"⟩, prog_4_method_21_code, 2, none)
def s_V_init : Sig := (⟨"LimitBank$VectorText", "<init>", "()V"⟩, prog_5_method_1_code, 1, none)
def s_V_append : Sig := (⟨"LimitBank$VectorText", "append", "(I)Z"⟩, prog_5_method_2_code, 2, (some .boolean))
def s_V_hasUnits : Sig := (⟨"LimitBank$VectorText", "hasUnits", "()Z"⟩, prog_5_method_3_code, 2, (some .boolean))
def s_V_byteAt : Sig := (⟨"LimitBank$VectorText", "byteAt", "(I)I"⟩, prog_5_method_5_code, 2, (some .int))
def s_V_afterBlanks : Sig := (⟨"LimitBank$VectorText", "afterBlanks", "(I)I"⟩, prog_5_method_7_code, 3, (some .int))
def s_V_afterLetters : Sig := (⟨"LimitBank$VectorText", "afterLetters", "(I)I"⟩, prog_5_method_8_code, 3, (some .int))
def s_V_nameOf : Sig := (⟨"LimitBank$VectorText", "nameOf", "(I)Ljava/lang/String;"⟩, prog_5_method_12_code, 1, (some (.object "java/lang/String")))
def s_S_coder : Sig := (⟨"java/lang/String", "coder", "()B"⟩, prog_9_method_152_code, 1, (some .byte))
def s_S_length : Sig := (⟨"java/lang/String", "length", "()I"⟩, prog_9_method_54_code, 1, (some .int))
def s_S_isLatin1 : Sig := (⟨"java/lang/String", "isLatin1", "()Z"⟩, prog_9_method_154_code, 1, (some .boolean))
def s_P_checkIndex : Sig := (⟨"jdk/internal/util/Preconditions", "checkIndex", "(IILjava/util/function/BiFunction;)I"⟩, prog_13_method_11_code, 3, (some .int))
def s_S_checkIndex : Sig := (⟨"java/lang/String", "checkIndex", "(II)V"⟩, prog_9_method_155_code, 2, none)
def s_S1_charAt : Sig := (⟨"java/lang/StringLatin1", "charAt", "([BI)C"⟩, prog_10_method_2_code, 2, (some .char))
def s_S_charAt : Sig := (⟨"java/lang/String", "charAt", "(I)C"⟩, prog_9_method_56_code, 2, (some .char))
def s_V_isBetween : Sig := (⟨"LimitBank$VectorText", "isBetween", "(Ljava/lang/String;II)Z"⟩, prog_5_method_11_code, 5, (some .boolean))
def s_V_nameBetween : Sig := (⟨"LimitBank$VectorText", "nameBetween", "(II)I"⟩, prog_5_method_10_code, 4, (some .int))
def s_V_isDigit : Sig := (⟨"LimitBank$VectorText", "isDigit", "(I)Z"⟩, prog_5_method_6_code, 2, (some .boolean))
def s_V_numberBetween : Sig := (⟨"LimitBank$VectorText", "numberBetween", "(II)I"⟩, prog_5_method_9_code, 5, (some .int))
def s_V_read : Sig := (⟨"LimitBank$VectorText", "read", "()I"⟩, prog_5_method_4_code, 6, (some .int))
def s_B_init : Sig := (⟨"LimitBank", "<init>", "()V"⟩, prog_1_method_1_code, 1, none)
def s_B_type : Sig := (⟨"LimitBank", "type", "(I)I"⟩, prog_1_method_2_code, 2, (some .int))
def s_B_clearText : Sig := (⟨"LimitBank", "clearText", "()I"⟩, prog_1_method_3_code, 2, (some .int))
def s_B_fault : Sig := (⟨"LimitBank", "fault", "()I"⟩, prog_1_method_4_code, 1, (some .int))
def s_B_setResource : Sig := (⟨"LimitBank", "setResource", "(IZI)I"⟩, prog_1_method_5_code, 6, (some .int))
def s_B_setRest : Sig := (⟨"LimitBank", "setRest", "(I)I"⟩, prog_1_method_6_code, 3, (some .int))
def s_B_addTenant : Sig := (⟨"LimitBank", "addTenant", "(I)I"⟩, prog_1_method_7_code, 3, (some .int))
def s_B_setWeight : Sig := (⟨"LimitBank", "setWeight", "(II)I"⟩, prog_1_method_8_code, 4, (some .int))
def s_B_setLimit : Sig := (⟨"LimitBank", "setLimit", "(III)I"⟩, prog_1_method_9_code, 6, (some .int))
def s_B_demand : Sig := (⟨"LimitBank", "demand", "(I)I"⟩, prog_1_method_10_code, 2, (some .int))
def s_B_withdraw : Sig := (⟨"LimitBank", "withdraw", "(I)I"⟩, prog_1_method_11_code, 3, (some .int))
def s_B_grant : Sig := (⟨"LimitBank", "grant", "()I"⟩, prog_1_method_12_code, 2, (some .int))
def s_B_grantAll : Sig := (⟨"LimitBank", "grantAll", "()I"⟩, prog_1_method_13_code, 1, (some .int))
def s_B_release : Sig := (⟨"LimitBank", "release", "(I)I"⟩, prog_1_method_14_code, 3, (some .int))
def s_B_converted : Sig := (⟨"LimitBank", "converted", "(III)I"⟩, prog_1_method_40_code, 3, (some .int))
def s_B_exchange : Sig := (⟨"LimitBank", "exchange", "(IIII)I"⟩, prog_1_method_15_code, 7, (some .int))
def s_B_borrow : Sig := (⟨"LimitBank", "borrow", "(III)I"⟩, prog_1_method_16_code, 5, (some .int))
def s_B_repay : Sig := (⟨"LimitBank", "repay", "(III)I"⟩, prog_1_method_17_code, 5, (some .int))
def s_B_pass : Sig := (⟨"LimitBank", "pass", "(I)I"⟩, prog_1_method_18_code, 3, (some .int))
def s_B_undo : Sig := (⟨"LimitBank", "undo", "()I"⟩, prog_1_method_19_code, 1, (some .int))
def s_B_resource : Sig := (⟨"LimitBank", "resource", "(II)I"⟩, prog_1_method_20_code, 3, (some .int))
def s_B_tenant : Sig := (⟨"LimitBank", "tenant", "(II)I"⟩, prog_1_method_21_code, 3, (some .int))
def s_B_account : Sig := (⟨"LimitBank", "account", "(III)I"⟩, prog_1_method_22_code, 5, (some .int))
def s_B_granted : Sig := (⟨"LimitBank", "granted", "(II)I"⟩, prog_1_method_23_code, 3, (some .int))
def s_B_demanded : Sig := (⟨"LimitBank", "demanded", "(II)I"⟩, prog_1_method_24_code, 3, (some .int))
def s_B_makePlan : Sig := (⟨"LimitBank", "makePlan", "()I"⟩, prog_1_method_34_code, 1, (some .int))
def s_B_plan : Sig := (⟨"LimitBank", "plan", "(I)I"⟩, prog_1_method_25_code, 3, (some .int))
def s_B_worth : Sig := (⟨"LimitBank", "worth", "(II)I"⟩, prog_1_method_26_code, 6, (some .int))
def s_B_noteRuins : Sig := (⟨"LimitBank", "noteRuins", "(I)I"⟩, prog_1_method_36_code, 4, (some .int))
def s_B_foretellRuins : Sig := (⟨"LimitBank", "foretellRuins", "()V"⟩, prog_1_method_35_code, 3, none)
def s_B_ruin : Sig := (⟨"LimitBank", "ruin", "(I)I"⟩, prog_1_method_27_code, 2, (some .int))
def s_B_count : Sig := (⟨"LimitBank", "count", "(I)I"⟩, prog_1_method_28_code, 2, (some .int))
def s_B_withTenant : Sig := (⟨"LimitBank", "withTenant", "(JI)J"⟩, prog_1_method_30_code, 8, (some .long))
def s_B_withClaims : Sig := (⟨"LimitBank", "withClaims", "(JLLimitBank$Claims;Z)J"⟩, prog_1_method_31_code, 8, (some .long))
def s_B_withPlan : Sig := (⟨"LimitBank", "withPlan", "(J)J"⟩, prog_1_method_32_code, 7, (some .long))
def s_B_withText : Sig := (⟨"LimitBank", "withText", "(J)J"⟩, prog_1_method_33_code, 6, (some .long))
def s_B_digest : Sig := (⟨"LimitBank", "digest", "()J"⟩, prog_1_method_29_code, 5, (some .long))
def s_M_init : Sig := (⟨"LimitBankModel", "<init>", "()V"⟩, prog_7_method_1_code, 1, none)
def s_M_in : Sig := (⟨"LimitBankModel", "in", "(III)Z"⟩, prog_7_method_2_code, 3, (some .boolean))
def s_M_least : Sig := (⟨"LimitBankModel", "least", "(II)I"⟩, prog_7_method_3_code, 2, (some .int))
def s_M_isResource : Sig := (⟨"LimitBankModel", "isResource", "(I)Z"⟩, prog_7_method_4_code, 1, (some .boolean))
def s_M_isTenant : Sig := (⟨"LimitBankModel", "isTenant", "(I)Z"⟩, prog_7_method_5_code, 2, (some .boolean))
def s_M_of : Sig := (⟨"LimitBankModel", "of", "(II)I"⟩, prog_7_method_6_code, 3, (some .int))
def s_M_adds : Sig := (⟨"LimitBankModel", "adds", "(III)V"⟩, prog_7_method_7_code, 4, none)
def s_M_keeps : Sig := (⟨"LimitBankModel", "keeps", "()V"⟩, prog_7_method_8_code, 2, none)
def s_M_undo : Sig := (⟨"LimitBankModel", "undo", "()I"⟩, prog_7_method_9_code, 2, (some .int))
def s_M_keepsAside : Sig := (⟨"LimitBankModel", "keepsAside", "()V"⟩, prog_7_method_10_code, 2, none)
def s_M_returns : Sig := (⟨"LimitBankModel", "returns", "()V"⟩, prog_7_method_11_code, 2, none)
def s_M_type : Sig := (⟨"LimitBankModel", "type", "(I)I"⟩, prog_7_method_12_code, 2, (some .int))
def s_M_clearText : Sig := (⟨"LimitBankModel", "clearText", "()I"⟩, prog_7_method_13_code, 2, (some .int))
def s_M_next : Sig := (⟨"LimitBankModel", "next", "()I"⟩, prog_7_method_14_code, 1, (some .int))
def s_M_blanks : Sig := (⟨"LimitBankModel", "blanks", "()V"⟩, prog_7_method_15_code, 1, none)
def s_M_fails : Sig := (⟨"LimitBankModel", "fails", "(I)V"⟩, prog_7_method_16_code, 2, none)
def s_M_isDigit : Sig := (⟨"LimitBankModel", "isDigit", "()Z"⟩, prog_7_method_17_code, 1, (some .boolean))
def s_M_isWord : Sig := (⟨"LimitBankModel", "isWord", "(III)Z"⟩, prog_7_method_18_code, 6, (some .boolean))
def s_M_name : Sig := (⟨"LimitBankModel", "name", "()I"⟩, prog_7_method_19_code, 2, (some .int))
def s_M_reads : Sig := (⟨"LimitBankModel", "reads", "()V"⟩, prog_7_method_20_code, 5, none)
def s_M_fault : Sig := (⟨"LimitBankModel", "fault", "()I"⟩, prog_7_method_21_code, 1, (some .int))
def s_M_grantOf : Sig := (⟨"LimitBankModel", "grantOf", "(II)I"⟩, prog_7_method_22_code, 3, (some .int))
def s_M_demandOf : Sig := (⟨"LimitBankModel", "demandOf", "(II)I"⟩, prog_7_method_23_code, 3, (some .int))
def s_M_use : Sig := (⟨"LimitBankModel", "use", "(II)I"⟩, prog_7_method_24_code, 5, (some .int))
def s_M_price : Sig := (⟨"LimitBankModel", "price", "(I)I"⟩, prog_7_method_25_code, 2, (some .int))
def s_M_share : Sig := (⟨"LimitBankModel", "share", "(I)I"⟩, prog_7_method_26_code, 5, (some .int))
def s_M_free : Sig := (⟨"LimitBankModel", "free", "(II)I"⟩, prog_7_method_27_code, 3, (some .int))
def s_M_setResource : Sig := (⟨"LimitBankModel", "setResource", "(IZI)I"⟩, prog_7_method_28_code, 6, (some .int))
def s_M_setRest : Sig := (⟨"LimitBankModel", "setRest", "(I)I"⟩, prog_7_method_29_code, 3, (some .int))
def s_M_addTenant : Sig := (⟨"LimitBankModel", "addTenant", "(I)I"⟩, prog_7_method_30_code, 4, (some .int))
def s_M_setWeight : Sig := (⟨"LimitBankModel", "setWeight", "(II)I"⟩, prog_7_method_31_code, 4, (some .int))
def s_M_setLimit : Sig := (⟨"LimitBankModel", "setLimit", "(III)I"⟩, prog_7_method_32_code, 5, (some .int))
def s_M_demand : Sig := (⟨"LimitBankModel", "demand", "(I)I"⟩, prog_7_method_33_code, 4, (some .int))
def s_M_firstOf : Sig := (⟨"LimitBankModel", "firstOf", "(I)I"⟩, prog_7_method_34_code, 3, (some .int))
def s_M_leavesDemand : Sig := (⟨"LimitBankModel", "leavesDemand", "(I)V"⟩, prog_7_method_35_code, 3, none)
def s_M_leavesGrant : Sig := (⟨"LimitBankModel", "leavesGrant", "(I)V"⟩, prog_7_method_36_code, 3, none)
def s_M_withdraw : Sig := (⟨"LimitBankModel", "withdraw", "(I)I"⟩, prog_7_method_37_code, 3, (some .int))
def s_M_fits : Sig := (⟨"LimitBankModel", "fits", "(I)Z"⟩, prog_7_method_38_code, 5, (some .boolean))
def s_M_nextDemand : Sig := (⟨"LimitBankModel", "nextDemand", "()I"⟩, prog_7_method_39_code, 5, (some .int))
def s_M_grants : Sig := (⟨"LimitBankModel", "grants", "(I)I"⟩, prog_7_method_40_code, 5, (some .int))
def s_M_grant : Sig := (⟨"LimitBankModel", "grant", "()I"⟩, prog_7_method_41_code, 2, (some .int))
def s_M_grantAll : Sig := (⟨"LimitBankModel", "grantAll", "()I"⟩, prog_7_method_42_code, 3, (some .int))
def s_M_placeOf : Sig := (⟨"LimitBankModel", "placeOf", "(I)I"⟩, prog_7_method_43_code, 3, (some .int))
def s_M_release : Sig := (⟨"LimitBankModel", "release", "(I)I"⟩, prog_7_method_44_code, 3, (some .int))
def s_M_comesToFund : Sig := (⟨"LimitBankModel", "comesToFund", "(II)V"⟩, prog_7_method_45_code, 3, none)
def s_M_exchange : Sig := (⟨"LimitBankModel", "exchange", "(IIII)I"⟩, prog_7_method_46_code, 7, (some .int))
def s_M_loans : Sig := (⟨"LimitBankModel", "loans", "(I)I"⟩, prog_7_method_47_code, 4, (some .int))
def s_M_borrow : Sig := (⟨"LimitBankModel", "borrow", "(III)I"⟩, prog_7_method_48_code, 4, (some .int))
def s_M_repay : Sig := (⟨"LimitBankModel", "repay", "(III)I"⟩, prog_7_method_49_code, 4, (some .int))
def s_M_goesBankrupt : Sig := (⟨"LimitBankModel", "goesBankrupt", "(I)V"⟩, prog_7_method_50_code, 4, none)
def s_M_tick : Sig := (⟨"LimitBankModel", "tick", "()V"⟩, prog_7_method_51_code, 4, none)
def s_M_pass : Sig := (⟨"LimitBankModel", "pass", "(I)I"⟩, prog_7_method_52_code, 3, (some .int))
def s_M_sums : Sig := (⟨"LimitBankModel", "sums", "(II)I"⟩, prog_7_method_53_code, 5, (some .int))
def s_M_resource : Sig := (⟨"LimitBankModel", "resource", "(II)I"⟩, prog_7_method_54_code, 3, (some .int))
def s_M_grantsOf : Sig := (⟨"LimitBankModel", "grantsOf", "(I)I"⟩, prog_7_method_55_code, 4, (some .int))
def s_M_demandsOf : Sig := (⟨"LimitBankModel", "demandsOf", "(I)I"⟩, prog_7_method_56_code, 4, (some .int))
def s_M_placeInQueue : Sig := (⟨"LimitBankModel", "placeInQueue", "(I)I"⟩, prog_7_method_57_code, 3, (some .int))
def s_M_tenant : Sig := (⟨"LimitBankModel", "tenant", "(II)I"⟩, prog_7_method_58_code, 3, (some .int))
def s_M_account : Sig := (⟨"LimitBankModel", "account", "(III)I"⟩, prog_7_method_59_code, 4, (some .int))
def s_M_granted : Sig := (⟨"LimitBankModel", "granted", "(II)I"⟩, prog_7_method_60_code, 4, (some .int))
def s_M_demanded : Sig := (⟨"LimitBankModel", "demanded", "(II)I"⟩, prog_7_method_61_code, 3, (some .int))
def s_M_plans : Sig := (⟨"LimitBankModel", "plans", "()I"⟩, prog_7_method_62_code, 3, (some .int))
def s_M_plan : Sig := (⟨"LimitBankModel", "plan", "(I)I"⟩, prog_7_method_63_code, 3, (some .int))
def s_M_worthOf : Sig := (⟨"LimitBankModel", "worthOf", "(II)I"⟩, prog_7_method_64_code, 6, (some .int))
def s_M_worth : Sig := (⟨"LimitBankModel", "worth", "(II)I"⟩, prog_7_method_65_code, 3, (some .int))
def s_M_hasFailed : Sig := (⟨"LimitBankModel", "hasFailed", "(I)Z"⟩, prog_7_method_67_code, 2, (some .boolean))
def s_M_ruinOf : Sig := (⟨"LimitBankModel", "ruinOf", "(I)I"⟩, prog_7_method_66_code, 4, (some .int))
def s_M_ruin : Sig := (⟨"LimitBankModel", "ruin", "(I)I"⟩, prog_7_method_68_code, 2, (some .int))
def s_M_count : Sig := (⟨"LimitBankModel", "count", "(I)I"⟩, prog_7_method_69_code, 2, (some .int))
def s_M_mixes : Sig := (⟨"LimitBankModel", "mixes", "(I)V"⟩, prog_7_method_70_code, 2, none)
def s_M_mixesTenant : Sig := (⟨"LimitBankModel", "mixesTenant", "(I)V"⟩, prog_7_method_71_code, 4, none)
def s_M_digest : Sig := (⟨"LimitBankModel", "digest", "()J"⟩, prog_7_method_72_code, 3, (some .long))
def sgl : List Sig := [s_C_init, s_B_copy, s_C_copyRows, s_C_isFull, s_B_within, s_C_cell, s_C_add, s_C_addRowOf, s_C_remove, s_C_removeAllOf, s_C_countOf, s_C_firstWith, s_C_rowOf, s_L_init, s_H_init, s_H_dropOldest, s_L_copyFrom, s_H_keep, s_H_restore, s_L_hasTenant, s_B_isResource, s_L_priceOf, s_B_slot, s_L_shareOf, s_L_sumOverTenants, s_L_loansOf, s_L_freePart, s_L_exchangeable, s_L_addToFund, s_L_giveBack, s_L_fits, s_L_nextDemand, s_L_addUse, s_L_serve, s_L_serveAll, s_L_endGrant, s_L_placeOf, s_L_isBankrupt, s_L_isSolvent, s_L_rentOf, s_L_interestOn, s_L_bankrupt, s_L_redeemFirst, s_L_tick, s_V_init, s_V_append, s_V_hasUnits, s_V_byteAt, s_V_afterBlanks, s_V_afterLetters, s_V_nameOf, s_S_coder, s_S_length, s_S_isLatin1, s_P_checkIndex, s_S_checkIndex, s_S1_charAt, s_S_charAt, s_V_isBetween, s_V_nameBetween, s_V_isDigit, s_V_numberBetween, s_V_read, s_B_init, s_B_type, s_B_clearText, s_B_fault, s_B_setResource, s_B_setRest, s_B_addTenant, s_B_setWeight, s_B_setLimit, s_B_demand, s_B_withdraw, s_B_grant, s_B_grantAll, s_B_release, s_B_converted, s_B_exchange, s_B_borrow, s_B_repay, s_B_pass, s_B_undo, s_B_resource, s_B_tenant, s_B_account, s_B_granted, s_B_demanded, s_B_makePlan, s_B_plan, s_B_worth, s_B_noteRuins, s_B_foretellRuins, s_B_ruin, s_B_count, s_B_withTenant, s_B_withClaims, s_B_withPlan, s_B_withText, s_B_digest, s_M_init, s_M_in, s_M_least, s_M_isResource, s_M_isTenant, s_M_of, s_M_adds, s_M_keeps, s_M_undo, s_M_keepsAside, s_M_returns, s_M_type, s_M_clearText, s_M_next, s_M_blanks, s_M_fails, s_M_isDigit, s_M_isWord, s_M_name, s_M_reads, s_M_fault, s_M_grantOf, s_M_demandOf, s_M_use, s_M_price, s_M_share, s_M_free, s_M_setResource, s_M_setRest, s_M_addTenant, s_M_setWeight, s_M_setLimit, s_M_demand, s_M_firstOf, s_M_leavesDemand, s_M_leavesGrant, s_M_withdraw, s_M_fits, s_M_nextDemand, s_M_grants, s_M_grant, s_M_grantAll, s_M_placeOf, s_M_release, s_M_comesToFund, s_M_exchange, s_M_loans, s_M_borrow, s_M_repay, s_M_goesBankrupt, s_M_tick, s_M_pass, s_M_sums, s_M_resource, s_M_grantsOf, s_M_demandsOf, s_M_placeInQueue, s_M_tenant, s_M_account, s_M_granted, s_M_demanded, s_M_plans, s_M_plan, s_M_worthOf, s_M_worth, s_M_hasFailed, s_M_ruinOf, s_M_ruin, s_M_count, s_M_mixes, s_M_mixesTenant, s_M_digest]
def sgt (k : Nat) : Sig := sgl.getD k s_C_init
abbrev i_C_init : Nat := 0
abbrev i_B_copy : Nat := 1
abbrev i_C_copyRows : Nat := 2
abbrev i_C_isFull : Nat := 3
abbrev i_B_within : Nat := 4
abbrev i_C_cell : Nat := 5
abbrev i_C_add : Nat := 6
abbrev i_C_addRowOf : Nat := 7
abbrev i_C_remove : Nat := 8
abbrev i_C_removeAllOf : Nat := 9
abbrev i_C_countOf : Nat := 10
abbrev i_C_firstWith : Nat := 11
abbrev i_C_rowOf : Nat := 12
abbrev i_L_init : Nat := 13
abbrev i_H_init : Nat := 14
abbrev i_H_dropOldest : Nat := 15
abbrev i_L_copyFrom : Nat := 16
abbrev i_H_keep : Nat := 17
abbrev i_H_restore : Nat := 18
abbrev i_L_hasTenant : Nat := 19
abbrev i_B_isResource : Nat := 20
abbrev i_L_priceOf : Nat := 21
abbrev i_B_slot : Nat := 22
abbrev i_L_shareOf : Nat := 23
abbrev i_L_sumOverTenants : Nat := 24
abbrev i_L_loansOf : Nat := 25
abbrev i_L_freePart : Nat := 26
abbrev i_L_exchangeable : Nat := 27
abbrev i_L_addToFund : Nat := 28
abbrev i_L_giveBack : Nat := 29
abbrev i_L_fits : Nat := 30
abbrev i_L_nextDemand : Nat := 31
abbrev i_L_addUse : Nat := 32
abbrev i_L_serve : Nat := 33
abbrev i_L_serveAll : Nat := 34
abbrev i_L_endGrant : Nat := 35
abbrev i_L_placeOf : Nat := 36
abbrev i_L_isBankrupt : Nat := 37
abbrev i_L_isSolvent : Nat := 38
abbrev i_L_rentOf : Nat := 39
abbrev i_L_interestOn : Nat := 40
abbrev i_L_bankrupt : Nat := 41
abbrev i_L_redeemFirst : Nat := 42
abbrev i_L_tick : Nat := 43
abbrev i_V_init : Nat := 44
abbrev i_V_append : Nat := 45
abbrev i_V_hasUnits : Nat := 46
abbrev i_V_byteAt : Nat := 47
abbrev i_V_afterBlanks : Nat := 48
abbrev i_V_afterLetters : Nat := 49
abbrev i_V_nameOf : Nat := 50
abbrev i_S_coder : Nat := 51
abbrev i_S_length : Nat := 52
abbrev i_S_isLatin1 : Nat := 53
abbrev i_P_checkIndex : Nat := 54
abbrev i_S_checkIndex : Nat := 55
abbrev i_S1_charAt : Nat := 56
abbrev i_S_charAt : Nat := 57
abbrev i_V_isBetween : Nat := 58
abbrev i_V_nameBetween : Nat := 59
abbrev i_V_isDigit : Nat := 60
abbrev i_V_numberBetween : Nat := 61
abbrev i_V_read : Nat := 62
abbrev i_B_init : Nat := 63
abbrev i_B_type : Nat := 64
abbrev i_B_clearText : Nat := 65
abbrev i_B_fault : Nat := 66
abbrev i_B_setResource : Nat := 67
abbrev i_B_setRest : Nat := 68
abbrev i_B_addTenant : Nat := 69
abbrev i_B_setWeight : Nat := 70
abbrev i_B_setLimit : Nat := 71
abbrev i_B_demand : Nat := 72
abbrev i_B_withdraw : Nat := 73
abbrev i_B_grant : Nat := 74
abbrev i_B_grantAll : Nat := 75
abbrev i_B_release : Nat := 76
abbrev i_B_converted : Nat := 77
abbrev i_B_exchange : Nat := 78
abbrev i_B_borrow : Nat := 79
abbrev i_B_repay : Nat := 80
abbrev i_B_pass : Nat := 81
abbrev i_B_undo : Nat := 82
abbrev i_B_resource : Nat := 83
abbrev i_B_tenant : Nat := 84
abbrev i_B_account : Nat := 85
abbrev i_B_granted : Nat := 86
abbrev i_B_demanded : Nat := 87
abbrev i_B_makePlan : Nat := 88
abbrev i_B_plan : Nat := 89
abbrev i_B_worth : Nat := 90
abbrev i_B_noteRuins : Nat := 91
abbrev i_B_foretellRuins : Nat := 92
abbrev i_B_ruin : Nat := 93
abbrev i_B_count : Nat := 94
abbrev i_B_withTenant : Nat := 95
abbrev i_B_withClaims : Nat := 96
abbrev i_B_withPlan : Nat := 97
abbrev i_B_withText : Nat := 98
abbrev i_B_digest : Nat := 99
abbrev i_M_init : Nat := 100
abbrev i_M_in : Nat := 101
abbrev i_M_least : Nat := 102
abbrev i_M_isResource : Nat := 103
abbrev i_M_isTenant : Nat := 104
abbrev i_M_of : Nat := 105
abbrev i_M_adds : Nat := 106
abbrev i_M_keeps : Nat := 107
abbrev i_M_undo : Nat := 108
abbrev i_M_keepsAside : Nat := 109
abbrev i_M_returns : Nat := 110
abbrev i_M_type : Nat := 111
abbrev i_M_clearText : Nat := 112
abbrev i_M_next : Nat := 113
abbrev i_M_blanks : Nat := 114
abbrev i_M_fails : Nat := 115
abbrev i_M_isDigit : Nat := 116
abbrev i_M_isWord : Nat := 117
abbrev i_M_name : Nat := 118
abbrev i_M_reads : Nat := 119
abbrev i_M_fault : Nat := 120
abbrev i_M_grantOf : Nat := 121
abbrev i_M_demandOf : Nat := 122
abbrev i_M_use : Nat := 123
abbrev i_M_price : Nat := 124
abbrev i_M_share : Nat := 125
abbrev i_M_free : Nat := 126
abbrev i_M_setResource : Nat := 127
abbrev i_M_setRest : Nat := 128
abbrev i_M_addTenant : Nat := 129
abbrev i_M_setWeight : Nat := 130
abbrev i_M_setLimit : Nat := 131
abbrev i_M_demand : Nat := 132
abbrev i_M_firstOf : Nat := 133
abbrev i_M_leavesDemand : Nat := 134
abbrev i_M_leavesGrant : Nat := 135
abbrev i_M_withdraw : Nat := 136
abbrev i_M_fits : Nat := 137
abbrev i_M_nextDemand : Nat := 138
abbrev i_M_grants : Nat := 139
abbrev i_M_grant : Nat := 140
abbrev i_M_grantAll : Nat := 141
abbrev i_M_placeOf : Nat := 142
abbrev i_M_release : Nat := 143
abbrev i_M_comesToFund : Nat := 144
abbrev i_M_exchange : Nat := 145
abbrev i_M_loans : Nat := 146
abbrev i_M_borrow : Nat := 147
abbrev i_M_repay : Nat := 148
abbrev i_M_goesBankrupt : Nat := 149
abbrev i_M_tick : Nat := 150
abbrev i_M_pass : Nat := 151
abbrev i_M_sums : Nat := 152
abbrev i_M_resource : Nat := 153
abbrev i_M_grantsOf : Nat := 154
abbrev i_M_demandsOf : Nat := 155
abbrev i_M_placeInQueue : Nat := 156
abbrev i_M_tenant : Nat := 157
abbrev i_M_account : Nat := 158
abbrev i_M_granted : Nat := 159
abbrev i_M_demanded : Nat := 160
abbrev i_M_plans : Nat := 161
abbrev i_M_plan : Nat := 162
abbrev i_M_worthOf : Nat := 163
abbrev i_M_worth : Nat := 164
abbrev i_M_hasFailed : Nat := 165
abbrev i_M_ruinOf : Nat := 166
abbrev i_M_ruin : Nat := 167
abbrev i_M_count : Nat := 168
abbrev i_M_mixes : Nat := 169
abbrev i_M_mixesTenant : Nat := 170
abbrev i_M_digest : Nat := 171
def s_law : Sig := (⟨"LimitBankLaw", "law", "([I)Z"⟩, code, 4, some .boolean)
end
section
/-! ===== what is computed is sound ===== -/
def iF (own : String) (ix a b : Nat) : Cond := .fieldLink own ix (cT a b).1 (cT a b).2.1 (cT a b).2.2.1
def wI (own : String) (x : Ins) : List Cond := match x with
  | (g, o, a, b, v, tl) => match g with
    | 0 => match o with
      | 0 => match b with
        | 0 => []
        | 1 => []
        | 2 => []
        | _ => [.constant own a v]
      | 1 => [.constantLong own a 31]
      | 5 => [.constantLong own a 113]
      | 3 => [.fieldLink own a "java/lang/String" "COMPACT_STRINGS" "Z"]
      | 4 => [.fieldLink own a "jdk/internal/util/Preconditions" "SIOOBE_FORMATTER" "Ljava/util/function/BiFunction;"]
      | _ => []
    | 8 => match o with
      | 0 => [iF own (tl.getD 0 0) a b]
      | 1 => [iF own (tl.getD 0 0) a b]
      | 2 => [iF own (tl.getD 0 0) a b]
      | 3 => [iF own (tl.getD 0 0) a b]
      | 7 => [.fieldLink own (tl.getD 0 0) "java/lang/String" "value" "[B"]
      | 8 => [.fieldLink own (tl.getD 0 0) "java/lang/String" "coder" "B"]
      | _ => []
    | 10 => match o with
      | 0 => [iF own (tl.getD 0 0) a b]
      | 1 => [iF own (tl.getD 0 0) a b]
      | 2 => [iF own (tl.getD 0 0) a b]
      | 3 => [iF own (tl.getD 0 0) a b]
      | 6 => [.classLink own (tl.getD 0 0) (cnm a), .instantiable (cnm a) (cW a), .initialized (cnm a)]
      | 7 => [.arrayClass .int]
      | 8 => [.classLink own (tl.getD 0 0) RX2]
      | _ => []
    | 11 => match o with
      | 0 => [.methodLink own (tl.getD 0 0) (sgt b).1, .instanceMethod (sgt b).1, .selects (sgt b).1.cls (sgt b).1 (sgt b).1, .initialized (sgt b).1.cls, .code (sgt b).1 (sgt b).2.1 (sgt b).2.2.1 (sgt b).2.2.2]
      | 3 => [.methodLink own (tl.getD 0 0) (sgt b).1, .instanceMethod (sgt b).1, .selects (sgt b).1.cls (sgt b).1 (sgt b).1, .initialized (sgt b).1.cls, .code (sgt b).1 (sgt b).2.1 (sgt b).2.2.1 (sgt b).2.2.2]
      | 1 => [.methodLink own (tl.getD 0 0) (sgt b).1, .static (sgt b).1, .initialized (sgt b).1.cls, .code (sgt b).1 (sgt b).2.1 (sgt b).2.2.1 (sgt b).2.2.2]
      | 2 => [.static (sgt b).1, .initialized (sgt b).1.cls, .code (sgt b).1 (sgt b).2.1 (sgt b).2.2.1 (sgt b).2.2.2]
      | 4 => [.methodLink own (tl.getD 0 0) (sgt b).1, .instanceMethod (sgt b).1, .initialized (sgt b).1.cls, .code (sgt b).1 (sgt b).2.1 (sgt b).2.2.1 (sgt b).2.2.2]
      | 5 => [.instanceMethod (sgt b).1, .initialized (sgt b).1.cls, .code (sgt b).1 (sgt b).2.1 (sgt b).2.2.1 (sgt b).2.2.2]
      | _ => []
    | 12 => match o with
      | 0 => [.methodLink own (tl.getD 0 0) Lib.Math.max.name, .static Lib.Math.max.name, .initialized "java/lang/Math", .code Lib.Math.max.name Lib.Math.max.code 2 (some .int)]
      | 1 => [.methodLink own (tl.getD 0 0) Lib.Math.min.name, .static Lib.Math.min.name, .initialized "java/lang/Math", .code Lib.Math.min.name Lib.Math.min.code 2 (some .int)]
      | 2 => [.methodLink own (tl.getD 0 0) arraycopyName, .native arraycopyName, .static arraycopyName, .initialized "java/lang/System"]
      | _ => [.methodLink own (tl.getD 0 0) Lib.objectInit, .instanceMethod Lib.objectInit, .code Lib.objectInit ⟨#[0xb1]⟩ 1 none]
    | _ => []
/-- the nest mates' links -/
def nI_ (own : String) (x : Ins) : List (String × Nat × MethodName × String) := match x with
  | (g, o, _, b, _, tl) => match g with
    | 11 => match o with
      | 2 => [(own, tl.getD 0 0, (sgt b).1, "LimitBank")]
      | 5 => [(own, tl.getD 0 0, (sgt b).1, "LimitBank")]
      | _ => []
    | _ => []
def npar (k : Nat) : Option Nat := (parseMethodDescriptor (sgt k).1.desc).map (fun d => d.parameters.length)
def okN (k : Nat) : Bool := decide ((sgt k).2.2.1 ≤ 17) && decide ((sgt k).1.cls ≠ "java/lang/invoke/MethodHandle") && decide ((sgt k).1.cls ≠ "java/lang/invoke/VarHandle")
/-- what else an instruction needs, decided -/
def sB (sg : Sig) (x : Ins) : Bool := match x with
  | (g, o, a, b, v, tl) => match g with
    | 0 => match o with
      | 0 => match b with
        | 0 => true
        | 1 => decide ((Int8.ofInt v.toInt).toInt32 = v)
        | 2 => decide ((Int16.ofInt v.toInt).toInt32 = v)
        | _ => true
      | 2 => decide (a < 4) && decide (sg.1.cls = RX3)
      | _ => true
    | 1 => match o with
      | 3 => decide (a < sg.2.2.1)
      | 4 => decide (a < sg.2.2.1)
      | 5 => decide (a + 1 < sg.2.2.1)
      | 6 => decide (a < sg.2.2.1)
      | _ => true
    | 6 => match o with
      | 0 => true
      | _ => decide (tl.length < 1000)
    | 8 => match o with
      | 0 => decide (a < 6 ∧ b < cW a ∧ fk a b = 0)
      | 1 => decide (a < 6 ∧ b < cW a ∧ fk a b = 1)
      | 2 => decide (a < 6 ∧ b < cW a ∧ fk a b = 2)
      | 3 => decide (a < 6 ∧ b < cW a ∧ fk a b = 3)
      | _ => true
    | 9 => match o with
      | 0 => decide (sg.2.2.2 = some .int)
      | 1 => decide (sg.2.2.2 = some .boolean)
      | 2 => decide (sg.2.2.2 = some .char ∨ sg.2.2.2 = some .byte)
      | 3 => decide (sg.2.2.2 = some .long)
      | 4 => decide (sg.2.2.2 = some (.object "java/lang/String"))
      | _ => decide (sg.2.2.2 = none)
    | 10 => match o with
      | 0 => decide (a < 6 ∧ b < cW a ∧ fk a b = 0 ∧ (cT a b).2.2.2 = false ∧ cty a b = .int)
      | 1 => decide (a < 6 ∧ b < cW a ∧ fk a b = 1 ∧ (cT a b).2.2.2 = true ∧ sg.1.name = "<init>" ∧ (cT a b).1 = sg.1.cls)
      | 2 => decide (a < 6 ∧ b < cW a ∧ fk a b = 2 ∧ (cT a b).2.2.2 = true ∧ sg.1.name = "<init>" ∧ (cT a b).1 = sg.1.cls)
      | 3 => decide (a = 5 ∧ b = 10)
      | 6 => decide (a < 6)
      | _ => true
    | 11 => match o with
      | 0 => okN b && decide (a < 6) && decide ((sgt b).1.cls = cnm a) && decide (0 < tl.getD 1 0) && decide (npar b = some (tl.getD 1 0 - 1))
      | 3 => okN b && decide ((sgt b).1.cls = "java/lang/String") && decide (0 < tl.getD 1 0) && decide (npar b = some (tl.getD 1 0 - 1))
      | 1 => okN b && decide (npar b = some (tl.getD 1 0))
      | 2 => okN b && decide (npar b = some (tl.getD 1 0))
      | 4 => okN b && decide ((sgt b).1.name = "<init>") && decide ((sgt b).2.2.2 = none) && decide (0 < tl.getD 1 0) && decide (npar b = some (tl.getD 1 0 - 1))
      | 5 => okN b && decide ((sgt b).1.name = "<init>") && decide ((sgt b).2.2.2 = none) && decide (0 < tl.getD 1 0) && decide (npar b = some (tl.getD 1 0 - 1))
      | _ => false
    | _ => true
def okB (sg : Sig) (x : PI) : Bool := match x.2.1 with
  | 13 => true
  | _ => decide (decode sg.2.1 x.1 = .ok (jI x.1 x.2)) && sB sg x.2
def okC (sg : Sig) (t : List PI) : Bool := match t with
  | [] => true
  | [x] => okB sg x
  | x :: y :: t => okB sg x && decide (y.1 = x.1 + (jI x.1 x.2).2) && okC sg (y :: t)
def okI (sg : Sig) (x : PI) : Prop := okB sg x = true ∧ (∀ w ∈ wI sg.1.cls x.2, w ∈ WS) ∧ ∀ q ∈ nI_ sg.1.cls x.2, q ∈ nestL
def okP (sg : Sig) (t : List PI) : Prop := match t with
  | [] => True
  | x :: t => okI sg x ∧ (match t with
    | [] => True
    | y :: _ => y.1 = x.1 + (jI x.1 x.2).2) ∧ okP sg t
theorem okP_of {sg : Sig} : ∀ t : List PI, okC sg t = true → (∀ w ∈ t.flatMap (fun x => wI sg.1.cls x.2), w ∈ WS) → (∀ q ∈ t.flatMap (fun x => nI_ sg.1.cls x.2), q ∈ nestL) → okP sg t
  | [], _, _, _ => trivial
  | [x], h, hw, hn => ⟨⟨h, fun w hm => hw w (by simp [hm]), fun q hm => hn q (by simp [hm])⟩, trivial, trivial⟩
  | x :: y :: t, h, hw, hn => by
    simp only [okC, Bool.and_eq_true, decide_eq_true_eq] at h
    refine ⟨⟨h.1.1, fun w hm => hw w (List.mem_flatMap.mpr ⟨x, List.mem_cons_self, hm⟩), fun q hm => hn q (List.mem_flatMap.mpr ⟨x, List.mem_cons_self, hm⟩)⟩, h.1.2, ?_⟩
    exact okP_of (y :: t) h.2 (fun w hm => hw w (by rw [List.flatMap_cons]; exact List.mem_append_right _ hm)) (fun q hm => hn q (by rw [List.flatMap_cons]; exact List.mem_append_right _ hm))
theorem okP_seek {sg : Sig} (tgt : Nat) : ∀ t : List PI, okP sg t → okP sg (seek tgt t)
  | [], _ => trivial
  | (pc, i) :: t, h => by
    unfold seek
    by_cases e : pc = tgt
    · rw [if_pos e]; exact h
    · rw [if_neg e]; exact okP_seek tgt t h.2.2
theorem seek_hd (tgt : Nat) : ∀ (t : List PI) (x : PI) (r : List PI), seek tgt t = x :: r → x.1 = tgt
  | [], x, r, h => by simp [seek] at h
  | (pc, i) :: t, x, r, h => by
    unfold seek at h
    by_cases e : pc = tgt
    · rw [if_pos e] at h
      cases h
      exact e
    · rw [if_neg e] at h
      exact seek_hd tgt t x r h
/-- the entry of a callee holds, below depth d -/
def okE (Z : Zt) (d : Nat) (k : Nat) (e : Ent) : Prop := ∀ av M, e.1 av M → Gm Z d (sgt k) av M (e.2 av M)
theorem clook_ok {Z : Zt} {d : Nat} {C : List (Nat × Ent)} (hC : ∀ q ∈ C, okE Z d q.1 q.2) (k : Nat) : okE Z d k (clook C k) := by
  induction C with
  | nil => intro av M h; exact h.elim
  | cons q t ih =>
    unfold clook
    by_cases e : k = q.1
    · rw [if_pos e, e]
      exact hC q List.mem_cons_self
    · rw [if_neg e]
      exact ih (fun q hq => hC q (List.mem_cons_of_mem _ hq))
theorem splitA_spec {K : List Value → List Value → Prop} : ∀ (n : Nat) (st acc : List Value), splitA n st acc K → ∃ l r, st = l ++ r ∧ l.length = n ∧ K (l.reverse ++ acc) r
  | 0, st, acc, h => ⟨[], st, rfl, rfl, h⟩
  | n + 1, [], acc, h => h.elim
  | n + 1, v :: r, acc, h => by
    obtain ⟨l, r', e1, e2, e3⟩ := splitA_spec n r (v :: acc) h
    exact ⟨v :: l, r', by rw [e1]; rfl, by simp [e2], by simpa using e3⟩
theorem bool_nar {v : Int32} (h : v = 0 ∨ v = 1) : narrow .boolean (.int v) = .int v := by
  rcases h with rfl | rfl <;> rfl
theorem char_nar {j : Nat} (h : j < 128) : narrow .char (.int (nI j)) = .int (nI j) ∧ narrow .byte (.int (nI j)) = .int (nI j) := by
  have : ∀ j, j < 128 → narrow .char (.int (nI j)) = .int (nI j) ∧ narrow .byte (.int (nI j)) = .int (nI j) := by decide +kernel
  exact this j h
theorem sub2 {i : Nat} (h : 2 ≤ i ∧ i < 6) : ∃ j : Nat, j < 4 ∧ i = j + 2 := ⟨i - 2, by omega, by omega⟩
theorem sub6 {i : Nat} (h : 6 ≤ i ∧ i < 10) : ∃ j : Nat, j < 4 ∧ i = j + 6 := ⟨i - 6, by omega, by omega⟩
section XS
variable {Z : Zt} {d : Nat} {sg : Sig} {n0 nF : Nat} {Q : Option Value → Mem → Prop} {pc : Nat} {lv : List (Option Value)} {st : List Value} {M : Mem}
theorem s0 {o a b : Nat} {v : Int32} {tl : List Nat} {k : List Value → Prop} (hi : okB sg (pc, 0, o, a, b, v, tl) = true) (hw : ∀ w ∈ wI sg.1.cls (0, o, a, b, v, tl), w ∈ WS) (hk : ∀ st', k st' → X Z d sg n0 nF Q (pc + (jI pc (0, o, a, b, v, tl)).2) lv st' M) (h : e0 o a v k st) : X Z d sg n0 nF Q pc lv st M := by
  simp only [okB, Bool.and_eq_true, decide_eq_true_eq] at hi
  obtain ⟨hd, hs⟩ := hi
  unfold e0 at h
  split at h
  · match b, hd, hs, hw, hk with
    | 0, hd, hs, hw, hk => exact X_iconst hd (hk _ h)
    | 1, hd, hs, hw, hk => exact X_bipush hd (of_decide_eq_true hs) (hk _ h)
    | 2, hd, hs, hw, hk => exact X_sipush hd (of_decide_eq_true hs) (hk _ h)
    | b + 3, hd, hs, hw, hk => exact X_ldc (hw _ List.mem_cons_self) hd (hk _ h)
  · exact X_ldc2 (hw _ List.mem_cons_self) hd (hk _ h)
  · exact X_ldc2 (hw _ List.mem_cons_self) hd (hk _ h)
  · have hs' : (decide (a < 4) && decide (sg.1.cls = RX3)) = true := hs
    simp only [Bool.and_eq_true, decide_eq_true_eq] at hs'
    exact X_ldcS hs'.1 hs'.2 hd (hk _ h)
  · exact X_compact (hw _ List.mem_cons_self) hd (hk _ h)
  · exact X_format (hw _ List.mem_cons_self) hd (hk _ h)
  · exact h.elim
theorem f4v {a : Nat} (h : a < 4) : ((f4 a : Fin 4) : Nat) = a := by
  unfold f4
  simp [Fin.ofNat]
  omega
theorem s1 {o a b : Nat} {v : Int32} {tl : List Nat} {k : List (Option Value) → List Value → Prop} (hi : okB sg (pc, 1, o, a, b, v, tl) = true) (hk : ∀ lv' st', k lv' st' → X Z d sg n0 nF Q (pc + (jI pc (1, o, a, b, v, tl)).2) lv' st' M) (h : e1 o a v k lv st) : X Z d sg n0 nF Q pc lv st M := by
  simp only [okB, Bool.and_eq_true, decide_eq_true_eq] at hi
  obtain ⟨hd, hs⟩ := hi
  unfold e1 at h
  split at h
  · split at h
    · next hl =>
      by_cases q : a < 4
      · simp only [jI, if_pos q] at hd hk
        exact X_iload_n hd (by rw [f4v q]; exact hl) (hk _ _ h)
      · simp only [jI, if_neg q] at hd hk
        exact X_iload hd hl (hk _ _ h)
    · exact h.elim
  · split at h
    · next hl =>
      by_cases q : a < 4
      · simp only [jI, if_pos q] at hd hk
        exact X_aload_n hd (by rw [f4v q]; exact hl) (hk _ _ h)
      · simp only [jI, if_neg q] at hd hk
        exact X_aload hd hl (hk _ _ h)
    · exact h.elim
  · split at h
    · next hl =>
      by_cases q : a < 4
      · simp only [jI, if_pos q] at hd hk
        exact X_lload_n hd (by rw [f4v q]; exact hl) (hk _ _ h)
      · simp only [jI, if_neg q] at hd hk
        exact X_lload hd hl (hk _ _ h)
    · exact h.elim
  · have hs' : a < sg.2.2.1 := of_decide_eq_true hs
    split at h
    · by_cases q : a < 4
      · simp only [jI, if_pos q] at hd hk
        exact X_istore_n (by rw [f4v q]; exact hs') hd (by rw [f4v q]; exact hk _ _ h)
      · simp only [jI, if_neg q] at hd hk
        exact X_istore hs' hd (hk _ _ h)
    · exact h.elim
  · have hs' : a < sg.2.2.1 := of_decide_eq_true hs
    split at h
    · by_cases q : a < 4
      · simp only [jI, if_pos q] at hd hk
        exact X_astore_n (by rw [f4v q]; exact hs') hd (by rw [f4v q]; exact hk _ _ h)
      · simp only [jI, if_neg q] at hd hk
        exact X_astore hs' hd (hk _ _ h)
    · exact h.elim
  · have hs' : a + 1 < sg.2.2.1 := of_decide_eq_true hs
    split at h
    · by_cases q : a < 4
      · simp only [jI, if_pos q] at hd hk
        exact X_lstore_n (by rw [f4v q]; exact hs') hd (by rw [f4v q]; exact hk _ _ h)
      · simp only [jI, if_neg q] at hd hk
        exact X_lstore hs' hd (hk _ _ h)
    · exact h.elim
  · have hs' : a < sg.2.2.1 := of_decide_eq_true hs
    split at h
    · next hl => exact X_iinc hs' hl hd (hk _ _ h)
    · exact h.elim
  · exact h.elim
theorem s2 {o a b : Nat} {v : Int32} {tl : List Nat} {k : List Value → Prop} (hi : okB sg (pc, 2, o, a, b, v, tl) = true) (hk : ∀ st', k st' → X Z d sg n0 nF Q (pc + (jI pc (2, o, a, b, v, tl)).2) lv st' M) (h : e2 o k st) : X Z d sg n0 nF Q pc lv st M := by
  simp only [okB, Bool.and_eq_true, decide_eq_true_eq] at hi
  obtain ⟨hd, -⟩ := hi
  unfold e2 at h
  split at h
  · split at h
    · exact X_iadd hd (hk _ h)
    · exact h.elim
  · split at h
    · exact X_isub hd (hk _ h)
    · exact h.elim
  · split at h
    · exact X_imul hd (hk _ h)
    · exact h.elim
  · split at h
    · exact X_idiv hd h.1 (hk _ h.2)
    · exact h.elim
  · split at h
    · exact X_irem hd h.1 (hk _ h.2)
    · exact h.elim
  · split at h
    · exact X_ineg hd (hk _ h)
    · exact h.elim
  · split at h
    · exact X_iand hd (hk _ h)
    · exact h.elim
  · split at h
    · exact X_ior hd (hk _ h)
    · exact h.elim
  · split at h
    · exact X_ishl hd (hk _ h)
    · exact h.elim
  · split at h
    · exact X_ishr hd (hk _ h)
    · exact h.elim
  · exact h.elim
theorem s3 {o a b : Nat} {v : Int32} {tl : List Nat} {k : List Value → Prop} (hi : okB sg (pc, 3, o, a, b, v, tl) = true) (hk : ∀ st', k st' → X Z d sg n0 nF Q (pc + (jI pc (3, o, a, b, v, tl)).2) lv st' M) (h : e3 o k st) : X Z d sg n0 nF Q pc lv st M := by
  simp only [okB, Bool.and_eq_true, decide_eq_true_eq] at hi
  obtain ⟨hd, -⟩ := hi
  unfold e3 at h
  split at h
  · split at h
    · exact X_i2l hd (hk _ h)
    · exact h.elim
  · split at h
    · exact X_ladd hd (hk _ h)
    · exact h.elim
  · split at h
    · exact X_lmul hd (hk _ h)
    · exact h.elim
  · split at h
    · exact X_lcmp hd (hk _ h)
    · exact h.elim
  · split at h
    · exact X_i2c hd (hk _ h)
    · exact h.elim
  · exact h.elim
theorem s4 {o a b : Nat} {v : Int32} {tl : List Nat} {kT kF : List Value → Prop} (hi : okB sg (pc, 4, o, a, b, v, tl) = true) (hT : ∀ st', kT st' → X Z d sg n0 nF Q a lv st' M) (hk : ∀ st', kF st' → X Z d sg n0 nF Q (pc + (jI pc (4, o, a, b, v, tl)).2) lv st' M) (h : e4 o kT kF st) : X Z d sg n0 nF Q pc lv st M := by
  simp only [okB, Bool.and_eq_true, decide_eq_true_eq] at hi
  obtain ⟨hd, -⟩ := hi
  unfold e4 at h
  split at h
  · split at h
    · exact X_icmp_eq hd (fun q => by rw [if_pos q] at h; exact hT _ h) (fun q => by rw [if_neg q] at h; exact hk _ h)
    · exact X_icmp_ne hd (fun q => by rw [if_neg q] at h; exact hT _ h) (fun q => by rw [if_pos q] at h; exact hk _ h)
    · exact X_icmp_lt hd (fun q => by rw [if_pos q] at h; exact hT _ h) (fun q => by rw [if_neg q] at h; exact hk _ h)
    · exact X_icmp_ge hd (fun q => by rw [if_pos q] at h; exact hT _ h) (fun q => by rw [if_neg q] at h; exact hk _ h)
    · exact X_icmp_gt hd (fun q => by rw [if_pos q] at h; exact hT _ h) (fun q => by rw [if_neg q] at h; exact hk _ h)
    · exact X_icmp_le hd (fun q => by rw [if_pos q] at h; exact hT _ h) (fun q => by rw [if_neg q] at h; exact hk _ h)
    · exact h.elim
  · exact h.elim
theorem s5 {o a b : Nat} {v : Int32} {tl : List Nat} {kT kF : List Value → Prop} (hi : okB sg (pc, 5, o, a, b, v, tl) = true) (hT : ∀ st', kT st' → X Z d sg n0 nF Q a lv st' M) (hk : ∀ st', kF st' → X Z d sg n0 nF Q (pc + (jI pc (5, o, a, b, v, tl)).2) lv st' M) (h : e5 o kT kF st) : X Z d sg n0 nF Q pc lv st M := by
  simp only [okB, Bool.and_eq_true, decide_eq_true_eq] at hi
  obtain ⟨hd, -⟩ := hi
  unfold e5 at h
  split at h
  · split at h
    · exact X_if_eq hd (fun q => by rw [if_pos q] at h; exact hT _ h) (fun q => by rw [if_neg q] at h; exact hk _ h)
    · exact X_if_ne hd (fun q => by rw [if_neg q] at h; exact hT _ h) (fun q => by rw [if_pos q] at h; exact hk _ h)
    · exact X_if_lt hd (fun q => by rw [if_pos q] at h; exact hT _ h) (fun q => by rw [if_neg q] at h; exact hk _ h)
    · exact X_if_ge hd (fun q => by rw [if_pos q] at h; exact hT _ h) (fun q => by rw [if_neg q] at h; exact hk _ h)
    · exact X_if_gt hd (fun q => by rw [if_pos q] at h; exact hT _ h) (fun q => by rw [if_neg q] at h; exact hk _ h)
    · exact X_if_le hd (fun q => by rw [if_pos q] at h; exact hT _ h) (fun q => by rw [if_neg q] at h; exact hk _ h)
    · exact h.elim
  · exact h.elim
theorem s7 {o a b : Nat} {v : Int32} {tl : List Nat} {k : List Value → Prop} (hi : okB sg (pc, 7, o, a, b, v, tl) = true) (hk : ∀ st', k st' → X Z d sg n0 nF Q (pc + (jI pc (7, o, a, b, v, tl)).2) lv st' M) (h : e7 o k st) : X Z d sg n0 nF Q pc lv st M := by
  simp only [okB, Bool.and_eq_true, decide_eq_true_eq] at hi
  obtain ⟨hd, -⟩ := hi
  unfold e7 at h
  split at h
  · split at h
    · exact X_dup rfl hd (hk _ h)
    · exact X_dup rfl hd (hk _ h)
    · exact h.elim
  · split at h
    · exact X_dup2 rfl rfl hd (hk _ h)
    · exact h.elim
  · split at h
    · exact X_pop rfl hd (hk _ h)
    · exact X_pop rfl hd (hk _ h)
    · exact h.elim
  · exact h.elim
theorem gv0 {i a b : Nat} (h : fk a b = 0) : gval M i a b = .int (mI M i b) := by unfold gval; rw [if_pos h]
theorem gv1 {i a b : Nat} (h : fk a b = 1) : gval M i a b = .ref (mR M i b) := by unfold gval; rw [if_neg (by omega), if_pos h]
theorem gv2 {i a b : Nat} (h : fk a b = 2) : gval M i a b = .int (nI (mR M i b)) := by unfold gval; rw [if_neg (by omega), if_neg (by omega), if_pos h]
theorem gv3 {i a b : Nat} (h : fk a b = 3) : gval M i a b = .long (mL M i) := by unfold gval; rw [if_neg (by omega), if_neg (by omega), if_neg (by omega)]
theorem s8 {o a b : Nat} {v : Int32} {tl : List Nat} {k : List Value → Prop} (hi : okB sg (pc, 8, o, a, b, v, tl) = true) (hw : ∀ w ∈ wI sg.1.cls (8, o, a, b, v, tl), w ∈ WS) (hk : ∀ st', k st' → X Z d sg n0 nF Q (pc + (jI pc (8, o, a, b, v, tl)).2) lv st' M) (h : e8 Z o a b k st M) : X Z d sg n0 nF Q pc lv st M := by
  simp only [okB, Bool.and_eq_true, decide_eq_true_eq] at hi
  obtain ⟨hd, hs⟩ := hi
  unfold e8 at h
  split at h
  · have hs' : a < 6 ∧ b < cW a ∧ fk a b = 0 := of_decide_eq_true hs
    split at h
    · exact X_getf hs'.1 hs'.2.1 (hw _ List.mem_cons_self) hd h.1 (by rw [gv0 hs'.2.2]; exact hk _ h.2)
    · exact h.elim
  · have hs' : a < 6 ∧ b < cW a ∧ fk a b = 1 := of_decide_eq_true hs
    split at h
    · exact X_getf hs'.1 hs'.2.1 (hw _ List.mem_cons_self) hd h.1 (by rw [gv1 hs'.2.2]; exact hk _ h.2)
    · exact h.elim
  · have hs' : a < 6 ∧ b < cW a ∧ fk a b = 2 := of_decide_eq_true hs
    split at h
    · exact X_getf hs'.1 hs'.2.1 (hw _ List.mem_cons_self) hd h.1 (by rw [gv2 hs'.2.2]; exact hk _ h.2)
    · exact h.elim
  · have hs' : a < 6 ∧ b < cW a ∧ fk a b = 3 := of_decide_eq_true hs
    split at h
    · exact X_getf hs'.1 hs'.2.1 (hw _ List.mem_cons_self) hd h.1 (by rw [gv3 hs'.2.2]; exact hk _ h.2)
    · exact h.elim
  · split at h
    · exact X_iald hd h.1 (hk _ h.2)
    · exact h.elim
  · split at h
    · exact X_aald hd h.1.1 h.1.2.1 h.1.2.2 (hk _ h.2)
    · exact h.elim
  · split at h
    · exact X_alen hd h.1.1 h.1.2 (hk _ h.2)
    · exact h.elim
  · split at h
    · next i r =>
      obtain ⟨h1, h3⟩ := h
      obtain ⟨j, hj, rfl⟩ := sub2 h1
      exact X_strV hj (hw _ List.mem_cons_self) hd (hk _ h3)
    · exact h.elim
  · split at h
    · next i r =>
      obtain ⟨h1, h3⟩ := h
      obtain ⟨j, hj, rfl⟩ := sub2 h1
      exact X_strC hj (hw _ List.mem_cons_self) hd (hk _ h3)
    · exact h.elim
  · split at h
    · next jj i r =>
      obtain ⟨⟨h1, h4⟩, h3⟩ := h
      obtain ⟨j, hj, rfl⟩ := sub6 h1
      rw [Nat.add_sub_cancel] at h4 h3
      exact X_bld hj h4 hd (hk _ h3)
    · exact h.elim
  · split at h
    · next i r =>
      obtain ⟨h1, h3⟩ := h
      obtain ⟨j, hj, rfl⟩ := sub6 h1
      rw [Nat.add_sub_cancel] at h3
      exact X_blen hj hd (hk _ h3)
    · exact h.elim
  · split at h
    · obtain ⟨⟨rfl, h4⟩, h3⟩ := h
      exact X_sld hd h4 (hk _ h3)
    · exact h.elim
  · split at h
    · obtain ⟨rfl, h3⟩ := h
      exact X_slen hd (hk _ h3)
    · exact h.elim
  · exact h.elim
theorem s9 {o a b : Nat} {v : Int32} {tl : List Nat} (hi : okB sg (pc, 9, o, a, b, v, tl) = true) (h : e9 o Q st M) : X Z d sg n0 nF Q pc lv st M := by
  simp only [okB, Bool.and_eq_true, decide_eq_true_eq] at hi
  obtain ⟨hd, hs⟩ := hi
  unfold e9 at h
  split at h
  · have hs' : sg.2.2.2 = some .int := of_decide_eq_true hs
    split at h
    · next x => exact X_ret (r := some (.int x)) ⟨hd, _, hs', rfl⟩ h
    · exact h.elim
  · have hs' : sg.2.2.2 = some .boolean := of_decide_eq_true hs
    split at h
    · next x => exact X_ret (r := some (.int x)) ⟨hd, _, hs', bool_nar h.1⟩ h.2
    · exact h.elim
  · have hs' : sg.2.2.2 = some .char ∨ sg.2.2.2 = some .byte := of_decide_eq_true hs
    split at h
    · next x =>
      obtain ⟨⟨j, hj, rfl⟩, h2⟩ := h
      rcases hs' with z | z
      · exact X_ret (r := some (.int (nI j))) ⟨hd, _, z, (char_nar hj).1⟩ h2
      · exact X_ret (r := some (.int (nI j))) ⟨hd, _, z, (char_nar hj).2⟩ h2
    · exact h.elim
  · have hs' : sg.2.2.2 = some .long := of_decide_eq_true hs
    split at h
    · next x => exact X_ret (r := some (.long x)) ⟨hd, hs'⟩ h
    · exact h.elim
  · have hs' : sg.2.2.2 = some (.object "java/lang/String") := of_decide_eq_true hs
    split at h
    · next x => exact X_ret (r := some (.ref x)) ⟨hd, _, hs', Or.inl ⟨_, rfl⟩⟩ h
    · exact h.elim
  · have hs' : sg.2.2.2 = none := of_decide_eq_true hs
    split at h
    · exact X_ret (r := none) ⟨hd, hs'⟩ h
    · exact h.elim
  · exact h.elim
theorem s10 {o a b : Nat} {v : Int32} {tl : List Nat} {k : List Value → Mem → Prop} (hi : okB sg (pc, 10, o, a, b, v, tl) = true) (hw : ∀ w ∈ wI sg.1.cls (10, o, a, b, v, tl), w ∈ WS) (hk : ∀ st' M', k st' M' → X Z d sg n0 nF Q (pc + (jI pc (10, o, a, b, v, tl)).2) lv st' M') (h : e10 nF o a b k st M) : X Z d sg n0 nF Q pc lv st M := by
  simp only [okB, Bool.and_eq_true, decide_eq_true_eq] at hi
  obtain ⟨hd, hs⟩ := hi
  unfold e10 at h
  split at h
  · have hs' : a < 6 ∧ b < cW a ∧ fk a b = 0 ∧ (cT a b).2.2.2 = false ∧ cty a b = .int := of_decide_eq_true hs
    split at h
    · exact X_putI hs'.1 hs'.2.1 hs'.2.2.2.1 hs'.2.2.1 hs'.2.2.2.2 (hw _ List.mem_cons_self) hd h.1 (hk _ _ h.2)
    · exact h.elim
  · have hs' : a < 6 ∧ b < cW a ∧ fk a b = 1 ∧ (cT a b).2.2.2 = true ∧ sg.1.name = "<init>" ∧ (cT a b).1 = sg.1.cls := of_decide_eq_true hs
    split at h
    · exact X_putR hs'.1 hs'.2.1 hs'.2.2.2.1 hs'.2.2.1 hs'.2.2.2.2.1 hs'.2.2.2.2.2 (hw _ List.mem_cons_self) hd h.1 (hk _ _ h.2)
    · exact h.elim
  · have hs' : a < 6 ∧ b < cW a ∧ fk a b = 2 ∧ (cT a b).2.2.2 = true ∧ sg.1.name = "<init>" ∧ (cT a b).1 = sg.1.cls := of_decide_eq_true hs
    split at h
    · obtain ⟨h1, n, rfl, h2⟩ := h
      exact X_putC hs'.1 hs'.2.1 hs'.2.2.2.1 hs'.2.2.1 hs'.2.2.2.2.1 hs'.2.2.2.2.2 (hw _ List.mem_cons_self) hd h1 (hk _ _ h2)
    · exact h.elim
  · have hs' : a = 5 ∧ b = 10 := of_decide_eq_true hs
    obtain ⟨rfl, rfl⟩ := hs'
    split at h
    · exact X_putJ (ci := 5) (k := 10) (by decide) (by decide +kernel) (by decide +kernel) (by decide +kernel) (by decide +kernel) (by decide +kernel) (hw _ List.mem_cons_self) hd h.1 (hk _ _ h.2)
    · exact h.elim
  · split at h
    · exact X_iast hd h.1 (hk _ _ h.2)
    · exact h.elim
  · split at h
    · exact X_aast hd h.1.1.1 h.1.1.2.1 h.1.1.2.2 h.1.2 (hk _ _ h.2)
    · exact h.elim
  · have hs' : a < 6 := of_decide_eq_true hs
    exact X_new hs' (hw _ List.mem_cons_self) (hw _ (List.mem_cons_of_mem _ List.mem_cons_self)) (hw _ (List.mem_cons_of_mem _ (List.mem_cons_of_mem _ List.mem_cons_self))) hd h.1.1 h.1.2 (hk _ _ h.2)
  · split at h
    · obtain ⟨len, ⟨h1, h2, h3, h4⟩, h5⟩ := h
      exact X_newa (hw _ List.mem_cons_self) hd h1 h2 h3 h4 (hk _ _ h5)
    · exact h.elim
  · split at h
    · obtain ⟨len, ⟨h1, h2, h3, h4⟩, h5⟩ := h
      exact X_anew (hw _ List.mem_cons_self) hd h1 h2 h3 h4 (hk _ _ h5)
    · exact h.elim
  · exact h.elim
theorem s12 {o a b : Nat} {v : Int32} {tl : List Nat} {k : List Value → Mem → Prop} (hi : okB sg (pc, 12, o, a, b, v, tl) = true) (hw : ∀ w ∈ wI sg.1.cls (12, o, a, b, v, tl), w ∈ WS) (hk : ∀ st' M', k st' M' → X Z (d + 1) sg n0 nF Q (pc + (jI pc (12, o, a, b, v, tl)).2) lv st' M') (h : e12 o k st M) : X Z (d + 1) sg n0 nF Q pc lv st M := by
  simp only [okB, Bool.and_eq_true, decide_eq_true_eq] at hi
  obtain ⟨hd, hs⟩ := hi
  unfold e12 at h
  split at h
  · split at h
    · exact X_max (hw _ List.mem_cons_self) (hw _ (List.mem_cons_of_mem _ List.mem_cons_self)) (hw _ (List.mem_cons_of_mem _ (List.mem_cons_of_mem _ List.mem_cons_self))) (hw _ (List.mem_cons_of_mem _ (List.mem_cons_of_mem _ (List.mem_cons_of_mem _ List.mem_cons_self)))) hd h.1 (hk _ _ h.2)
    · exact h.elim
  · split at h
    · exact X_min (hw _ List.mem_cons_self) (hw _ (List.mem_cons_of_mem _ List.mem_cons_self)) (hw _ (List.mem_cons_of_mem _ (List.mem_cons_of_mem _ List.mem_cons_self))) (hw _ (List.mem_cons_of_mem _ (List.mem_cons_of_mem _ (List.mem_cons_of_mem _ List.mem_cons_self)))) hd h.1 (hk _ _ h.2)
    · exact h.elim
  · split at h
    · obtain ⟨n, dp, sp, ⟨rfl, rfl, rfl, g1, g2, g3, g4, g5, g6, g7, g8⟩, h2⟩ := h
      exact X_copy (hw _ List.mem_cons_self) (hw _ (List.mem_cons_of_mem _ List.mem_cons_self)) (hw _ (List.mem_cons_of_mem _ (List.mem_cons_of_mem _ List.mem_cons_self))) (hw _ (List.mem_cons_of_mem _ (List.mem_cons_of_mem _ (List.mem_cons_of_mem _ List.mem_cons_self)))) hd g4 g5.1 g5.2 g6.1 g6.2 g7 g8 g1 g2 g3 (hk _ _ h2)
    · exact h.elim
  · split at h
    · exact X_objI h.1.1 (hw _ List.mem_cons_self) (hw _ (List.mem_cons_of_mem _ List.mem_cons_self)) (hw _ (List.mem_cons_of_mem _ (List.mem_cons_of_mem _ List.mem_cons_self))) hd h.1.2 (hk _ _ h.2)
    · exact h.elim
  · exact h.elim
end XS
theorem okN_spec {k : Nat} (h : okN k = true) : (sgt k).2.2.1 ≤ 17 ∧ (sgt k).1.cls ≠ "java/lang/invoke/MethodHandle" ∧ (sgt k).1.cls ≠ "java/lang/invoke/VarHandle" := by
  simp only [okN, Bool.and_eq_true, decide_eq_true_eq] at h
  exact ⟨h.1.1, h.1.2, h.2⟩
theorem rev_cons_of {l : List Value} {n : Nat} (hl : l.length = n) (h : 0 < n) : ∃ (l' : List Value) (v : Value), l = l' ++ [v] ∧ l'.length = n - 1 ∧ l.reverse = v :: l'.reverse := by
  obtain ⟨w, t, e⟩ : ∃ w t, l.reverse = w :: t := by
    cases e : l.reverse with
    | nil => have := congrArg List.length e; simp at this; rw [this] at hl; simp at hl; omega
    | cons w t => exact ⟨w, t, rfl⟩
  refine ⟨t.reverse, w, ?_, ?_, ?_⟩
  · have := congrArg List.reverse e
    rw [List.reverse_reverse, List.reverse_cons] at this
    exact this
  · have := congrArg List.length e
    simp at this ⊢
    omega
  · rw [e, List.reverse_reverse]
theorem tsw_spec {k : Nat → Prop} {dflt : Nat} : ∀ (tl : List Nat) (x : Int32) (i : Nat), tsw k dflt x i tl → (∃ j t, tl[j]? = some t ∧ x = nI (i + j) ∧ k t) ∨ ((∀ j, j < tl.length → ¬ x = nI (i + j)) ∧ k dflt)
  | [], x, i, h => Or.inr ⟨fun j hj => by simp at hj, h⟩
  | t :: r, x, i, h => by
    unfold tsw at h
    by_cases q : x = nI i
    · rw [if_pos q] at h
      exact Or.inl ⟨0, t, rfl, q, h⟩
    · rw [if_neg q] at h
      rcases tsw_spec r x (i + 1) h with ⟨j, t', h1, h2, h3⟩ | ⟨h1, h2⟩
      · exact Or.inl ⟨j + 1, t', by simpa using h1, by rw [h2, show i + 1 + j = i + (j + 1) by omega], h3⟩
      · refine Or.inr ⟨fun j hj => ?_, h2⟩
        cases j with
        | zero => exact q
        | succ j =>
          have := h1 j (by simp at hj; omega)
          rw [show i + 1 + j = i + (j + 1) by omega] at this
          exact this
section XS2
variable {Z : Zt} {d : Nat} {sg : Sig} {n0 nF : Nat} {Q : Option Value → Mem → Prop} {pc : Nat} {lv : List (Option Value)} {st : List Value} {M : Mem}
theorem X_le {pc : Nat} (h : mN M ≤ nF → X Z d sg n0 nF Q pc lv st M) : X Z d sg n0 nF Q pc lv st M := by
  intro p e R s m args below meth c Qe H locs la hF h1 h2 h3 h4 hR hS hL hE
  exact h h4 p e R s m args below meth c Qe H locs la hF h1 h2 h3 h4 hR hS hL hE
theorem s11 {o a b : Nat} {v : Int32} {tl : List Nat} {e : Ent} {k : List Value → Mem → Prop} (hC : okE Z d b e) (hi : okB sg (pc, 11, o, a, b, v, tl) = true) (hw : ∀ w ∈ wI sg.1.cls (11, o, a, b, v, tl), w ∈ WS) (hn : ∀ q ∈ nI_ sg.1.cls (11, o, a, b, v, tl), q ∈ nestL) (hk : ∀ st' M', k st' M' → X Z (d + 1) sg n0 nF Q (pc + (jI pc (11, o, a, b, v, tl)).2) lv st' M') (h : e11 o a (tl.getD 1 0) e k st M) : X Z (d + 1) sg n0 nF Q pc lv st M := by
  simp only [okB, Bool.and_eq_true, decide_eq_true_eq] at hi
  obtain ⟨hd, hs⟩ := hi
  obtain ⟨l, rest, rfl, hl, ⟨hr, hws⟩, hpre, hpost⟩ := splitA_spec _ _ _ h
  rw [List.append_nil] at hr hpre hpost
  refine X_le fun hle => ?_
  clear h
  revert hd hs hw hn hk hr
  match o with
  | 0 =>
    intro hw hn hk hd hs hr
    simp only [sB, Bool.and_eq_true, decide_eq_true_eq] at hs
    obtain ⟨⟨⟨⟨h0, h1⟩, h2⟩, h3⟩, h4⟩ := hs
    obtain ⟨g1, g2, g3⟩ := okN_spec h0
    obtain ⟨l', w, e1, e2, e3⟩ := rev_cons_of hl h3
    rw [e3] at hr hpre hpost
    subst e1
    cases w with
    | ref i =>
      have := X_callV (d := d) (n0 := n0) (nF := nF) (Q := Q) (lv := lv) (sg := sg) (pc := pc) (av := l'.reverse) (rest := rest) h1 h2 g1 ⟨g2, g3⟩ h4 (by simpa using e2) (hw _ (by simp [wI])) (hw _ (by simp [wI])) (hw _ (by simp [wI])) (hw _ (by simp [wI])) (hw _ (by simp [wI])) hd hws hr (hC _ _ hpre) hle (fun r M' hq _ => hk _ _ (hpost r M' hq))
      rw [List.reverse_reverse] at this
      rw [List.append_assoc]
      exact this
    | _ => exact hr.elim
  | 1 =>
    intro hw hn hk hd hs hr
    simp only [sB, Bool.and_eq_true, decide_eq_true_eq] at hs
    obtain ⟨h0, h4⟩ := hs
    obtain ⟨g1, g2, g3⟩ := okN_spec h0
    have := X_callS (d := d) (n0 := n0) (nF := nF) (Q := Q) (lv := lv) (sg := sg) (pc := pc) (av := l.reverse) (rest := rest) g1 ⟨g2, g3⟩ h4 (by simpa using hl) (hw _ (by simp [wI])) (hw _ (by simp [wI])) (hw _ (by simp [wI])) (hw _ (by simp [wI])) hd hws (hC _ _ hpre) hle (fun r M' hq _ => hk _ _ (hpost r M' hq))
    rw [List.reverse_reverse] at this
    exact this
  | 2 =>
    intro hw hn hk hd hs hr
    simp only [sB, Bool.and_eq_true, decide_eq_true_eq] at hs
    obtain ⟨h0, h4⟩ := hs
    obtain ⟨g1, g2, g3⟩ := okN_spec h0
    have := X_callSN (host := "LimitBank") (d := d) (n0 := n0) (nF := nF) (Q := Q) (lv := lv) (sg := sg) (pc := pc) (av := l.reverse) (rest := rest) g1 ⟨g2, g3⟩ h4 (by simpa using hl) (hn _ (by simp [nI_])) (hw _ (by simp [wI])) (hw _ (by simp [wI])) (hw _ (by simp [wI])) hd hws (hC _ _ hpre) hle (fun r M' hq _ => hk _ _ (hpost r M' hq))
    rw [List.reverse_reverse] at this
    exact this
  | 3 =>
    intro hw hn hk hd hs hr
    simp only [sB, Bool.and_eq_true, decide_eq_true_eq] at hs
    obtain ⟨⟨⟨h0, h1⟩, h3⟩, h4⟩ := hs
    obtain ⟨g1, g2, g3⟩ := okN_spec h0
    obtain ⟨l', w, e1, e2, e3⟩ := rev_cons_of hl h3
    rw [e3] at hr hpre hpost
    subst e1
    cases w with
    | ref i =>
      obtain ⟨j, hj, rfl⟩ := sub2 hr
      have := X_callT (d := d) (n0 := n0) (nF := nF) (Q := Q) (lv := lv) (sg := sg) (pc := pc) (av := l'.reverse) (rest := rest) hj h1 g1 h4 (by simpa using e2) (hw _ (by simp [wI])) (hw _ (by simp [wI])) (hw _ (by simp [wI])) (hw _ (by simp [wI])) (hw _ (by simp [wI])) hd hws (hC _ _ hpre) hle (fun r M' hq _ => hk _ _ (hpost r M' hq))
      rw [List.reverse_reverse] at this
      rw [List.append_assoc]
      exact this
    | _ => exact hr.elim
  | 4 =>
    intro hw hn hk hd hs hr
    simp only [sB, Bool.and_eq_true, decide_eq_true_eq] at hs
    obtain ⟨⟨⟨⟨h0, h1⟩, h2⟩, h3⟩, h4⟩ := hs
    obtain ⟨g1, g2, g3⟩ := okN_spec h0
    obtain ⟨l', w, e1, e2, e3⟩ := rev_cons_of hl h3
    rw [e3] at hr hpre hpost
    subst e1
    cases w with
    | ref i =>
      have := X_callI (d := d) (n0 := n0) (nF := nF) (Q := Q) (lv := lv) (sg := sg) (pc := pc) (av := l'.reverse) (rest := rest) hr h1 h2 g1 ⟨g2, g3⟩ h4 (by simpa using e2) (hw _ (by simp [wI])) (hw _ (by simp [wI])) (hw _ (by simp [wI])) (hw _ (by simp [wI])) hd hws (hC _ _ hpre) hle (fun r M' hq _ => hk _ _ (hpost r M' hq))
      rw [List.reverse_reverse] at this
      rw [List.append_assoc]
      exact this
    | _ => exact hr.elim
  | 5 =>
    intro hw hn hk hd hs hr
    simp only [sB, Bool.and_eq_true, decide_eq_true_eq] at hs
    obtain ⟨⟨⟨⟨h0, h1⟩, h2⟩, h3⟩, h4⟩ := hs
    obtain ⟨g1, g2, g3⟩ := okN_spec h0
    obtain ⟨l', w, e1, e2, e3⟩ := rev_cons_of hl h3
    rw [e3] at hr hpre hpost
    subst e1
    cases w with
    | ref i =>
      have := X_callIN (host := "LimitBank") (d := d) (n0 := n0) (nF := nF) (Q := Q) (lv := lv) (sg := sg) (pc := pc) (av := l'.reverse) (rest := rest) hr h1 h2 g1 ⟨g2, g3⟩ h4 (by simpa using e2) (hn _ (by simp [nI_])) (hw _ (by simp [wI])) (hw _ (by simp [wI])) (hw _ (by simp [wI])) hd hws (hC _ _ hpre) hle (fun r M' hq _ => hk _ _ (hpost r M' hq))
      rw [List.reverse_reverse] at this
      rw [List.append_assoc]
      exact this
    | _ => exact hr.elim
  | o + 6 =>
    intro hw hn hk hd hs hr
    exact absurd hs (by simp [sB])
theorem X_tabIn {a b j t : Nat} {x : Int32} {tl : List Nat} (hd : decode sg.2.1 pc = .ok (.tableswitch ((a : Int) - pc) 0 ((tl.length : Int) - 1) (tl.map fun (t : Nat) => ((t : Int) - (pc : Int))).toArray, b)) (hx : x = nI j) (hj : tl[j]? = some t) (hl : tl.length < 1000) (h : X Z d sg n0 nF Q t lv st M) : X Z d sg n0 nF Q pc lv (.int x :: st) M := by
  intro p e R s m args below meth c Qe H locs la hF h1 h2 h3 h4 hR hS hL hE
  have hlt : j < tl.length := (List.getElem?_eq_some_iff.mp hj).1
  have hxi : x.toInt = (j : Int) := by rw [hx]; exact nI_toInt (by omega)
  exact lv_tableIn hF.1 hF.2.1 hd (by omega) (by omega) (off := (t : Int) - pc) (by rw [hxi]; simp [hj]) (by omega) (h p e R s m args below meth c Qe H locs la hF h1 h2 h3 h4 hR hS hL hE)
theorem X_tabOut {a b : Nat} {x : Int32} {tl : List Nat} (hd : decode sg.2.1 pc = .ok (.tableswitch ((a : Int) - pc) 0 ((tl.length : Int) - 1) (tl.map fun (t : Nat) => ((t : Int) - (pc : Int))).toArray, b)) (hx : ∀ j, j < tl.length → ¬ x = nI j) (hl : tl.length < 1000) (h : X Z d sg n0 nF Q a lv st M) : X Z d sg n0 nF Q pc lv (.int x :: st) M := by
  intro p e R s m args below meth c Qe H locs la hF h1 h2 h3 h4 hR hS hL hE
  have ho : x.toInt < 0 ∨ (tl.length : Int) - 1 < x.toInt := by
    rcases Int.lt_or_le x.toInt 0 with q | q
    · exact Or.inl q
    · rcases Int.lt_or_le ((tl.length : Int) - 1) x.toInt with q2 | q2
      · exact Or.inr q2
      · exfalso
        have hj : x.toInt.toNat < tl.length := by omega
        refine hx _ hj (Int32.toInt_inj.mp ?_)
        rw [nI_toInt (by omega)]
        omega
  exact lv_tableOut hF.1 hF.2.1 hd ho (by omega) (h p e R s m args below meth c Qe H locs la hF h1 h2 h3 h4 hR hS hL hE)
/-- what 'run' computes at an instruction carries the machine from there to the frame's end -/
theorem run_X {C : List (Nat × Ent)} {S : List Nat} (hC : ∀ q ∈ C, okE Z d q.1 q.2) : ∀ (f : Nat) (t : List PI) (lv : List (Option Value)) (st : List Value) (M : Mem), okP sg t → run Z nF C S (fun pc lv st M => X Z (d + 1) sg n0 nF Q pc lv st M) Q f t lv st M → ∀ (x : PI) (r : List PI), t = x :: r → X Z (d + 1) sg n0 nF Q x.1 lv st M := by
  intro f
  induction f with
  | zero => intro t lv st M _ h; exact h.elim
  | succ f ih =>
    intro t lv st M hP h x r e
    subst e
    obtain ⟨pc, g, o, a, b, v, tl⟩ := x
    obtain ⟨⟨hi, hw, hn⟩, hnx, hr⟩ := hP
    have hgo : ∀ (t : List PI) (tgt : Nat), okP sg t → (∀ y q, t = y :: q → y.1 = tgt) → ∀ lv' st' M', go S (fun pc lv st M => X Z (d + 1) sg n0 nF Q pc lv st M) (run Z nF C S (fun pc lv st M => X Z (d + 1) sg n0 nF Q pc lv st M) Q f) t lv' st' M' → X Z (d + 1) sg n0 nF Q tgt lv' st' M' := by
      intro t tgt hP ht lv' st' M' h
      match t, hP, ht, h with
      | [], _, _, h => exact h.elim
      | (pc', i') :: t, hP, ht, h =>
        have e1 := ht _ _ rfl
        simp only at e1
        subst e1
        unfold go at h
        by_cases q : inS S pc' = true
        · simp only [q, if_true] at h
          exact h
        · simp only [if_neg q] at h
          exact ih _ _ _ _ hP h _ _ rfl
    have hN : ∀ lv' st' M', go S (fun pc lv st M => X Z (d + 1) sg n0 nF Q pc lv st M) (run Z nF C S (fun pc lv st M => X Z (d + 1) sg n0 nF Q pc lv st M) Q f) r lv' st' M' → X Z (d + 1) sg n0 nF Q (pc + (jI pc (g, o, a, b, v, tl)).2) lv' st' M' := by
      refine hgo r _ hr fun y q e => ?_
      subst e
      exact hnx
    have hJ : ∀ tgt lv' st' M', jmp S (fun pc lv st M => X Z (d + 1) sg n0 nF Q pc lv st M) (run Z nF C S (fun pc lv st M => X Z (d + 1) sg n0 nF Q pc lv st M) Q f) pc tgt r lv' st' M' → X Z (d + 1) sg n0 nF Q tgt lv' st' M' := by
      intro tgt lv' st' M' h
      unfold jmp at h
      by_cases q : tgt ≤ pc
      · rw [if_pos q] at h
        exact h
      · rw [if_neg q] at h
        exact hgo _ tgt (okP_seek tgt r hr) (fun y q e => seek_hd tgt r y q e) _ _ _ h
    match g, hi, hw, hn, hN, h with
    | 0, hi, hw, hn, hN, h => exact s0 hi hw (fun st' h' => hN _ _ _ h') h
    | 1, hi, hw, hn, hN, h => exact s1 hi (fun lv' st' h' => hN _ _ _ h') h
    | 2, hi, hw, hn, hN, h => exact s2 hi (fun st' h' => hN _ _ _ h') h
    | 3, hi, hw, hn, hN, h => exact s3 hi (fun st' h' => hN _ _ _ h') h
    | 4, hi, hw, hn, hN, h => exact s4 hi (fun st' h' => hJ _ _ _ _ h') (fun st' h' => hN _ _ _ h') h
    | 5, hi, hw, hn, hN, h => exact s5 hi (fun st' h' => hJ _ _ _ _ h') (fun st' h' => hN _ _ _ h') h
    | 6, hi, hw, hn, hN, h =>
      simp only [okB, Bool.and_eq_true, decide_eq_true_eq] at hi
      match o, hi, h with
      | 0, hi, h => exact X_goto hi.1 (hJ _ _ _ _ h)
      | 1, hi, h =>
        match st, h with
        | .int y :: st, h =>
          have hl : tl.length < 1000 := of_decide_eq_true hi.2
          rcases tsw_spec tl y 0 h with ⟨j, t, h1, h2, h3⟩ | ⟨h1, h2⟩
          · rw [Nat.zero_add] at h2
            exact X_tabIn hi.1 h2 h1 hl (hJ _ _ _ _ h3)
          · exact X_tabOut hi.1 (fun j hj => by have := h1 j hj; rw [Nat.zero_add] at this; exact this) hl (hJ _ _ _ _ h2)
      | o + 2, hi, h => exact h.elim
    | 7, hi, hw, hn, hN, h => exact s7 hi (fun st' h' => hN _ _ _ h') h
    | 8, hi, hw, hn, hN, h => exact s8 hi hw (fun st' h' => hN _ _ _ h') h
    | 9, hi, hw, hn, hN, h => exact s9 hi h
    | 10, hi, hw, hn, hN, h => exact s10 hi hw (fun st' M' h' => hN _ _ _ h') h
    | 11, hi, hw, hn, hN, h => exact s11 (clook_ok hC b) hi hw hn (fun st' M' h' => hN _ _ _ h') h
    | 12, hi, hw, hn, hN, h => exact s12 hi hw (fun st' M' h' => hN _ _ _ h') h
    | g + 13, hi, hw, hn, hN, h => exact h.elim
end XS2
end
section
theorem WS_places {ws : List Cond} (ps : List Nat) (h : ws.map some = ps.map (fun i => lw_tbl[i]?)) (g : ws.all goodWord = true) : ∀ w ∈ ws, w ∈ WS := by
  intro w hw
  refine WS_of ?_ (List.all_eq_true.mp g w hw)
  have h1 : some w ∈ ws.map some := List.mem_map_of_mem hw
  rw [h] at h1
  obtain ⟨i, -, hi⟩ := List.mem_map.mp h1
  exact List.mem_of_getElem? hi
theorem nest_places {qs : List (String × Nat × MethodName × String)} (ps : List Nat) (h : qs.map some = ps.map (fun i => nestL[i]?)) : ∀ q ∈ qs, q ∈ nestL := by
  intro w hw
  have h1 : some w ∈ qs.map some := List.mem_map_of_mem hw
  rw [h] at h1
  obtain ⟨i, -, hi⟩ := List.mem_map.mp h1
  exact List.mem_of_getElem? hi

def p_C_init : List PI := [(0, 1, 1, 0, 0, 0, []), (1, 12, 3, 0, 0, 0, [3]), (4, 1, 1, 0, 0, 0, []), (5, 1, 0, 1, 0, 0, []), (6, 0, 0, 0, 0, 0, []), (7, 12, 0, 0, 0, 0, [9]), (10, 10, 2, 0, 1, 0, [15]), (13, 1, 1, 0, 0, 0, []), (14, 1, 1, 0, 0, 0, []), (15, 8, 2, 0, 1, 0, [15]), (18, 0, 0, 0, 1, 6, []), (20, 2, 2, 0, 0, 0, []), (21, 10, 7, 0, 0, 0, []), (23, 10, 1, 0, 0, 0, [21]), (26, 9, 5, 0, 0, 0, [])]
theorem k_C_init : okP s_C_init p_C_init := okP_of _ (by decide +kernel) (WS_places [112, 79, 80, 113, 114, 65, 115, 117, 117, 100, 116] (by decide +kernel) (by decide +kernel)) (nest_places [] (by decide +kernel))
def p_C_copyRows : List PI := [(0, 1, 1, 1, 0, 0, []), (1, 8, 1, 0, 0, 0, [21]), (4, 1, 1, 0, 0, 0, []), (5, 8, 1, 0, 0, 0, [21]), (8, 11, 2, 0, 1, 0, [25, 2, 3]), (11, 1, 1, 0, 0, 0, []), (12, 1, 1, 1, 0, 0, []), (13, 8, 0, 0, 2, 0, [29]), (16, 10, 0, 0, 2, 0, [29]), (19, 9, 5, 0, 0, 0, [])]
theorem k_C_copyRows : okP s_C_copyRows p_C_copyRows := okP_of _ (by decide +kernel) (WS_places [116, 116, 368, 61, 369, 118, 118] (by decide +kernel) (by decide +kernel)) (nest_places [3] (by decide +kernel))
def p_C_isFull : List PI := [(0, 1, 1, 0, 0, 0, []), (1, 8, 0, 0, 2, 0, [29]), (4, 1, 1, 0, 0, 0, []), (5, 8, 2, 0, 1, 0, [15]), (8, 4, 2, 15, 0, 0, []), (11, 0, 0, 0, 0, 1, []), (12, 6, 0, 16, 0, 0, []), (15, 0, 0, 0, 0, 0, []), (16, 9, 1, 0, 0, 0, [])]
theorem k_C_isFull : okP s_C_isFull p_C_isFull := okP_of _ (by decide +kernel) (WS_places [118, 117] (by decide +kernel) (by decide +kernel)) (nest_places [] (by decide +kernel))
def p_C_cell : List PI := [(0, 1, 0, 1, 0, 0, []), (1, 0, 0, 0, 0, 0, []), (2, 1, 1, 0, 0, 0, []), (3, 8, 0, 0, 2, 0, [29]), (6, 0, 0, 0, 0, 1, []), (7, 2, 1, 0, 0, 0, []), (8, 11, 2, 0, 4, 0, [32, 3, 4]), (11, 5, 0, 23, 0, 0, []), (14, 1, 0, 2, 0, 0, []), (15, 0, 0, 0, 0, 0, []), (16, 0, 0, 0, 0, 5, []), (17, 11, 2, 0, 4, 0, [32, 3, 4]), (20, 5, 1, 26, 0, 0, []), (23, 0, 0, 36, 3, -1000003, []), (25, 9, 0, 0, 0, 0, []), (26, 1, 1, 0, 0, 0, []), (27, 8, 1, 0, 0, 0, [21]), (30, 1, 0, 1, 0, 0, []), (31, 0, 0, 0, 1, 6, []), (33, 2, 2, 0, 0, 0, []), (34, 1, 0, 2, 0, 0, []), (35, 2, 0, 0, 0, 0, []), (36, 8, 4, 0, 0, 0, []), (37, 9, 0, 0, 0, 0, [])]
theorem k_C_cell : okP s_C_cell p_C_cell := okP_of _ (by decide +kernel) (WS_places [118, 241, 61, 242, 241, 61, 242, 430, 116] (by decide +kernel) (by decide +kernel)) (nest_places [4, 4] (by decide +kernel))
def p_C_add : List PI := [(0, 1, 1, 0, 0, 0, []), (1, 11, 0, 0, 3, 0, [37, 1]), (4, 5, 0, 8, 0, 0, []), (7, 9, 5, 0, 0, 0, []), (8, 1, 1, 0, 0, 0, []), (9, 8, 0, 0, 2, 0, [29]), (12, 0, 0, 0, 1, 6, []), (14, 2, 2, 0, 0, 0, []), (15, 1, 3, 3, 0, 0, []), (16, 0, 0, 0, 0, 0, []), (17, 1, 3, 4, 0, 0, []), (19, 1, 0, 4, 0, 0, []), (21, 0, 0, 0, 0, 4, []), (22, 4, 3, 51, 0, 0, []), (25, 1, 0, 4, 0, 0, []), (27, 1, 1, 1, 0, 0, []), (28, 8, 6, 0, 0, 0, []), (29, 4, 3, 51, 0, 0, []), (32, 1, 1, 0, 0, 0, []), (33, 8, 1, 0, 0, 0, [21]), (36, 1, 0, 3, 0, 0, []), (37, 1, 0, 4, 0, 0, []), (39, 2, 0, 0, 0, 0, []), (40, 1, 1, 1, 0, 0, []), (41, 1, 0, 4, 0, 0, []), (43, 8, 4, 0, 0, 0, []), (44, 10, 4, 0, 0, 0, []), (45, 1, 6, 4, 0, 1, []), (48, 6, 0, 19, 0, 0, []), (51, 1, 1, 0, 0, 0, []), (52, 8, 1, 0, 0, 0, [21]), (55, 1, 0, 3, 0, 0, []), (56, 0, 0, 0, 0, 4, []), (57, 2, 0, 0, 0, 0, []), (58, 1, 0, 2, 0, 0, []), (59, 10, 4, 0, 0, 0, []), (60, 1, 1, 0, 0, 0, []), (61, 8, 1, 0, 0, 0, [21]), (64, 1, 0, 3, 0, 0, []), (65, 0, 0, 0, 0, 5, []), (66, 2, 0, 0, 0, 0, []), (67, 0, 0, 36, 3, -1000003, []), (69, 10, 4, 0, 0, 0, []), (70, 1, 1, 0, 0, 0, []), (71, 7, 0, 0, 0, 0, []), (72, 8, 0, 0, 2, 0, [29]), (75, 0, 0, 0, 0, 1, []), (76, 2, 0, 0, 0, 0, []), (77, 10, 0, 0, 2, 0, [29]), (80, 9, 5, 0, 0, 0, [])]
theorem k_C_add : okP s_C_add p_C_add := okP_of _ (by decide +kernel) (WS_places [429, 422, 423, 64, 424, 118, 116, 116, 116, 430, 118, 118] (by decide +kernel) (by decide +kernel)) (nest_places [] (by decide +kernel))
def p_C_addRowOf : List PI := [(0, 1, 1, 0, 0, 0, []), (1, 11, 0, 0, 3, 0, [37, 1]), (4, 5, 0, 8, 0, 0, []), (7, 9, 5, 0, 0, 0, []), (8, 1, 1, 0, 0, 0, []), (9, 8, 0, 0, 2, 0, [29]), (12, 0, 0, 0, 1, 6, []), (14, 2, 2, 0, 0, 0, []), (15, 1, 3, 4, 0, 0, []), (17, 0, 0, 0, 0, 0, []), (18, 1, 3, 5, 0, 0, []), (20, 1, 0, 5, 0, 0, []), (22, 0, 0, 0, 0, 4, []), (23, 4, 4, 49, 0, 0, []), (26, 1, 1, 0, 0, 0, []), (27, 8, 1, 0, 0, 0, [21]), (30, 1, 0, 4, 0, 0, []), (32, 1, 0, 5, 0, 0, []), (34, 2, 0, 0, 0, 0, []), (35, 1, 1, 1, 0, 0, []), (36, 1, 0, 2, 0, 0, []), (37, 1, 0, 5, 0, 0, []), (39, 11, 0, 0, 5, 0, [41, 3]), (42, 10, 4, 0, 0, 0, []), (43, 1, 6, 5, 0, 1, []), (46, 6, 0, 20, 0, 0, []), (49, 1, 1, 0, 0, 0, []), (50, 8, 1, 0, 0, 0, [21]), (53, 1, 0, 4, 0, 0, []), (55, 0, 0, 0, 0, 5, []), (56, 2, 0, 0, 0, 0, []), (57, 1, 0, 3, 0, 0, []), (58, 10, 4, 0, 0, 0, []), (59, 1, 1, 0, 0, 0, []), (60, 7, 0, 0, 0, 0, []), (61, 8, 0, 0, 2, 0, [29]), (64, 0, 0, 0, 0, 1, []), (65, 2, 0, 0, 0, 0, []), (66, 10, 0, 0, 2, 0, [29]), (69, 9, 5, 0, 0, 0, [])]
theorem k_C_addRowOf : okP s_C_addRowOf p_C_addRowOf := okP_of _ (by decide +kernel) (WS_places [429, 422, 423, 64, 424, 118, 116, 439, 440, 441, 64, 442, 116, 118, 118] (by decide +kernel) (by decide +kernel)) (nest_places [] (by decide +kernel))
def p_C_remove : List PI := [(0, 1, 0, 1, 0, 0, []), (1, 0, 0, 0, 0, 0, []), (2, 1, 1, 0, 0, 0, []), (3, 8, 0, 0, 2, 0, [29]), (6, 0, 0, 0, 0, 1, []), (7, 2, 1, 0, 0, 0, []), (8, 11, 2, 0, 4, 0, [32, 3, 4]), (11, 5, 1, 15, 0, 0, []), (14, 9, 5, 0, 0, 0, []), (15, 1, 1, 0, 0, 0, []), (16, 7, 0, 0, 0, 0, []), (17, 8, 0, 0, 2, 0, [29]), (20, 0, 0, 0, 0, 1, []), (21, 2, 1, 0, 0, 0, []), (22, 10, 0, 0, 2, 0, [29]), (25, 1, 0, 1, 0, 0, []), (26, 0, 0, 0, 1, 6, []), (28, 2, 2, 0, 0, 0, []), (29, 1, 3, 2, 0, 0, []), (30, 1, 0, 2, 0, 0, []), (31, 1, 1, 0, 0, 0, []), (32, 8, 0, 0, 2, 0, [29]), (35, 0, 0, 0, 1, 6, []), (37, 2, 2, 0, 0, 0, []), (38, 4, 3, 62, 0, 0, []), (41, 1, 1, 0, 0, 0, []), (42, 8, 1, 0, 0, 0, [21]), (45, 1, 0, 2, 0, 0, []), (46, 1, 1, 0, 0, 0, []), (47, 8, 1, 0, 0, 0, [21]), (50, 1, 0, 2, 0, 0, []), (51, 0, 0, 0, 1, 6, []), (53, 2, 0, 0, 0, 0, []), (54, 8, 4, 0, 0, 0, []), (55, 10, 4, 0, 0, 0, []), (56, 1, 6, 2, 0, 1, []), (59, 6, 0, 30, 0, 0, []), (62, 9, 5, 0, 0, 0, [])]
theorem k_C_remove : okP s_C_remove p_C_remove := okP_of _ (by decide +kernel) (WS_places [118, 241, 61, 242, 118, 118, 118, 116, 116] (by decide +kernel) (by decide +kernel)) (nest_places [4] (by decide +kernel))
def p_C_removeAllOf : List PI := [(0, 1, 1, 0, 0, 0, []), (1, 8, 0, 0, 2, 0, [29]), (4, 0, 0, 0, 0, 1, []), (5, 2, 1, 0, 0, 0, []), (6, 1, 3, 2, 0, 0, []), (7, 1, 0, 2, 0, 0, []), (8, 5, 2, 32, 0, 0, []), (11, 1, 1, 0, 0, 0, []), (12, 1, 0, 2, 0, 0, []), (13, 0, 0, 0, 0, 4, []), (14, 11, 0, 0, 5, 0, [41, 3]), (17, 1, 0, 1, 0, 0, []), (18, 4, 1, 26, 0, 0, []), (21, 1, 1, 0, 0, 0, []), (22, 1, 0, 2, 0, 0, []), (23, 11, 0, 0, 8, 0, [44, 2]), (26, 1, 6, 2, 0, -1, []), (29, 6, 0, 7, 0, 0, []), (32, 9, 5, 0, 0, 0, [])]
theorem k_C_removeAllOf : okP s_C_removeAllOf p_C_removeAllOf := okP_of _ (by decide +kernel) (WS_places [118, 439, 440, 441, 64, 442, 578, 445, 446, 64, 447] (by decide +kernel) (by decide +kernel)) (nest_places [] (by decide +kernel))
def p_C_countOf : List PI := [(0, 0, 0, 0, 0, 0, []), (1, 1, 3, 2, 0, 0, []), (2, 0, 0, 0, 0, 0, []), (3, 1, 3, 3, 0, 0, []), (4, 1, 0, 3, 0, 0, []), (5, 1, 1, 0, 0, 0, []), (6, 8, 0, 0, 2, 0, [29]), (9, 4, 3, 31, 0, 0, []), (12, 1, 1, 0, 0, 0, []), (13, 1, 0, 3, 0, 0, []), (14, 0, 0, 0, 0, 4, []), (15, 11, 0, 0, 5, 0, [41, 3]), (18, 1, 0, 1, 0, 0, []), (19, 4, 1, 25, 0, 0, []), (22, 1, 6, 2, 0, 1, []), (25, 1, 6, 3, 0, 1, []), (28, 6, 0, 4, 0, 0, []), (31, 1, 0, 2, 0, 0, []), (32, 9, 0, 0, 0, 0, [])]
theorem k_C_countOf : okP s_C_countOf p_C_countOf := okP_of _ (by decide +kernel) (WS_places [118, 439, 440, 441, 64, 442] (by decide +kernel) (by decide +kernel)) (nest_places [] (by decide +kernel))
def p_C_firstWith : List PI := [(0, 0, 0, 0, 0, 0, []), (1, 1, 3, 3, 0, 0, []), (2, 1, 0, 3, 0, 0, []), (3, 1, 1, 0, 0, 0, []), (4, 8, 0, 0, 2, 0, [29]), (7, 4, 3, 28, 0, 0, []), (10, 1, 1, 0, 0, 0, []), (11, 1, 0, 3, 0, 0, []), (12, 1, 0, 1, 0, 0, []), (13, 11, 0, 0, 5, 0, [41, 3]), (16, 1, 0, 2, 0, 0, []), (17, 4, 1, 22, 0, 0, []), (20, 1, 0, 3, 0, 0, []), (21, 9, 0, 0, 0, 0, []), (22, 1, 6, 3, 0, 1, []), (25, 6, 0, 2, 0, 0, []), (28, 0, 0, 0, 0, -1, []), (29, 9, 0, 0, 0, 0, [])]
theorem k_C_firstWith : okP s_C_firstWith p_C_firstWith := okP_of _ (by decide +kernel) (WS_places [118, 439, 440, 441, 64, 442] (by decide +kernel) (by decide +kernel)) (nest_places [] (by decide +kernel))
def p_C_rowOf : List PI := [(0, 1, 0, 1, 0, 0, []), (1, 5, 3, 8, 0, 0, []), (4, 0, 0, 0, 0, -1, []), (5, 6, 0, 14, 0, 0, []), (8, 1, 1, 0, 0, 0, []), (9, 0, 0, 0, 0, 5, []), (10, 1, 0, 1, 0, 0, []), (11, 11, 0, 0, 11, 0, [48, 3]), (14, 9, 0, 0, 0, 0, [])]
theorem k_C_rowOf : okP s_C_rowOf p_C_rowOf := okP_of _ (by decide +kernel) (WS_places [501, 436, 437, 64, 438] (by decide +kernel) (by decide +kernel)) (nest_places [] (by decide +kernel))
def p_L_init : List PI := [(0, 1, 1, 0, 0, 0, []), (1, 12, 3, 0, 0, 0, [3]), (4, 1, 1, 0, 0, 0, []), (5, 0, 0, 0, 0, 4, []), (6, 10, 7, 0, 0, 0, []), (8, 10, 1, 2, 0, 0, [9]), (11, 1, 1, 0, 0, 0, []), (12, 0, 0, 0, 0, 4, []), (13, 10, 7, 0, 0, 0, []), (15, 10, 1, 2, 1, 0, [15]), (18, 1, 1, 0, 0, 0, []), (19, 0, 0, 0, 0, 4, []), (20, 10, 7, 0, 0, 0, []), (22, 10, 1, 2, 2, 0, [18]), (25, 1, 1, 0, 0, 0, []), (26, 0, 0, 0, 1, 6, []), (28, 10, 7, 0, 0, 0, []), (30, 10, 1, 2, 3, 0, [21]), (33, 1, 1, 0, 0, 0, []), (34, 0, 0, 0, 1, 6, []), (36, 10, 7, 0, 0, 0, []), (38, 10, 1, 2, 4, 0, [24]), (41, 1, 1, 0, 0, 0, []), (42, 0, 0, 0, 1, 6, []), (44, 10, 7, 0, 0, 0, []), (46, 10, 1, 2, 5, 0, [27]), (49, 1, 1, 0, 0, 0, []), (50, 0, 0, 0, 1, 24, []), (52, 10, 7, 0, 0, 0, []), (54, 10, 1, 2, 6, 0, [30]), (57, 1, 1, 0, 0, 0, []), (58, 0, 0, 0, 1, 24, []), (60, 10, 7, 0, 0, 0, []), (62, 10, 1, 2, 7, 0, [33]), (65, 1, 1, 0, 0, 0, []), (66, 0, 0, 0, 1, 24, []), (68, 10, 7, 0, 0, 0, []), (70, 10, 1, 2, 8, 0, [36]), (73, 1, 1, 0, 0, 0, []), (74, 10, 6, 0, 0, 0, [39]), (77, 7, 0, 0, 0, 0, []), (78, 0, 0, 0, 1, 40, []), (80, 11, 4, 0, 0, 0, [41, 2]), (83, 10, 1, 2, 9, 0, [44]), (86, 1, 1, 0, 0, 0, []), (87, 10, 6, 0, 0, 0, [39]), (90, 7, 0, 0, 0, 0, []), (91, 0, 0, 0, 1, 24, []), (93, 11, 4, 0, 0, 0, [41, 2]), (96, 10, 1, 2, 10, 0, [48]), (99, 1, 1, 0, 0, 0, []), (100, 0, 0, 0, 1, 6, []), (102, 10, 7, 0, 0, 0, []), (104, 10, 1, 2, 11, 0, [51]), (107, 1, 1, 0, 0, 0, []), (108, 0, 0, 0, 0, 3, []), (109, 10, 0, 2, 15, 0, [54]), (112, 0, 0, 0, 0, 0, []), (113, 1, 3, 1, 0, 0, []), (114, 1, 0, 1, 0, 0, []), (115, 0, 0, 0, 1, 6, []), (117, 4, 3, 134, 0, 0, []), (120, 1, 1, 0, 0, 0, []), (121, 8, 1, 2, 5, 0, [27]), (124, 1, 0, 1, 0, 0, []), (125, 0, 0, 58, 3, -1000003, []), (127, 10, 4, 0, 0, 0, []), (128, 1, 6, 1, 0, 1, []), (131, 6, 0, 114, 0, 0, []), (134, 9, 5, 0, 0, 0, [])]
theorem k_L_init : okP s_L_init p_L_init := okP_of _ (by decide +kernel) (WS_places [106, 79, 80, 100, 128, 100, 130, 100, 132, 100, 134, 100, 136, 100, 138, 100, 140, 100, 142, 100, 144, 107, 108, 64, 109, 110, 64, 111, 146, 107, 108, 64, 109, 110, 64, 111, 148, 100, 150, 157, 138, 127] (by decide +kernel) (by decide +kernel)) (nest_places [] (by decide +kernel))
def p_H_init : List PI := [(0, 1, 1, 0, 0, 0, []), (1, 12, 3, 0, 0, 0, [3]), (4, 1, 1, 0, 0, 0, []), (5, 0, 0, 0, 1, 8, []), (7, 10, 8, 0, 0, 0, [9]), (10, 10, 1, 1, 0, 0, [11]), (13, 0, 0, 0, 0, 0, []), (14, 1, 3, 1, 0, 0, []), (15, 1, 0, 1, 0, 0, []), (16, 0, 0, 0, 1, 8, []), (18, 4, 3, 40, 0, 0, []), (21, 1, 1, 0, 0, 0, []), (22, 8, 1, 1, 0, 0, [11]), (25, 1, 0, 1, 0, 0, []), (26, 10, 6, 2, 0, 0, [9]), (29, 7, 0, 0, 0, 0, []), (30, 11, 4, 0, 13, 0, [17, 1]), (33, 10, 5, 0, 0, 0, []), (34, 1, 6, 1, 0, 1, []), (37, 6, 0, 15, 0, 0, []), (40, 9, 5, 0, 0, 0, [])]
theorem k_H_init : okP s_H_init p_H_init := okP_of _ (by decide +kernel) (WS_places [205, 79, 80, 206, 209, 209, 206, 102, 63, 208, 104, 63, 105] (by decide +kernel) (by decide +kernel)) (nest_places [] (by decide +kernel))
def p_H_dropOldest : List PI := [(0, 1, 1, 0, 0, 0, []), (1, 8, 1, 1, 0, 0, [11]), (4, 0, 0, 0, 0, 0, []), (5, 8, 5, 0, 0, 0, []), (6, 1, 4, 1, 0, 0, []), (7, 0, 0, 0, 0, 1, []), (8, 1, 3, 2, 0, 0, []), (9, 1, 0, 2, 0, 0, []), (10, 0, 0, 0, 1, 8, []), (12, 4, 3, 35, 0, 0, []), (15, 1, 1, 0, 0, 0, []), (16, 8, 1, 1, 0, 0, [11]), (19, 1, 0, 2, 0, 0, []), (20, 0, 0, 0, 0, 1, []), (21, 2, 1, 0, 0, 0, []), (22, 1, 1, 0, 0, 0, []), (23, 8, 1, 1, 0, 0, [11]), (26, 1, 0, 2, 0, 0, []), (27, 8, 5, 0, 0, 0, []), (28, 10, 5, 0, 0, 0, []), (29, 1, 6, 2, 0, 1, []), (32, 6, 0, 9, 0, 0, []), (35, 1, 1, 0, 0, 0, []), (36, 8, 1, 1, 0, 0, [11]), (39, 0, 0, 0, 1, 7, []), (41, 1, 1, 1, 0, 0, []), (42, 10, 5, 0, 0, 0, []), (43, 1, 1, 0, 0, 0, []), (44, 0, 0, 0, 1, 7, []), (46, 10, 0, 1, 1, 0, [18]), (49, 9, 5, 0, 0, 0, [])]
theorem k_H_dropOldest : okP s_H_dropOldest p_H_dropOldest := okP_of _ (by decide +kernel) (WS_places [209, 209, 209, 209, 210] (by decide +kernel) (by decide +kernel)) (nest_places [] (by decide +kernel))
def p_L_copyFrom : List PI := [(0, 1, 1, 1, 0, 0, []), (1, 8, 1, 2, 0, 0, [9]), (4, 1, 1, 0, 0, 0, []), (5, 8, 1, 2, 0, 0, [9]), (8, 11, 2, 0, 1, 0, [59, 2, 2]), (11, 1, 1, 1, 0, 0, []), (12, 8, 1, 2, 1, 0, [15]), (15, 1, 1, 0, 0, 0, []), (16, 8, 1, 2, 1, 0, [15]), (19, 11, 2, 0, 1, 0, [59, 2, 2]), (22, 1, 1, 1, 0, 0, []), (23, 8, 1, 2, 2, 0, [18]), (26, 1, 1, 0, 0, 0, []), (27, 8, 1, 2, 2, 0, [18]), (30, 11, 2, 0, 1, 0, [59, 2, 2]), (33, 1, 1, 1, 0, 0, []), (34, 8, 1, 2, 3, 0, [21]), (37, 1, 1, 0, 0, 0, []), (38, 8, 1, 2, 3, 0, [21]), (41, 11, 2, 0, 1, 0, [59, 2, 2]), (44, 1, 1, 1, 0, 0, []), (45, 8, 1, 2, 4, 0, [24]), (48, 1, 1, 0, 0, 0, []), (49, 8, 1, 2, 4, 0, [24]), (52, 11, 2, 0, 1, 0, [59, 2, 2]), (55, 1, 1, 1, 0, 0, []), (56, 8, 1, 2, 5, 0, [27]), (59, 1, 1, 0, 0, 0, []), (60, 8, 1, 2, 5, 0, [27]), (63, 11, 2, 0, 1, 0, [59, 2, 2]), (66, 1, 1, 1, 0, 0, []), (67, 8, 1, 2, 6, 0, [30]), (70, 1, 1, 0, 0, 0, []), (71, 8, 1, 2, 6, 0, [30]), (74, 11, 2, 0, 1, 0, [59, 2, 2]), (77, 1, 1, 1, 0, 0, []), (78, 8, 1, 2, 7, 0, [33]), (81, 1, 1, 0, 0, 0, []), (82, 8, 1, 2, 7, 0, [33]), (85, 11, 2, 0, 1, 0, [59, 2, 2]), (88, 1, 1, 1, 0, 0, []), (89, 8, 1, 2, 8, 0, [36]), (92, 1, 1, 0, 0, 0, []), (93, 8, 1, 2, 8, 0, [36]), (96, 11, 2, 0, 1, 0, [59, 2, 2]), (99, 1, 1, 0, 0, 0, []), (100, 8, 1, 2, 9, 0, [44]), (103, 1, 1, 1, 0, 0, []), (104, 8, 1, 2, 9, 0, [44]), (107, 11, 0, 0, 2, 0, [63, 2]), (110, 1, 1, 0, 0, 0, []), (111, 8, 1, 2, 10, 0, [48]), (114, 1, 1, 1, 0, 0, []), (115, 8, 1, 2, 10, 0, [48]), (118, 11, 0, 0, 2, 0, [63, 2]), (121, 1, 1, 1, 0, 0, []), (122, 8, 1, 2, 11, 0, [51]), (125, 1, 1, 0, 0, 0, []), (126, 8, 1, 2, 11, 0, [51]), (129, 11, 2, 0, 1, 0, [59, 2, 2]), (132, 1, 1, 0, 0, 0, []), (133, 1, 1, 1, 0, 0, []), (134, 8, 0, 2, 12, 0, [67]), (137, 10, 0, 2, 12, 0, [67]), (140, 1, 1, 0, 0, 0, []), (141, 1, 1, 1, 0, 0, []), (142, 8, 0, 2, 13, 0, [70]), (145, 10, 0, 2, 13, 0, [70]), (148, 1, 1, 0, 0, 0, []), (149, 1, 1, 1, 0, 0, []), (150, 8, 0, 2, 14, 0, [73]), (153, 10, 0, 2, 14, 0, [73]), (156, 1, 1, 0, 0, 0, []), (157, 1, 1, 1, 0, 0, []), (158, 8, 0, 2, 15, 0, [54]), (161, 10, 0, 2, 15, 0, [54]), (164, 1, 1, 0, 0, 0, []), (165, 1, 1, 1, 0, 0, []), (166, 8, 0, 2, 16, 0, [76]), (169, 10, 0, 2, 16, 0, [76]), (172, 1, 1, 0, 0, 0, []), (173, 1, 1, 1, 0, 0, []), (174, 8, 0, 2, 17, 0, [79]), (177, 10, 0, 2, 17, 0, [79]), (180, 9, 5, 0, 0, 0, [])]
theorem k_L_copyFrom : okP s_L_copyFrom p_L_copyFrom := okP_of _ (by decide +kernel) (WS_places [128, 128, 368, 61, 369, 130, 130, 368, 61, 369, 132, 132, 368, 61, 369, 134, 134, 368, 61, 369, 136, 136, 368, 61, 369, 138, 138, 368, 61, 369, 140, 140, 368, 61, 369, 142, 142, 368, 61, 369, 144, 144, 368, 61, 369, 146, 146, 376, 377, 378, 64, 379, 148, 148, 376, 377, 378, 64, 379, 150, 150, 368, 61, 369, 151, 151, 153, 153, 155, 155, 157, 157, 159, 159, 161, 161] (by decide +kernel) (by decide +kernel)) (nest_places [2, 2, 2, 2, 2, 2, 2, 2, 2, 2] (by decide +kernel))
def p_H_keep : List PI := [(0, 1, 1, 0, 0, 0, []), (1, 8, 0, 1, 1, 0, [18]), (4, 0, 0, 0, 1, 8, []), (6, 4, 2, 13, 0, 0, []), (9, 1, 1, 0, 0, 0, []), (10, 11, 0, 1, 15, 0, [22, 1]), (13, 1, 1, 0, 0, 0, []), (14, 8, 1, 1, 0, 0, [11]), (17, 1, 1, 0, 0, 0, []), (18, 8, 0, 1, 1, 0, [18]), (21, 8, 5, 0, 0, 0, []), (22, 1, 1, 1, 0, 0, []), (23, 11, 0, 2, 16, 0, [25, 2]), (26, 1, 1, 0, 0, 0, []), (27, 7, 0, 0, 0, 0, []), (28, 8, 0, 1, 1, 0, [18]), (31, 0, 0, 0, 0, 1, []), (32, 2, 0, 0, 0, 0, []), (33, 10, 0, 1, 1, 0, [18]), (36, 9, 5, 0, 0, 0, [])]
theorem k_H_keep : okP s_H_keep p_H_keep := okP_of _ (by decide +kernel) (WS_places [210, 359, 361, 7, 66, 362, 209, 210, 363, 364, 365, 63, 366, 210, 210] (by decide +kernel) (by decide +kernel)) (nest_places [] (by decide +kernel))
def p_H_restore : List PI := [(0, 1, 1, 0, 0, 0, []), (1, 8, 0, 1, 1, 0, [18]), (4, 5, 5, 30, 0, 0, []), (7, 1, 1, 0, 0, 0, []), (8, 7, 0, 0, 0, 0, []), (9, 8, 0, 1, 1, 0, [18]), (12, 0, 0, 0, 0, 1, []), (13, 2, 1, 0, 0, 0, []), (14, 10, 0, 1, 1, 0, [18]), (17, 1, 1, 1, 0, 0, []), (18, 1, 1, 0, 0, 0, []), (19, 8, 1, 1, 0, 0, [11]), (22, 1, 1, 0, 0, 0, []), (23, 8, 0, 1, 1, 0, [18]), (26, 8, 5, 0, 0, 0, []), (27, 11, 0, 2, 16, 0, [25, 2]), (30, 9, 5, 0, 0, 0, [])]
theorem k_H_restore : okP s_H_restore p_H_restore := okP_of _ (by decide +kernel) (WS_places [210, 210, 210, 209, 210, 363, 364, 365, 63, 366] (by decide +kernel) (by decide +kernel)) (nest_places [] (by decide +kernel))
def p_L_hasTenant : List PI := [(0, 1, 0, 1, 0, 0, []), (1, 5, 2, 22, 0, 0, []), (4, 1, 0, 1, 0, 0, []), (5, 1, 1, 0, 0, 0, []), (6, 8, 0, 2, 13, 0, [70]), (9, 4, 3, 22, 0, 0, []), (12, 1, 0, 1, 0, 0, []), (13, 0, 0, 0, 1, 6, []), (15, 4, 3, 22, 0, 0, []), (18, 0, 0, 0, 0, 1, []), (19, 6, 0, 23, 0, 0, []), (22, 0, 0, 0, 0, 0, []), (23, 9, 1, 0, 0, 0, [])]
theorem k_L_hasTenant : okP s_L_hasTenant p_L_hasTenant := okP_of _ (by decide +kernel) (WS_places [153] (by decide +kernel) (by decide +kernel)) (nest_places [] (by decide +kernel))
def p_L_priceOf : List PI := [(0, 1, 0, 1, 0, 0, []), (1, 11, 2, 0, 20, 0, [82, 1, 6]), (4, 5, 0, 17, 0, 0, []), (7, 1, 1, 0, 0, 0, []), (8, 8, 1, 2, 0, 0, [9]), (11, 1, 0, 1, 0, 0, []), (12, 8, 4, 0, 0, 0, []), (13, 0, 0, 0, 0, 1, []), (14, 4, 3, 20, 0, 0, []), (17, 0, 0, 0, 1, 10, []), (19, 9, 0, 0, 0, 0, []), (20, 0, 0, 0, 0, 1, []), (21, 0, 0, 0, 1, 9, []), (23, 1, 1, 0, 0, 0, []), (24, 8, 1, 2, 2, 0, [18]), (27, 1, 0, 1, 0, 0, []), (28, 8, 4, 0, 0, 0, []), (29, 2, 2, 0, 0, 0, []), (30, 1, 1, 0, 0, 0, []), (31, 8, 1, 2, 0, 0, [9]), (34, 1, 0, 1, 0, 0, []), (35, 8, 4, 0, 0, 0, []), (36, 2, 3, 0, 0, 0, []), (37, 2, 0, 0, 0, 0, []), (38, 9, 0, 0, 0, 0, [])]
theorem k_L_priceOf : okP s_L_priceOf p_L_priceOf := okP_of _ (by decide +kernel) (WS_places [352, 61, 353, 128, 132, 128] (by decide +kernel) (by decide +kernel)) (nest_places [6] (by decide +kernel))
def p_L_shareOf : List PI := [(0, 1, 1, 0, 0, 0, []), (1, 1, 0, 1, 0, 0, []), (2, 11, 0, 2, 19, 0, [86, 2]), (5, 5, 1, 10, 0, 0, []), (8, 0, 0, 0, 0, 0, []), (9, 9, 0, 0, 0, 0, []), (10, 0, 0, 0, 0, 0, []), (11, 1, 3, 2, 0, 0, []), (12, 0, 0, 0, 0, 0, []), (13, 1, 3, 3, 0, 0, []), (14, 1, 0, 3, 0, 0, []), (15, 0, 0, 0, 0, 4, []), (16, 4, 3, 67, 0, 0, []), (19, 1, 1, 0, 0, 0, []), (20, 8, 1, 2, 0, 0, [9]), (23, 1, 0, 3, 0, 0, []), (24, 8, 4, 0, 0, 0, []), (25, 1, 1, 0, 0, 0, []), (26, 8, 1, 2, 3, 0, [21]), (29, 1, 0, 1, 0, 0, []), (30, 8, 4, 0, 0, 0, []), (31, 2, 2, 0, 0, 0, []), (32, 1, 3, 4, 0, 0, []), (34, 1, 0, 4, 0, 0, []), (36, 5, 5, 61, 0, 0, []), (39, 1, 0, 2, 0, 0, []), (40, 0, 0, 0, 2, 10000, []), (43, 1, 1, 0, 0, 0, []), (44, 8, 1, 2, 8, 0, [36]), (47, 1, 0, 1, 0, 0, []), (48, 1, 0, 3, 0, 0, []), (49, 11, 2, 0, 22, 0, [89, 2, 5]), (52, 8, 4, 0, 0, 0, []), (53, 2, 2, 0, 0, 0, []), (54, 1, 0, 4, 0, 0, []), (56, 2, 3, 0, 0, 0, []), (57, 12, 0, 0, 0, 0, [93]), (60, 1, 3, 2, 0, 0, []), (61, 1, 6, 3, 0, 1, []), (64, 6, 0, 14, 0, 0, []), (67, 1, 0, 2, 0, 0, []), (68, 9, 0, 0, 0, 0, [])]
theorem k_L_shareOf : okP s_L_shareOf p_L_shareOf := okP_of _ (by decide +kernel) (WS_places [462, 394, 395, 63, 396, 128, 134, 144, 402, 61, 403, 468, 114, 65, 115] (by decide +kernel) (by decide +kernel)) (nest_places [5] (by decide +kernel))
def p_L_sumOverTenants : List PI := [(0, 0, 0, 0, 0, 0, []), (1, 1, 3, 3, 0, 0, []), (2, 1, 0, 2, 0, 0, []), (3, 0, 0, 0, 0, 0, []), (4, 12, 0, 0, 0, 0, [93]), (7, 1, 3, 4, 0, 0, []), (9, 1, 0, 4, 0, 0, []), (11, 1, 1, 1, 0, 0, []), (12, 8, 6, 0, 0, 0, []), (13, 4, 3, 29, 0, 0, []), (16, 1, 0, 3, 0, 0, []), (17, 1, 1, 1, 0, 0, []), (18, 1, 0, 4, 0, 0, []), (20, 8, 4, 0, 0, 0, []), (21, 2, 0, 0, 0, 0, []), (22, 1, 3, 3, 0, 0, []), (23, 1, 6, 4, 0, 4, []), (26, 6, 0, 9, 0, 0, []), (29, 1, 0, 3, 0, 0, []), (30, 9, 0, 0, 0, 0, [])]
theorem k_L_sumOverTenants : okP s_L_sumOverTenants p_L_sumOverTenants := okP_of _ (by decide +kernel) (WS_places [468, 114, 65, 115] (by decide +kernel) (by decide +kernel)) (nest_places [] (by decide +kernel))
def p_L_loansOf : List PI := [(0, 0, 0, 0, 0, 0, []), (1, 1, 3, 2, 0, 0, []), (2, 0, 0, 0, 0, 0, []), (3, 1, 3, 3, 0, 0, []), (4, 1, 0, 3, 0, 0, []), (5, 0, 0, 0, 0, 4, []), (6, 4, 3, 36, 0, 0, []), (9, 1, 1, 0, 0, 0, []), (10, 1, 0, 1, 0, 0, []), (11, 11, 0, 2, 19, 0, [86, 2]), (14, 5, 0, 36, 0, 0, []), (17, 1, 0, 2, 0, 0, []), (18, 1, 1, 0, 0, 0, []), (19, 8, 1, 2, 7, 0, [33]), (22, 1, 0, 1, 0, 0, []), (23, 1, 0, 3, 0, 0, []), (24, 11, 2, 0, 22, 0, [89, 2, 5]), (27, 8, 4, 0, 0, 0, []), (28, 2, 0, 0, 0, 0, []), (29, 1, 3, 2, 0, 0, []), (30, 1, 6, 3, 0, 1, []), (33, 6, 0, 4, 0, 0, []), (36, 1, 0, 2, 0, 0, []), (37, 9, 0, 0, 0, 0, [])]
theorem k_L_loansOf : okP s_L_loansOf p_L_loansOf := okP_of _ (by decide +kernel) (WS_places [462, 394, 395, 63, 396, 142, 402, 61, 403] (by decide +kernel) (by decide +kernel)) (nest_places [5] (by decide +kernel))
def p_L_freePart : List PI := [(0, 1, 1, 0, 0, 0, []), (1, 1, 0, 1, 0, 0, []), (2, 11, 0, 2, 19, 0, [86, 2]), (5, 5, 0, 15, 0, 0, []), (8, 1, 0, 2, 0, 0, []), (9, 11, 2, 0, 20, 0, [82, 1, 6]), (12, 5, 1, 17, 0, 0, []), (15, 0, 0, 0, 0, 0, []), (16, 9, 0, 0, 0, 0, []), (17, 1, 0, 1, 0, 0, []), (18, 1, 0, 2, 0, 0, []), (19, 11, 2, 0, 22, 0, [89, 2, 5]), (22, 1, 3, 3, 0, 0, []), (23, 1, 1, 0, 0, 0, []), (24, 8, 1, 2, 6, 0, [30]), (27, 1, 0, 3, 0, 0, []), (28, 8, 4, 0, 0, 0, []), (29, 1, 1, 0, 0, 0, []), (30, 8, 1, 2, 8, 0, [36]), (33, 1, 0, 3, 0, 0, []), (34, 8, 4, 0, 0, 0, []), (35, 2, 1, 0, 0, 0, []), (36, 9, 0, 0, 0, 0, [])]
theorem k_L_freePart : okP s_L_freePart p_L_freePart := okP_of _ (by decide +kernel) (WS_places [462, 394, 395, 63, 396, 352, 61, 353, 402, 61, 403, 140, 144] (by decide +kernel) (by decide +kernel)) (nest_places [6, 5] (by decide +kernel))
def p_L_exchangeable : List PI := [(0, 1, 1, 0, 0, 0, []), (1, 1, 0, 1, 0, 0, []), (2, 11, 0, 2, 19, 0, [86, 2]), (5, 5, 0, 15, 0, 0, []), (8, 1, 0, 2, 0, 0, []), (9, 11, 2, 0, 20, 0, [82, 1, 6]), (12, 5, 1, 17, 0, 0, []), (15, 0, 0, 0, 0, 0, []), (16, 9, 0, 0, 0, 0, []), (17, 1, 0, 1, 0, 0, []), (18, 1, 0, 2, 0, 0, []), (19, 11, 2, 0, 22, 0, [89, 2, 5]), (22, 1, 3, 3, 0, 0, []), (23, 1, 1, 0, 0, 0, []), (24, 8, 1, 2, 6, 0, [30]), (27, 1, 0, 3, 0, 0, []), (28, 8, 4, 0, 0, 0, []), (29, 1, 1, 0, 0, 0, []), (30, 8, 1, 2, 8, 0, [36]), (33, 1, 0, 3, 0, 0, []), (34, 8, 4, 0, 0, 0, []), (35, 2, 1, 0, 0, 0, []), (36, 1, 1, 0, 0, 0, []), (37, 8, 1, 2, 6, 0, [30]), (40, 1, 0, 3, 0, 0, []), (41, 8, 4, 0, 0, 0, []), (42, 1, 1, 0, 0, 0, []), (43, 8, 1, 2, 7, 0, [33]), (46, 1, 0, 3, 0, 0, []), (47, 8, 4, 0, 0, 0, []), (48, 2, 1, 0, 0, 0, []), (49, 12, 1, 0, 0, 0, [98]), (52, 9, 0, 0, 0, 0, [])]
theorem k_L_exchangeable : okP s_L_exchangeable p_L_exchangeable := okP_of _ (by decide +kernel) (WS_places [462, 394, 395, 63, 396, 352, 61, 353, 402, 61, 403, 140, 144, 140, 142, 522, 371, 65, 372] (by decide +kernel) (by decide +kernel)) (nest_places [6, 5] (by decide +kernel))
def p_L_addToFund : List PI := [(0, 1, 0, 1, 0, 0, []), (1, 11, 2, 0, 20, 0, [82, 1, 6]), (4, 5, 0, 27, 0, 0, []), (7, 1, 1, 0, 0, 0, []), (8, 8, 1, 2, 1, 0, [15]), (11, 1, 0, 1, 0, 0, []), (12, 1, 1, 0, 0, 0, []), (13, 8, 1, 2, 1, 0, [15]), (16, 1, 0, 1, 0, 0, []), (17, 8, 4, 0, 0, 0, []), (18, 1, 0, 2, 0, 0, []), (19, 2, 0, 0, 0, 0, []), (20, 0, 0, 0, 2, 999, []), (23, 12, 1, 0, 0, 0, [98]), (26, 10, 4, 0, 0, 0, []), (27, 9, 5, 0, 0, 0, [])]
theorem k_L_addToFund : okP s_L_addToFund p_L_addToFund := okP_of _ (by decide +kernel) (WS_places [352, 61, 353, 130, 130, 522, 371, 65, 372] (by decide +kernel) (by decide +kernel)) (nest_places [6] (by decide +kernel))
def p_L_giveBack : List PI := [(0, 1, 1, 0, 0, 0, []), (1, 1, 0, 1, 0, 0, []), (2, 11, 0, 2, 19, 0, [86, 2]), (5, 5, 0, 50, 0, 0, []), (8, 1, 0, 2, 0, 0, []), (9, 11, 2, 0, 20, 0, [82, 1, 6]), (12, 5, 0, 50, 0, 0, []), (15, 1, 0, 1, 0, 0, []), (16, 1, 0, 2, 0, 0, []), (17, 11, 2, 0, 22, 0, [89, 2, 5]), (20, 1, 3, 4, 0, 0, []), (22, 1, 1, 0, 0, 0, []), (23, 8, 1, 2, 7, 0, [33]), (26, 1, 0, 4, 0, 0, []), (28, 7, 1, 0, 0, 0, []), (29, 8, 4, 0, 0, 0, []), (30, 1, 0, 3, 0, 0, []), (31, 2, 1, 0, 0, 0, []), (32, 10, 4, 0, 0, 0, []), (33, 1, 1, 0, 0, 0, []), (34, 8, 1, 2, 6, 0, [30]), (37, 1, 0, 4, 0, 0, []), (39, 7, 1, 0, 0, 0, []), (40, 8, 4, 0, 0, 0, []), (41, 1, 0, 3, 0, 0, []), (42, 2, 1, 0, 0, 0, []), (43, 10, 4, 0, 0, 0, []), (44, 1, 1, 0, 0, 0, []), (45, 1, 0, 2, 0, 0, []), (46, 1, 0, 3, 0, 0, []), (47, 11, 0, 2, 28, 0, [101, 3]), (50, 9, 5, 0, 0, 0, [])]
theorem k_L_giveBack : okP s_L_giveBack p_L_giveBack := okP_of _ (by decide +kernel) (WS_places [462, 394, 395, 63, 396, 352, 61, 353, 402, 61, 403, 142, 140, 547, 524, 525, 63, 526] (by decide +kernel) (by decide +kernel)) (nest_places [6, 5] (by decide +kernel))
def p_L_fits : List PI := [(0, 1, 1, 0, 0, 0, []), (1, 8, 1, 2, 10, 0, [48]), (4, 1, 0, 1, 0, 0, []), (5, 0, 0, 0, 0, 4, []), (6, 11, 0, 0, 5, 0, [115, 3]), (9, 1, 3, 2, 0, 0, []), (10, 1, 1, 0, 0, 0, []), (11, 1, 0, 2, 0, 0, []), (12, 11, 0, 2, 19, 0, [86, 2]), (15, 5, 1, 20, 0, 0, []), (18, 0, 0, 0, 0, 0, []), (19, 9, 1, 0, 0, 0, []), (20, 0, 0, 0, 0, 0, []), (21, 1, 3, 3, 0, 0, []), (22, 1, 0, 3, 0, 0, []), (23, 0, 0, 0, 0, 4, []), (24, 4, 3, 91, 0, 0, []), (27, 1, 1, 0, 0, 0, []), (28, 8, 1, 2, 10, 0, [48]), (31, 1, 0, 1, 0, 0, []), (32, 1, 0, 3, 0, 0, []), (33, 11, 0, 0, 5, 0, [115, 3]), (36, 1, 3, 4, 0, 0, []), (38, 1, 0, 2, 0, 0, []), (39, 1, 0, 3, 0, 0, []), (40, 11, 2, 0, 22, 0, [89, 2, 5]), (43, 1, 3, 5, 0, 0, []), (45, 1, 1, 0, 0, 0, []), (46, 8, 1, 2, 8, 0, [36]), (49, 1, 0, 5, 0, 0, []), (51, 8, 4, 0, 0, 0, []), (52, 1, 0, 4, 0, 0, []), (54, 2, 0, 0, 0, 0, []), (55, 1, 1, 0, 0, 0, []), (56, 8, 1, 2, 6, 0, [30]), (59, 1, 0, 5, 0, 0, []), (61, 8, 4, 0, 0, 0, []), (62, 4, 4, 83, 0, 0, []), (65, 1, 1, 0, 0, 0, []), (66, 8, 1, 2, 2, 0, [18]), (69, 1, 0, 3, 0, 0, []), (70, 8, 4, 0, 0, 0, []), (71, 1, 0, 4, 0, 0, []), (73, 2, 0, 0, 0, 0, []), (74, 1, 1, 0, 0, 0, []), (75, 8, 1, 2, 0, 0, [9]), (78, 1, 0, 3, 0, 0, []), (79, 8, 4, 0, 0, 0, []), (80, 4, 5, 85, 0, 0, []), (83, 0, 0, 0, 0, 0, []), (84, 9, 1, 0, 0, 0, []), (85, 1, 6, 3, 0, 1, []), (88, 6, 0, 22, 0, 0, []), (91, 0, 0, 0, 0, 1, []), (92, 9, 1, 0, 0, 0, [])]
theorem k_L_fits : okP s_L_fits p_L_fits := okP_of _ (by decide +kernel) (WS_places [148, 461, 440, 441, 64, 442, 462, 394, 395, 63, 396, 148, 461, 440, 441, 64, 442, 402, 61, 403, 144, 140, 132, 128] (by decide +kernel) (by decide +kernel)) (nest_places [5] (by decide +kernel))
def p_L_nextDemand : List PI := [(0, 0, 0, 0, 0, -1, []), (1, 1, 3, 1, 0, 0, []), (2, 0, 0, 0, 0, 0, []), (3, 1, 3, 2, 0, 0, []), (4, 0, 0, 0, 0, 0, []), (5, 1, 3, 3, 0, 0, []), (6, 1, 0, 3, 0, 0, []), (7, 1, 1, 0, 0, 0, []), (8, 8, 0, 2, 13, 0, [70]), (11, 4, 3, 68, 0, 0, []), (14, 1, 1, 0, 0, 0, []), (15, 8, 1, 2, 10, 0, [48]), (18, 0, 0, 0, 0, 4, []), (19, 1, 0, 3, 0, 0, []), (20, 11, 0, 0, 11, 0, [105, 3]), (23, 1, 3, 4, 0, 0, []), (25, 1, 0, 4, 0, 0, []), (27, 5, 2, 62, 0, 0, []), (30, 1, 1, 0, 0, 0, []), (31, 1, 0, 4, 0, 0, []), (33, 11, 0, 2, 30, 0, [108, 2]), (36, 5, 0, 62, 0, 0, []), (39, 1, 1, 0, 0, 0, []), (40, 1, 0, 3, 0, 0, []), (41, 11, 0, 2, 23, 0, [111, 2]), (44, 1, 3, 5, 0, 0, []), (46, 1, 0, 1, 0, 0, []), (47, 5, 2, 56, 0, 0, []), (50, 1, 0, 5, 0, 0, []), (52, 1, 0, 2, 0, 0, []), (53, 4, 3, 62, 0, 0, []), (56, 1, 0, 4, 0, 0, []), (58, 1, 3, 1, 0, 0, []), (59, 1, 0, 5, 0, 0, []), (61, 1, 3, 2, 0, 0, []), (62, 1, 6, 3, 0, 1, []), (65, 6, 0, 6, 0, 0, []), (68, 1, 0, 1, 0, 0, []), (69, 9, 0, 0, 0, 0, [])]
theorem k_L_nextDemand : okP s_L_nextDemand p_L_nextDemand := okP_of _ (by decide +kernel) (WS_places [153, 148, 456, 436, 437, 64, 438, 457, 459, 8, 63, 460, 464, 465, 466, 63, 467] (by decide +kernel) (by decide +kernel)) (nest_places [] (by decide +kernel))
def p_L_addUse : List PI := [(0, 1, 1, 1, 0, 0, []), (1, 1, 0, 2, 0, 0, []), (2, 0, 0, 0, 0, 4, []), (3, 11, 0, 0, 5, 0, [115, 3]), (6, 1, 3, 4, 0, 0, []), (8, 0, 0, 0, 0, 0, []), (9, 1, 3, 5, 0, 0, []), (11, 1, 0, 5, 0, 0, []), (13, 0, 0, 0, 0, 4, []), (14, 4, 3, 72, 0, 0, []), (17, 1, 1, 0, 0, 0, []), (18, 1, 0, 4, 0, 0, []), (20, 11, 0, 2, 19, 0, [86, 2]), (23, 5, 0, 72, 0, 0, []), (26, 1, 0, 3, 0, 0, []), (27, 1, 1, 1, 0, 0, []), (28, 1, 0, 2, 0, 0, []), (29, 1, 0, 5, 0, 0, []), (31, 11, 0, 0, 5, 0, [115, 3]), (34, 2, 2, 0, 0, 0, []), (35, 1, 3, 6, 0, 0, []), (37, 1, 1, 0, 0, 0, []), (38, 8, 1, 2, 8, 0, [36]), (41, 1, 0, 4, 0, 0, []), (43, 1, 0, 5, 0, 0, []), (45, 11, 2, 0, 22, 0, [89, 2, 5]), (48, 7, 1, 0, 0, 0, []), (49, 8, 4, 0, 0, 0, []), (50, 1, 0, 6, 0, 0, []), (52, 2, 0, 0, 0, 0, []), (53, 10, 4, 0, 0, 0, []), (54, 1, 1, 0, 0, 0, []), (55, 8, 1, 2, 2, 0, [18]), (58, 1, 0, 5, 0, 0, []), (60, 7, 1, 0, 0, 0, []), (61, 8, 4, 0, 0, 0, []), (62, 1, 0, 6, 0, 0, []), (64, 2, 0, 0, 0, 0, []), (65, 10, 4, 0, 0, 0, []), (66, 1, 6, 5, 0, 1, []), (69, 6, 0, 11, 0, 0, []), (72, 9, 5, 0, 0, 0, [])]
theorem k_L_addUse : okP s_L_addUse p_L_addUse := okP_of _ (by decide +kernel) (WS_places [461, 440, 441, 64, 442, 462, 394, 395, 63, 396, 461, 440, 441, 64, 442, 144, 402, 61, 403, 132] (by decide +kernel) (by decide +kernel)) (nest_places [5] (by decide +kernel))
def p_L_serve : List PI := [(0, 1, 1, 0, 0, 0, []), (1, 8, 1, 2, 10, 0, [48]), (4, 1, 0, 1, 0, 0, []), (5, 0, 0, 0, 0, 4, []), (6, 11, 0, 0, 5, 0, [115, 3]), (9, 1, 3, 2, 0, 0, []), (10, 1, 1, 0, 0, 0, []), (11, 8, 1, 2, 9, 0, [44]), (14, 1, 1, 0, 0, 0, []), (15, 8, 1, 2, 10, 0, [48]), (18, 1, 0, 1, 0, 0, []), (19, 1, 1, 0, 0, 0, []), (20, 8, 0, 2, 16, 0, [76]), (23, 11, 0, 0, 7, 0, [118, 4]), (26, 1, 1, 0, 0, 0, []), (27, 7, 0, 0, 0, 0, []), (28, 8, 0, 2, 16, 0, [76]), (31, 0, 0, 0, 0, 1, []), (32, 2, 0, 0, 0, 0, []), (33, 10, 0, 2, 16, 0, [76]), (36, 1, 1, 0, 0, 0, []), (37, 1, 1, 0, 0, 0, []), (38, 8, 1, 2, 10, 0, [48]), (41, 1, 0, 1, 0, 0, []), (42, 0, 0, 0, 0, 1, []), (43, 11, 0, 2, 32, 0, [122, 4]), (46, 1, 1, 0, 0, 0, []), (47, 8, 1, 2, 10, 0, [48]), (50, 1, 0, 1, 0, 0, []), (51, 11, 0, 0, 8, 0, [125, 2]), (54, 1, 0, 2, 0, 0, []), (55, 9, 0, 0, 0, 0, [])]
theorem k_L_serve : okP s_L_serve p_L_serve := okP_of _ (by decide +kernel) (WS_places [148, 461, 440, 441, 64, 442, 146, 148, 159, 473, 474, 475, 64, 476, 159, 159, 148, 477, 479, 9, 63, 480, 148, 481, 445, 446, 64, 447] (by decide +kernel) (by decide +kernel)) (nest_places [] (by decide +kernel))
def p_L_serveAll : List PI := [(0, 0, 0, 0, 0, 0, []), (1, 1, 3, 2, 0, 0, []), (2, 1, 0, 2, 0, 0, []), (3, 1, 1, 1, 0, 0, []), (4, 8, 6, 0, 0, 0, []), (5, 4, 3, 47, 0, 0, []), (8, 1, 1, 0, 0, 0, []), (9, 8, 1, 2, 9, 0, [44]), (12, 11, 0, 0, 3, 0, [128, 1]), (15, 5, 0, 22, 0, 0, []), (18, 0, 0, 0, 0, -1, []), (19, 6, 0, 26, 0, 0, []), (22, 1, 1, 0, 0, 0, []), (23, 11, 0, 2, 31, 0, [132, 1]), (26, 1, 3, 3, 0, 0, []), (27, 1, 0, 3, 0, 0, []), (28, 5, 3, 33, 0, 0, []), (31, 1, 0, 2, 0, 0, []), (32, 9, 0, 0, 0, 0, []), (33, 1, 1, 1, 0, 0, []), (34, 1, 0, 2, 0, 0, []), (35, 1, 1, 0, 0, 0, []), (36, 1, 0, 3, 0, 0, []), (37, 11, 0, 2, 33, 0, [136, 2]), (40, 10, 4, 0, 0, 0, []), (41, 1, 6, 2, 0, 1, []), (44, 6, 0, 2, 0, 0, []), (47, 1, 1, 1, 0, 0, []), (48, 8, 6, 0, 0, 0, []), (49, 9, 0, 0, 0, 0, [])]
theorem k_L_serveAll : okP s_L_serveAll p_L_serveAll := okP_of _ (by decide +kernel) (WS_places [146, 490, 422, 423, 64, 424, 491, 453, 454, 63, 455, 492, 470, 471, 63, 472] (by decide +kernel) (by decide +kernel)) (nest_places [] (by decide +kernel))
def p_L_endGrant : List PI := [(0, 1, 1, 0, 0, 0, []), (1, 1, 1, 0, 0, 0, []), (2, 8, 1, 2, 9, 0, [44]), (5, 1, 0, 1, 0, 0, []), (6, 0, 0, 0, 0, -1, []), (7, 11, 0, 2, 32, 0, [122, 4]), (10, 1, 1, 0, 0, 0, []), (11, 8, 1, 2, 9, 0, [44]), (14, 1, 0, 1, 0, 0, []), (15, 11, 0, 0, 8, 0, [125, 2]), (18, 9, 5, 0, 0, 0, [])]
theorem k_L_endGrant : okP s_L_endGrant p_L_endGrant := okP_of _ (by decide +kernel) (WS_places [146, 477, 479, 9, 63, 480, 146, 481, 445, 446, 64, 447] (by decide +kernel) (by decide +kernel)) (nest_places [] (by decide +kernel))
def p_L_placeOf : List PI := [(0, 0, 0, 0, 0, 0, []), (1, 1, 3, 2, 0, 0, []), (2, 1, 0, 2, 0, 0, []), (3, 1, 1, 0, 0, 0, []), (4, 8, 0, 2, 12, 0, [67]), (7, 4, 3, 34, 0, 0, []), (10, 1, 0, 2, 0, 0, []), (11, 0, 0, 0, 1, 6, []), (13, 4, 3, 34, 0, 0, []), (16, 1, 1, 0, 0, 0, []), (17, 8, 1, 2, 11, 0, [51]), (20, 1, 0, 2, 0, 0, []), (21, 8, 4, 0, 0, 0, []), (22, 1, 0, 1, 0, 0, []), (23, 4, 1, 28, 0, 0, []), (26, 1, 0, 2, 0, 0, []), (27, 9, 0, 0, 0, 0, []), (28, 1, 6, 2, 0, 1, []), (31, 6, 0, 2, 0, 0, []), (34, 0, 0, 0, 0, -1, []), (35, 9, 0, 0, 0, 0, [])]
theorem k_L_placeOf : okP s_L_placeOf p_L_placeOf := okP_of _ (by decide +kernel) (WS_places [151, 150] (by decide +kernel) (by decide +kernel)) (nest_places [] (by decide +kernel))
def p_L_isBankrupt : List PI := [(0, 1, 1, 0, 0, 0, []), (1, 1, 0, 1, 0, 0, []), (2, 11, 0, 2, 36, 0, [139, 2]), (5, 5, 2, 12, 0, 0, []), (8, 0, 0, 0, 0, 1, []), (9, 6, 0, 13, 0, 0, []), (12, 0, 0, 0, 0, 0, []), (13, 9, 1, 0, 0, 0, [])]
theorem k_L_isBankrupt : okP s_L_isBankrupt p_L_isBankrupt := okP_of _ (by decide +kernel) (WS_places [412, 413, 414, 63, 415] (by decide +kernel) (by decide +kernel)) (nest_places [] (by decide +kernel))
def p_L_isSolvent : List PI := [(0, 1, 1, 0, 0, 0, []), (1, 1, 0, 1, 0, 0, []), (2, 11, 0, 2, 19, 0, [86, 2]), (5, 5, 0, 20, 0, 0, []), (8, 1, 1, 0, 0, 0, []), (9, 1, 0, 1, 0, 0, []), (10, 11, 0, 2, 37, 0, [142, 2]), (13, 5, 1, 20, 0, 0, []), (16, 0, 0, 0, 0, 1, []), (17, 6, 0, 21, 0, 0, []), (20, 0, 0, 0, 0, 0, []), (21, 9, 1, 0, 0, 0, [])]
theorem k_L_isSolvent : okP s_L_isSolvent p_L_isSolvent := okP_of _ (by decide +kernel) (WS_places [462, 394, 395, 63, 396, 560, 409, 410, 63, 411] (by decide +kernel) (by decide +kernel)) (nest_places [] (by decide +kernel))
def p_L_rentOf : List PI := [(0, 0, 0, 0, 0, 0, []), (1, 1, 3, 2, 0, 0, []), (2, 0, 0, 0, 0, 0, []), (3, 1, 3, 3, 0, 0, []), (4, 1, 0, 3, 0, 0, []), (5, 0, 0, 0, 0, 4, []), (6, 4, 3, 42, 0, 0, []), (9, 1, 1, 0, 0, 0, []), (10, 1, 0, 1, 0, 0, []), (11, 11, 0, 2, 19, 0, [86, 2]), (14, 5, 0, 42, 0, 0, []), (17, 1, 0, 2, 0, 0, []), (18, 1, 1, 0, 0, 0, []), (19, 8, 1, 2, 7, 0, [33]), (22, 1, 0, 1, 0, 0, []), (23, 1, 0, 3, 0, 0, []), (24, 11, 2, 0, 22, 0, [89, 2, 5]), (27, 8, 4, 0, 0, 0, []), (28, 1, 1, 0, 0, 0, []), (29, 1, 0, 3, 0, 0, []), (30, 11, 0, 2, 21, 0, [160, 2]), (33, 2, 2, 0, 0, 0, []), (34, 2, 0, 0, 0, 0, []), (35, 1, 3, 2, 0, 0, []), (36, 1, 6, 3, 0, 1, []), (39, 6, 0, 4, 0, 0, []), (42, 1, 0, 2, 0, 0, []), (43, 9, 0, 0, 0, 0, [])]
theorem k_L_rentOf : okP s_L_rentOf p_L_rentOf := okP_of _ (by decide +kernel) (WS_places [462, 394, 395, 63, 396, 142, 402, 61, 403, 565, 511, 512, 63, 513] (by decide +kernel) (by decide +kernel)) (nest_places [5] (by decide +kernel))
def p_L_interestOn : List PI := [(0, 1, 0, 0, 0, 0, []), (1, 5, 5, 14, 0, 0, []), (4, 1, 0, 0, 0, 0, []), (5, 0, 0, 0, 1, 9, []), (7, 2, 0, 0, 0, 0, []), (8, 0, 0, 0, 1, 10, []), (10, 2, 3, 0, 0, 0, []), (11, 6, 0, 15, 0, 0, []), (14, 0, 0, 0, 0, 0, []), (15, 9, 0, 0, 0, 0, [])]
theorem k_L_interestOn : okP s_L_interestOn p_L_interestOn := okP_of _ (by decide +kernel) (WS_places [] (by decide +kernel) (by decide +kernel)) (nest_places [] (by decide +kernel))
def p_L_bankrupt : List PI := [(0, 1, 1, 0, 0, 0, []), (1, 1, 0, 1, 0, 0, []), (2, 11, 0, 2, 19, 0, [86, 2]), (5, 5, 0, 17, 0, 0, []), (8, 1, 1, 0, 0, 0, []), (9, 8, 0, 2, 12, 0, [67]), (12, 0, 0, 0, 1, 6, []), (14, 4, 2, 18, 0, 0, []), (17, 9, 5, 0, 0, 0, []), (18, 0, 0, 0, 0, 0, []), (19, 1, 3, 2, 0, 0, []), (20, 1, 0, 2, 0, 0, []), (21, 0, 0, 0, 0, 4, []), (22, 4, 3, 71, 0, 0, []), (25, 1, 0, 1, 0, 0, []), (26, 1, 0, 2, 0, 0, []), (27, 11, 2, 0, 22, 0, [89, 2, 5]), (30, 1, 3, 3, 0, 0, []), (31, 1, 1, 0, 0, 0, []), (32, 8, 1, 2, 2, 0, [18]), (35, 1, 0, 2, 0, 0, []), (36, 7, 1, 0, 0, 0, []), (37, 8, 4, 0, 0, 0, []), (38, 1, 1, 0, 0, 0, []), (39, 8, 1, 2, 8, 0, [36]), (42, 1, 0, 3, 0, 0, []), (43, 8, 4, 0, 0, 0, []), (44, 2, 1, 0, 0, 0, []), (45, 10, 4, 0, 0, 0, []), (46, 1, 1, 0, 0, 0, []), (47, 8, 1, 2, 8, 0, [36]), (50, 1, 0, 3, 0, 0, []), (51, 0, 0, 0, 0, 0, []), (52, 10, 4, 0, 0, 0, []), (53, 1, 1, 0, 0, 0, []), (54, 1, 0, 1, 0, 0, []), (55, 1, 0, 2, 0, 0, []), (56, 1, 1, 0, 0, 0, []), (57, 8, 1, 2, 7, 0, [33]), (60, 1, 0, 3, 0, 0, []), (61, 8, 4, 0, 0, 0, []), (62, 11, 0, 2, 29, 0, [163, 4]), (65, 1, 6, 2, 0, 1, []), (68, 6, 0, 20, 0, 0, []), (71, 1, 1, 0, 0, 0, []), (72, 8, 1, 2, 9, 0, [44]), (75, 1, 0, 1, 0, 0, []), (76, 11, 0, 0, 9, 0, [167, 2]), (79, 1, 1, 0, 0, 0, []), (80, 8, 1, 2, 10, 0, [48]), (83, 1, 0, 1, 0, 0, []), (84, 11, 0, 0, 9, 0, [167, 2]), (87, 1, 1, 0, 0, 0, []), (88, 8, 1, 2, 4, 0, [24]), (91, 1, 0, 1, 0, 0, []), (92, 0, 0, 0, 0, 0, []), (93, 10, 4, 0, 0, 0, []), (94, 1, 1, 0, 0, 0, []), (95, 8, 1, 2, 5, 0, [27]), (98, 1, 0, 1, 0, 0, []), (99, 1, 1, 0, 0, 0, []), (100, 8, 0, 2, 14, 0, [73]), (103, 10, 4, 0, 0, 0, []), (104, 1, 1, 0, 0, 0, []), (105, 7, 0, 0, 0, 0, []), (106, 8, 0, 2, 17, 0, [79]), (109, 0, 0, 0, 0, 1, []), (110, 2, 0, 0, 0, 0, []), (111, 10, 0, 2, 17, 0, [79]), (114, 1, 1, 0, 0, 0, []), (115, 8, 1, 2, 11, 0, [51]), (118, 1, 1, 0, 0, 0, []), (119, 8, 0, 2, 12, 0, [67]), (122, 1, 0, 1, 0, 0, []), (123, 10, 4, 0, 0, 0, []), (124, 1, 1, 0, 0, 0, []), (125, 7, 0, 0, 0, 0, []), (126, 8, 0, 2, 12, 0, [67]), (129, 0, 0, 0, 0, 1, []), (130, 2, 0, 0, 0, 0, []), (131, 10, 0, 2, 12, 0, [67]), (134, 9, 5, 0, 0, 0, [])]
theorem k_L_bankrupt : okP s_L_bankrupt p_L_bankrupt := okP_of _ (by decide +kernel) (WS_places [462, 394, 395, 63, 396, 151, 402, 61, 403, 132, 144, 144, 142, 573, 544, 545, 63, 546, 146, 574, 575, 576, 64, 577, 148, 574, 575, 576, 64, 577, 136, 138, 155, 161, 161, 150, 151, 151, 151] (by decide +kernel) (by decide +kernel)) (nest_places [5] (by decide +kernel))
def p_L_redeemFirst : List PI := [(0, 1, 1, 0, 0, 0, []), (1, 8, 0, 2, 12, 0, [67]), (4, 0, 0, 0, 0, 1, []), (5, 4, 2, 44, 0, 0, []), (8, 1, 1, 0, 0, 0, []), (9, 1, 1, 0, 0, 0, []), (10, 8, 1, 2, 11, 0, [51]), (13, 0, 0, 0, 0, 0, []), (14, 8, 4, 0, 0, 0, []), (15, 11, 0, 2, 19, 0, [86, 2]), (18, 5, 0, 44, 0, 0, []), (21, 1, 1, 0, 0, 0, []), (22, 8, 0, 2, 14, 0, [73]), (25, 1, 1, 0, 0, 0, []), (26, 8, 1, 2, 5, 0, [27]), (29, 1, 1, 0, 0, 0, []), (30, 8, 1, 2, 11, 0, [51]), (33, 0, 0, 0, 0, 0, []), (34, 8, 4, 0, 0, 0, []), (35, 8, 4, 0, 0, 0, []), (36, 2, 1, 0, 0, 0, []), (37, 1, 1, 0, 0, 0, []), (38, 8, 0, 2, 15, 0, [54]), (41, 4, 3, 45, 0, 0, []), (44, 9, 5, 0, 0, 0, []), (45, 1, 1, 0, 0, 0, []), (46, 7, 0, 0, 0, 0, []), (47, 8, 0, 2, 12, 0, [67]), (50, 0, 0, 0, 0, 1, []), (51, 2, 1, 0, 0, 0, []), (52, 10, 0, 2, 12, 0, [67]), (55, 0, 0, 0, 0, 0, []), (56, 1, 3, 1, 0, 0, []), (57, 1, 0, 1, 0, 0, []), (58, 1, 1, 0, 0, 0, []), (59, 8, 0, 2, 12, 0, [67]), (62, 4, 3, 93, 0, 0, []), (65, 1, 0, 1, 0, 0, []), (66, 0, 0, 0, 0, 1, []), (67, 2, 0, 0, 0, 0, []), (68, 0, 0, 0, 1, 6, []), (70, 4, 3, 93, 0, 0, []), (73, 1, 1, 0, 0, 0, []), (74, 8, 1, 2, 11, 0, [51]), (77, 1, 0, 1, 0, 0, []), (78, 1, 1, 0, 0, 0, []), (79, 8, 1, 2, 11, 0, [51]), (82, 1, 0, 1, 0, 0, []), (83, 0, 0, 0, 0, 1, []), (84, 2, 0, 0, 0, 0, []), (85, 8, 4, 0, 0, 0, []), (86, 10, 4, 0, 0, 0, []), (87, 1, 6, 1, 0, 1, []), (90, 6, 0, 57, 0, 0, []), (93, 9, 5, 0, 0, 0, [])]
theorem k_L_redeemFirst : okP s_L_redeemFirst p_L_redeemFirst := okP_of _ (by decide +kernel) (WS_places [151, 150, 462, 394, 395, 63, 396, 155, 138, 150, 157, 151, 151, 151, 150, 150] (by decide +kernel) (by decide +kernel)) (nest_places [] (by decide +kernel))
def p_L_tick : List PI := [(0, 1, 1, 0, 0, 0, []), (1, 7, 0, 0, 0, 0, []), (2, 8, 0, 2, 14, 0, [73]), (5, 0, 0, 0, 0, 1, []), (6, 2, 0, 0, 0, 0, []), (7, 10, 0, 2, 14, 0, [73]), (10, 0, 0, 0, 0, 0, []), (11, 1, 3, 1, 0, 0, []), (12, 1, 0, 1, 0, 0, []), (13, 1, 1, 0, 0, 0, []), (14, 8, 0, 2, 13, 0, [70]), (17, 4, 3, 76, 0, 0, []), (20, 1, 1, 0, 0, 0, []), (21, 1, 0, 1, 0, 0, []), (22, 11, 0, 2, 38, 0, [145, 2]), (25, 5, 0, 70, 0, 0, []), (28, 1, 1, 0, 0, 0, []), (29, 8, 1, 2, 4, 0, [24]), (32, 1, 0, 1, 0, 0, []), (33, 7, 1, 0, 0, 0, []), (34, 8, 4, 0, 0, 0, []), (35, 0, 0, 0, 0, 5, []), (36, 1, 1, 0, 0, 0, []), (37, 8, 1, 2, 3, 0, [21]), (40, 1, 0, 1, 0, 0, []), (41, 8, 4, 0, 0, 0, []), (42, 2, 2, 0, 0, 0, []), (43, 1, 1, 0, 0, 0, []), (44, 1, 0, 1, 0, 0, []), (45, 11, 0, 2, 39, 0, [148, 2]), (48, 2, 1, 0, 0, 0, []), (49, 2, 0, 0, 0, 0, []), (50, 10, 4, 0, 0, 0, []), (51, 1, 1, 0, 0, 0, []), (52, 8, 1, 2, 4, 0, [24]), (55, 1, 0, 1, 0, 0, []), (56, 7, 1, 0, 0, 0, []), (57, 8, 4, 0, 0, 0, []), (58, 1, 1, 0, 0, 0, []), (59, 8, 1, 2, 4, 0, [24]), (62, 1, 0, 1, 0, 0, []), (63, 8, 4, 0, 0, 0, []), (64, 2, 5, 0, 0, 0, []), (65, 11, 1, 0, 40, 0, [151, 1]), (68, 2, 1, 0, 0, 0, []), (69, 10, 4, 0, 0, 0, []), (70, 1, 6, 1, 0, 1, []), (73, 6, 0, 12, 0, 0, []), (76, 0, 0, 0, 0, 0, []), (77, 1, 3, 1, 0, 0, []), (78, 1, 0, 1, 0, 0, []), (79, 1, 1, 0, 0, 0, []), (80, 8, 0, 2, 13, 0, [70]), (83, 4, 3, 124, 0, 0, []), (86, 1, 1, 0, 0, 0, []), (87, 1, 0, 1, 0, 0, []), (88, 11, 0, 2, 38, 0, [145, 2]), (91, 5, 0, 118, 0, 0, []), (94, 1, 1, 0, 0, 0, []), (95, 8, 1, 2, 4, 0, [24]), (98, 1, 0, 1, 0, 0, []), (99, 8, 4, 0, 0, 0, []), (100, 2, 5, 0, 0, 0, []), (101, 0, 0, 0, 1, 50, []), (103, 1, 1, 0, 0, 0, []), (104, 8, 1, 2, 3, 0, [21]), (107, 1, 0, 1, 0, 0, []), (108, 8, 4, 0, 0, 0, []), (109, 2, 2, 0, 0, 0, []), (110, 4, 5, 118, 0, 0, []), (113, 1, 1, 0, 0, 0, []), (114, 1, 0, 1, 0, 0, []), (115, 11, 0, 2, 41, 0, [154, 2]), (118, 1, 6, 1, 0, 1, []), (121, 6, 0, 78, 0, 0, []), (124, 1, 1, 0, 0, 0, []), (125, 11, 0, 2, 42, 0, [157, 1]), (128, 9, 5, 0, 0, 0, [])]
theorem k_L_tick : okP s_L_tick p_L_tick := okP_of _ (by decide +kernel) (WS_places [155, 155, 153, 556, 558, 10, 63, 559, 136, 134, 561, 563, 11, 63, 564, 136, 136, 566, 567, 63, 568, 153, 556, 558, 10, 63, 559, 136, 134, 569, 571, 12, 63, 572, 579, 581, 13, 63, 582] (by decide +kernel) (by decide +kernel)) (nest_places [] (by decide +kernel))
def p_V_init : List PI := [(0, 1, 1, 0, 0, 0, []), (1, 12, 3, 0, 0, 0, [3]), (4, 1, 1, 0, 0, 0, []), (5, 0, 0, 0, 1, 60, []), (7, 10, 7, 0, 0, 0, []), (9, 10, 1, 3, 0, 0, [9]), (12, 1, 1, 0, 0, 0, []), (13, 0, 0, 0, 0, 4, []), (14, 10, 7, 0, 0, 0, []), (16, 10, 1, 3, 1, 0, [15]), (19, 9, 5, 0, 0, 0, [])]
theorem k_V_init : okP s_V_init p_V_init := okP_of _ (by decide +kernel) (WS_places [86, 79, 80, 100, 87, 100, 89] (by decide +kernel) (by decide +kernel)) (nest_places [] (by decide +kernel))
def p_V_append : List PI := [(0, 1, 1, 0, 0, 0, []), (1, 8, 0, 3, 2, 0, [18]), (4, 0, 0, 0, 1, 60, []), (6, 4, 2, 11, 0, 0, []), (9, 0, 0, 0, 0, 0, []), (10, 9, 1, 0, 0, 0, []), (11, 1, 1, 0, 0, 0, []), (12, 8, 1, 3, 0, 0, [9]), (15, 1, 1, 0, 0, 0, []), (16, 8, 0, 3, 2, 0, [18]), (19, 1, 0, 1, 0, 0, []), (20, 10, 4, 0, 0, 0, []), (21, 1, 1, 0, 0, 0, []), (22, 7, 0, 0, 0, 0, []), (23, 8, 0, 3, 2, 0, [18]), (26, 0, 0, 0, 0, 1, []), (27, 2, 0, 0, 0, 0, []), (28, 10, 0, 3, 2, 0, [18]), (31, 0, 0, 0, 0, 1, []), (32, 9, 1, 0, 0, 0, [])]
theorem k_V_append : okP s_V_append p_V_append := okP_of _ (by decide +kernel) (WS_places [91, 87, 91, 91, 91] (by decide +kernel) (by decide +kernel)) (nest_places [] (by decide +kernel))
def p_V_hasUnits : List PI := [(0, 0, 0, 0, 0, 0, []), (1, 1, 3, 1, 0, 0, []), (2, 1, 0, 1, 0, 0, []), (3, 0, 0, 0, 0, 4, []), (4, 4, 3, 24, 0, 0, []), (7, 1, 1, 0, 0, 0, []), (8, 8, 1, 3, 1, 0, [15]), (11, 1, 0, 1, 0, 0, []), (12, 8, 4, 0, 0, 0, []), (13, 5, 5, 18, 0, 0, []), (16, 0, 0, 0, 0, 1, []), (17, 9, 1, 0, 0, 0, []), (18, 1, 6, 1, 0, 1, []), (21, 6, 0, 2, 0, 0, []), (24, 0, 0, 0, 0, 0, []), (25, 9, 1, 0, 0, 0, [])]
theorem k_V_hasUnits : okP s_V_hasUnits p_V_hasUnits := okP_of _ (by decide +kernel) (WS_places [89] (by decide +kernel) (by decide +kernel)) (nest_places [] (by decide +kernel))
def p_V_byteAt : List PI := [(0, 1, 0, 1, 0, 0, []), (1, 5, 2, 27, 0, 0, []), (4, 1, 0, 1, 0, 0, []), (5, 1, 1, 0, 0, 0, []), (6, 8, 0, 3, 2, 0, [18]), (9, 4, 3, 27, 0, 0, []), (12, 1, 0, 1, 0, 0, []), (13, 0, 0, 0, 1, 60, []), (15, 4, 3, 27, 0, 0, []), (18, 1, 1, 0, 0, 0, []), (19, 8, 1, 3, 0, 0, [9]), (22, 1, 0, 1, 0, 0, []), (23, 8, 4, 0, 0, 0, []), (24, 6, 0, 29, 0, 0, []), (27, 0, 0, 40, 3, -1000003, []), (29, 9, 0, 0, 0, 0, [])]
theorem k_V_byteAt : okP s_V_byteAt p_V_byteAt := okP_of _ (by decide +kernel) (WS_places [91, 87, 269] (by decide +kernel) (by decide +kernel)) (nest_places [] (by decide +kernel))
def p_V_afterBlanks : List PI := [(0, 1, 0, 1, 0, 0, []), (1, 1, 3, 2, 0, 0, []), (2, 1, 0, 2, 0, 0, []), (3, 1, 1, 0, 0, 0, []), (4, 8, 0, 3, 2, 0, [18]), (7, 4, 3, 26, 0, 0, []), (10, 1, 1, 0, 0, 0, []), (11, 1, 0, 2, 0, 0, []), (12, 11, 0, 3, 47, 0, [41, 2]), (15, 0, 0, 0, 1, 32, []), (17, 4, 1, 26, 0, 0, []), (20, 1, 6, 2, 0, 1, []), (23, 6, 0, 2, 0, 0, []), (26, 1, 0, 2, 0, 0, []), (27, 9, 0, 0, 0, 0, [])]
theorem k_V_afterBlanks : okP s_V_afterBlanks p_V_afterBlanks := okP_of _ (by decide +kernel) (WS_places [91, 265, 267, 1, 62, 268] (by decide +kernel) (by decide +kernel)) (nest_places [] (by decide +kernel))
def p_V_afterLetters : List PI := [(0, 1, 0, 1, 0, 0, []), (1, 1, 3, 2, 0, 0, []), (2, 1, 0, 2, 0, 0, []), (3, 1, 1, 0, 0, 0, []), (4, 8, 0, 3, 2, 0, [18]), (7, 4, 3, 31, 0, 0, []), (10, 1, 1, 0, 0, 0, []), (11, 1, 0, 2, 0, 0, []), (12, 11, 0, 3, 47, 0, [41, 2]), (15, 0, 0, 0, 1, 97, []), (17, 0, 0, 0, 1, 122, []), (19, 11, 2, 0, 4, 0, [44, 3, 1]), (22, 5, 0, 31, 0, 0, []), (25, 1, 6, 2, 0, 1, []), (28, 6, 0, 2, 0, 0, []), (31, 1, 0, 2, 0, 0, []), (32, 9, 0, 0, 0, 0, [])]
theorem k_V_afterLetters : okP s_V_afterLetters p_V_afterLetters := okP_of _ (by decide +kernel) (WS_places [91, 265, 267, 1, 62, 268, 241, 61, 242] (by decide +kernel) (by decide +kernel)) (nest_places [1] (by decide +kernel))
def p_V_nameOf : List PI := [(0, 1, 0, 0, 0, 0, []), (1, 6, 1, 37, 27, 0, [28, 31, 34]), (28, 0, 2, 0, 0, 0, []), (30, 9, 4, 0, 0, 0, []), (31, 0, 2, 1, 0, 0, []), (33, 9, 4, 0, 0, 0, []), (34, 0, 2, 2, 0, 0, []), (36, 9, 4, 0, 0, 0, []), (37, 0, 2, 3, 0, 0, []), (39, 9, 4, 0, 0, 0, [])]
theorem k_V_nameOf : okP s_V_nameOf p_V_nameOf := okP_of _ (by decide +kernel) (WS_places [] (by decide +kernel) (by decide +kernel)) (nest_places [] (by decide +kernel))
def p_S_coder : List PI := [(0, 0, 3, 38, 0, 0, []), (3, 5, 0, 13, 0, 0, []), (6, 1, 1, 0, 0, 0, []), (7, 8, 8, 0, 0, 0, [15]), (10, 6, 0, 14, 0, 0, []), (13, 0, 0, 0, 0, 1, []), (14, 9, 2, 0, 0, 0, [])]
theorem k_S_coder : okP s_S_coder p_S_coder := okP_of _ (by decide +kernel) (WS_places [298, 1014] (by decide +kernel) (by decide +kernel)) (nest_places [] (by decide +kernel))
def p_S_length : List PI := [(0, 1, 1, 0, 0, 0, []), (1, 8, 7, 0, 0, 0, [9]), (4, 8, 10, 0, 0, 0, []), (5, 1, 1, 0, 0, 0, []), (6, 11, 3, 0, 51, 0, [335, 1]), (9, 2, 9, 0, 0, 0, []), (10, 9, 0, 0, 0, 0, [])]
theorem k_S_length : okP s_S_length p_S_length := okP_of _ (by decide +kernel) (WS_places [1013, 294, 295, 296, 68, 297] (by decide +kernel) (by decide +kernel)) (nest_places [] (by decide +kernel))
def p_S_isLatin1 : List PI := [(0, 0, 3, 38, 0, 0, []), (3, 5, 0, 17, 0, 0, []), (6, 1, 1, 0, 0, 0, []), (7, 8, 8, 0, 0, 0, [15]), (10, 5, 1, 17, 0, 0, []), (13, 0, 0, 0, 0, 1, []), (14, 6, 0, 18, 0, 0, []), (17, 0, 0, 0, 0, 0, []), (18, 9, 1, 0, 0, 0, [])]
theorem k_S_isLatin1 : okP s_S_isLatin1 p_S_isLatin1 := okP_of _ (by decide +kernel) (WS_places [298, 1014] (by decide +kernel) (by decide +kernel)) (nest_places [] (by decide +kernel))
def p_P_checkIndex : List PI := [(0, 1, 0, 0, 0, 0, []), (1, 5, 2, 9, 0, 0, []), (4, 1, 0, 0, 0, 0, []), (5, 1, 0, 1, 0, 0, []), (6, 4, 2, 16, 0, 0, []), (9, 1, 1, 2, 0, 0, []), (10, 1, 0, 0, 0, 0, []), (11, 1, 0, 1, 0, 0, []), (12, 13, 0, 0, 3, 0, []), (15, 13, 1, 0, 1, 0, []), (16, 1, 0, 0, 0, 0, []), (17, 9, 0, 0, 0, 0, [])]
theorem k_P_checkIndex : okP s_P_checkIndex p_P_checkIndex := okP_of _ (by decide +kernel) (WS_places [] (by decide +kernel) (by decide +kernel)) (nest_places [] (by decide +kernel))
def p_S_checkIndex : List PI := [(0, 1, 0, 0, 0, 0, []), (1, 1, 0, 1, 0, 0, []), (2, 0, 4, 1053, 0, 0, []), (5, 11, 1, 0, 54, 0, [1059, 3]), (8, 7, 2, 0, 0, 0, []), (9, 9, 5, 0, 0, 0, [])]
theorem k_S_checkIndex : okP s_S_checkIndex p_S_checkIndex := okP_of _ (by decide +kernel) (WS_places [314, 316, 317, 70, 318] (by decide +kernel) (by decide +kernel)) (nest_places [] (by decide +kernel))
def p_S1_charAt : List PI := [(0, 1, 0, 1, 0, 0, []), (1, 1, 1, 0, 0, 0, []), (2, 8, 10, 0, 0, 0, []), (3, 11, 1, 0, 55, 0, [9, 2]), (6, 1, 1, 0, 0, 0, []), (7, 1, 0, 1, 0, 0, []), (8, 8, 9, 0, 0, 0, []), (9, 0, 0, 0, 2, 255, []), (12, 2, 6, 0, 0, 0, []), (13, 3, 4, 0, 0, 0, []), (14, 9, 2, 0, 0, 0, [])]
theorem k_S1_charAt : okP s_S1_charAt p_S1_charAt := okP_of _ (by decide +kernel) (WS_places [311, 312, 68, 313] (by decide +kernel) (by decide +kernel)) (nest_places [] (by decide +kernel))
def p_S_charAt : List PI := [(0, 1, 1, 0, 0, 0, []), (1, 11, 3, 0, 53, 0, [492, 1]), (4, 5, 0, 16, 0, 0, []), (7, 1, 1, 0, 0, 0, []), (8, 8, 7, 0, 0, 0, [9]), (11, 1, 0, 1, 0, 0, []), (12, 11, 1, 0, 56, 0, [495, 2]), (15, 9, 2, 0, 0, 0, []), (16, 1, 1, 0, 0, 0, []), (17, 8, 7, 0, 0, 0, [9]), (20, 1, 0, 1, 0, 0, []), (21, 13, 0, 0, 3, 0, []), (24, 9, 2, 0, 0, 0, [])]
theorem k_S_charAt : okP s_S_charAt p_S_charAt := okP_of _ (by decide +kernel) (WS_places [304, 305, 306, 68, 307, 1013, 308, 309, 69, 310, 1013] (by decide +kernel) (by decide +kernel)) (nest_places [] (by decide +kernel))
def p_V_isBetween : List PI := [(0, 1, 0, 3, 0, 0, []), (1, 1, 0, 2, 0, 0, []), (2, 2, 1, 0, 0, 0, []), (3, 1, 1, 1, 0, 0, []), (4, 11, 3, 0, 52, 0, [56, 1]), (7, 4, 0, 12, 0, 0, []), (10, 0, 0, 0, 0, 0, []), (11, 9, 1, 0, 0, 0, []), (12, 0, 0, 0, 0, 0, []), (13, 1, 3, 4, 0, 0, []), (15, 1, 0, 4, 0, 0, []), (17, 1, 1, 1, 0, 0, []), (18, 11, 3, 0, 52, 0, [56, 1]), (21, 4, 3, 49, 0, 0, []), (24, 1, 1, 0, 0, 0, []), (25, 1, 0, 2, 0, 0, []), (26, 1, 0, 4, 0, 0, []), (28, 2, 0, 0, 0, 0, []), (29, 11, 0, 3, 47, 0, [41, 2]), (32, 1, 1, 1, 0, 0, []), (33, 1, 0, 4, 0, 0, []), (35, 11, 3, 0, 57, 0, [61, 2]), (38, 4, 0, 43, 0, 0, []), (41, 0, 0, 0, 0, 0, []), (42, 9, 1, 0, 0, 0, []), (43, 1, 6, 4, 0, 1, []), (46, 6, 0, 15, 0, 0, []), (49, 0, 0, 0, 0, 1, []), (50, 9, 1, 0, 0, 0, [])]
theorem k_V_isBetween : okP s_V_isBetween p_V_isBetween := okP_of _ (by decide +kernel) (WS_places [290, 291, 292, 68, 293, 290, 291, 292, 68, 293, 265, 267, 1, 62, 268, 300, 301, 302, 68, 303] (by decide +kernel) (by decide +kernel)) (nest_places [] (by decide +kernel))
def p_V_nameBetween : List PI := [(0, 0, 0, 0, 0, 0, []), (1, 1, 3, 3, 0, 0, []), (2, 1, 0, 3, 0, 0, []), (3, 0, 0, 0, 0, 4, []), (4, 4, 3, 28, 0, 0, []), (7, 1, 1, 0, 0, 0, []), (8, 1, 0, 3, 0, 0, []), (9, 11, 1, 0, 50, 0, [48, 1]), (12, 1, 0, 1, 0, 0, []), (13, 1, 0, 2, 0, 0, []), (14, 11, 0, 3, 58, 0, [52, 4]), (17, 5, 0, 22, 0, 0, []), (20, 1, 0, 3, 0, 0, []), (21, 9, 0, 0, 0, 0, []), (22, 1, 6, 3, 0, 1, []), (25, 6, 0, 2, 0, 0, []), (28, 0, 0, 0, 0, -1, []), (29, 9, 0, 0, 0, 0, [])]
theorem k_V_nameBetween : okP s_V_nameBetween p_V_nameBetween := okP_of _ (by decide +kernel) (WS_places [279, 280, 62, 281, 286, 288, 4, 62, 289] (by decide +kernel) (by decide +kernel)) (nest_places [] (by decide +kernel))
def p_V_isDigit : List PI := [(0, 1, 1, 0, 0, 0, []), (1, 1, 0, 1, 0, 0, []), (2, 11, 0, 3, 47, 0, [41, 2]), (5, 0, 0, 0, 1, 48, []), (7, 0, 0, 0, 1, 57, []), (9, 11, 2, 0, 4, 0, [44, 3, 1]), (12, 9, 1, 0, 0, 0, [])]
theorem k_V_isDigit : okP s_V_isDigit p_V_isDigit := okP_of _ (by decide +kernel) (WS_places [265, 267, 1, 62, 268, 241, 61, 242] (by decide +kernel) (by decide +kernel)) (nest_places [1] (by decide +kernel))
def p_V_numberBetween : List PI := [(0, 0, 0, 0, 0, 0, []), (1, 1, 3, 3, 0, 0, []), (2, 1, 0, 1, 0, 0, []), (3, 1, 3, 4, 0, 0, []), (5, 1, 0, 4, 0, 0, []), (7, 1, 0, 2, 0, 0, []), (8, 4, 3, 32, 0, 0, []), (11, 0, 0, 0, 1, 10, []), (13, 1, 0, 3, 0, 0, []), (14, 2, 2, 0, 0, 0, []), (15, 1, 1, 0, 0, 0, []), (16, 1, 0, 4, 0, 0, []), (18, 11, 0, 3, 47, 0, [41, 2]), (21, 2, 0, 0, 0, 0, []), (22, 0, 0, 0, 1, 48, []), (24, 2, 1, 0, 0, 0, []), (25, 1, 3, 3, 0, 0, []), (26, 1, 6, 4, 0, 1, []), (29, 6, 0, 5, 0, 0, []), (32, 1, 0, 3, 0, 0, []), (33, 9, 0, 0, 0, 0, [])]
theorem k_V_numberBetween : okP s_V_numberBetween p_V_numberBetween := okP_of _ (by decide +kernel) (WS_places [265, 267, 1, 62, 268] (by decide +kernel) (by decide +kernel)) (nest_places [] (by decide +kernel))
def p_V_read : List PI := [(0, 0, 0, 0, 0, 0, []), (1, 1, 3, 1, 0, 0, []), (2, 1, 0, 1, 0, 0, []), (3, 0, 0, 0, 0, 4, []), (4, 4, 3, 20, 0, 0, []), (7, 1, 1, 0, 0, 0, []), (8, 8, 1, 3, 1, 0, [15]), (11, 1, 0, 1, 0, 0, []), (12, 0, 0, 0, 0, 0, []), (13, 10, 4, 0, 0, 0, []), (14, 1, 6, 1, 0, 1, []), (17, 6, 0, 2, 0, 0, []), (20, 0, 0, 0, 0, 0, []), (21, 1, 3, 1, 0, 0, []), (22, 1, 1, 0, 0, 0, []), (23, 0, 0, 0, 0, 0, []), (24, 11, 0, 3, 48, 0, [22, 2]), (27, 1, 3, 2, 0, 0, []), (28, 0, 0, 0, 0, 0, []), (29, 1, 3, 3, 0, 0, []), (30, 1, 0, 3, 0, 0, []), (31, 0, 0, 0, 0, 4, []), (32, 4, 4, 147, 0, 0, []), (35, 1, 0, 2, 0, 0, []), (36, 1, 1, 0, 0, 0, []), (37, 8, 0, 3, 2, 0, [18]), (40, 4, 3, 147, 0, 0, []), (43, 1, 1, 0, 0, 0, []), (44, 1, 0, 2, 0, 0, []), (45, 11, 0, 3, 49, 0, [26, 2]), (48, 1, 3, 4, 0, 0, []), (50, 1, 1, 0, 0, 0, []), (51, 1, 0, 2, 0, 0, []), (52, 1, 0, 4, 0, 0, []), (54, 11, 0, 3, 59, 0, [29, 3]), (57, 1, 3, 5, 0, 0, []), (59, 1, 0, 5, 0, 0, []), (61, 5, 2, 73, 0, 0, []), (64, 1, 0, 1, 0, 0, []), (65, 1, 0, 5, 0, 0, []), (67, 2, 9, 0, 0, 0, []), (68, 0, 0, 0, 0, 1, []), (69, 2, 6, 0, 0, 0, []), (70, 5, 0, 75, 0, 0, []), (73, 1, 0, 2, 0, 0, []), (74, 9, 0, 0, 0, 0, []), (75, 1, 0, 1, 0, 0, []), (76, 0, 0, 0, 0, 1, []), (77, 1, 0, 5, 0, 0, []), (79, 2, 8, 0, 0, 0, []), (80, 2, 7, 0, 0, 0, []), (81, 1, 3, 1, 0, 0, []), (82, 1, 1, 0, 0, 0, []), (83, 1, 0, 4, 0, 0, []), (85, 11, 0, 3, 48, 0, [22, 2]), (88, 1, 3, 2, 0, 0, []), (89, 1, 1, 0, 0, 0, []), (90, 1, 0, 2, 0, 0, []), (91, 11, 0, 3, 60, 0, [33, 2]), (94, 5, 1, 99, 0, 0, []), (97, 1, 0, 2, 0, 0, []), (98, 9, 0, 0, 0, 0, []), (99, 1, 1, 0, 0, 0, []), (100, 1, 0, 2, 0, 0, []), (101, 0, 0, 0, 0, 1, []), (102, 2, 0, 0, 0, 0, []), (103, 11, 0, 3, 60, 0, [33, 2]), (106, 5, 0, 115, 0, 0, []), (109, 1, 0, 2, 0, 0, []), (110, 0, 0, 0, 0, 2, []), (111, 2, 0, 0, 0, 0, []), (112, 6, 0, 118, 0, 0, []), (115, 1, 0, 2, 0, 0, []), (116, 0, 0, 0, 0, 1, []), (117, 2, 0, 0, 0, 0, []), (118, 1, 3, 4, 0, 0, []), (120, 1, 1, 0, 0, 0, []), (121, 8, 1, 3, 1, 0, [15]), (124, 1, 0, 5, 0, 0, []), (126, 1, 1, 0, 0, 0, []), (127, 1, 0, 2, 0, 0, []), (128, 1, 0, 4, 0, 0, []), (130, 11, 0, 3, 61, 0, [37, 3]), (133, 10, 4, 0, 0, 0, []), (134, 1, 1, 0, 0, 0, []), (135, 1, 0, 4, 0, 0, []), (137, 11, 0, 3, 48, 0, [22, 2]), (140, 1, 3, 2, 0, 0, []), (141, 1, 6, 3, 0, 1, []), (144, 6, 0, 30, 0, 0, []), (147, 0, 0, 40, 3, -1000003, []), (149, 9, 0, 0, 0, 0, [])]
theorem k_V_read : okP s_V_read p_V_read := okP_of _ (by decide +kernel) (WS_places [89, 261, 263, 0, 62, 264, 91, 270, 272, 2, 62, 273, 275, 277, 3, 62, 278, 261, 263, 0, 62, 264, 338, 340, 5, 62, 341, 338, 340, 5, 62, 341, 89, 342, 344, 6, 62, 345, 261, 263, 0, 62, 264, 269] (by decide +kernel) (by decide +kernel)) (nest_places [] (by decide +kernel))
end
section
def p_B_copy : List PI := [(0, 1, 1, 0, 0, 0, []), (1, 0, 0, 0, 0, 0, []), (2, 1, 1, 1, 0, 0, []), (3, 0, 0, 0, 0, 0, []), (4, 1, 1, 0, 0, 0, []), (5, 8, 6, 0, 0, 0, []), (6, 1, 1, 1, 0, 0, []), (7, 8, 6, 0, 0, 0, []), (8, 12, 1, 0, 0, 0, [268]), (11, 12, 2, 0, 0, 0, [273]), (14, 9, 5, 0, 0, 0, [])]
theorem k_B_copy : okP s_B_copy p_B_copy := okP_of _ (by decide +kernel) (WS_places [370, 371, 65, 372, 373, 375, 374, 72] (by decide +kernel) (by decide +kernel)) (nest_places [] (by decide +kernel))
def p_B_within : List PI := [(0, 1, 0, 0, 0, 0, []), (1, 1, 0, 1, 0, 0, []), (2, 4, 2, 14, 0, 0, []), (5, 1, 0, 0, 0, 0, []), (6, 1, 0, 2, 0, 0, []), (7, 4, 4, 14, 0, 0, []), (10, 0, 0, 0, 0, 1, []), (11, 6, 0, 15, 0, 0, []), (14, 0, 0, 0, 0, 0, []), (15, 9, 1, 0, 0, 0, [])]
theorem k_B_within : okP s_B_within p_B_within := okP_of _ (by decide +kernel) (WS_places [] (by decide +kernel) (by decide +kernel)) (nest_places [] (by decide +kernel))
def p_B_isResource : List PI := [(0, 1, 0, 0, 0, 0, []), (1, 5, 2, 13, 0, 0, []), (4, 1, 0, 0, 0, 0, []), (5, 0, 0, 0, 0, 4, []), (6, 4, 3, 13, 0, 0, []), (9, 0, 0, 0, 0, 1, []), (10, 6, 0, 14, 0, 0, []), (13, 0, 0, 0, 0, 0, []), (14, 9, 1, 0, 0, 0, [])]
theorem k_B_isResource : okP s_B_isResource p_B_isResource := okP_of _ (by decide +kernel) (WS_places [] (by decide +kernel) (by decide +kernel)) (nest_places [] (by decide +kernel))
def p_B_slot : List PI := [(0, 1, 0, 0, 0, 0, []), (1, 0, 0, 0, 0, 4, []), (2, 2, 2, 0, 0, 0, []), (3, 1, 0, 1, 0, 0, []), (4, 2, 0, 0, 0, 0, []), (5, 9, 0, 0, 0, 0, [])]
theorem k_B_slot : okP s_B_slot p_B_slot := okP_of _ (by decide +kernel) (WS_places [] (by decide +kernel) (by decide +kernel)) (nest_places [] (by decide +kernel))
def p_B_init : List PI := [(0, 1, 1, 0, 0, 0, []), (1, 12, 3, 0, 0, 0, [1]), (4, 1, 1, 0, 0, 0, []), (5, 10, 6, 3, 0, 0, [7]), (8, 7, 0, 0, 0, 0, []), (9, 11, 5, 0, 44, 0, [9, 1, 0]), (12, 10, 1, 4, 0, 0, [10]), (15, 1, 1, 0, 0, 0, []), (16, 10, 6, 2, 0, 0, [16]), (19, 7, 0, 0, 0, 0, []), (20, 11, 4, 0, 13, 0, [18, 1]), (23, 10, 1, 4, 1, 0, [19]), (26, 1, 1, 0, 0, 0, []), (27, 10, 6, 2, 0, 0, [16]), (30, 7, 0, 0, 0, 0, []), (31, 11, 4, 0, 13, 0, [18, 1]), (34, 10, 1, 4, 2, 0, [23]), (37, 1, 1, 0, 0, 0, []), (38, 10, 6, 1, 0, 0, [26]), (41, 7, 0, 0, 0, 0, []), (42, 11, 4, 0, 14, 0, [28, 1]), (45, 10, 1, 4, 3, 0, [29]), (48, 1, 1, 0, 0, 0, []), (49, 0, 0, 0, 1, 24, []), (51, 10, 7, 0, 0, 0, []), (53, 10, 1, 4, 4, 0, [33]), (56, 1, 1, 0, 0, 0, []), (57, 0, 0, 0, 1, 6, []), (59, 10, 7, 0, 0, 0, []), (61, 10, 1, 4, 5, 0, [37]), (64, 9, 5, 0, 0, 0, [])]
theorem k_B_init : okP s_B_init p_B_init := okP_of _ (by decide +kernel) (WS_places [78, 79, 80, 81, 82, 62, 84, 62, 85, 217, 101, 102, 63, 103, 104, 63, 105, 218, 101, 102, 63, 103, 104, 63, 105, 219, 200, 201, 66, 202, 203, 66, 204, 220, 100, 221, 100, 222] (by decide +kernel) (by decide +kernel)) (nest_places [0] (by decide +kernel))
def p_B_type : List PI := [(0, 1, 0, 1, 0, 0, []), (1, 0, 0, 0, 0, 0, []), (2, 0, 0, 0, 1, 127, []), (4, 11, 1, 0, 4, 0, [40, 3]), (7, 5, 1, 13, 0, 0, []), (10, 0, 0, 44, 3, -1000000, []), (12, 9, 0, 0, 0, 0, []), (13, 1, 1, 0, 0, 0, []), (14, 8, 1, 4, 0, 0, [10]), (17, 1, 0, 1, 0, 0, []), (18, 11, 0, 3, 45, 0, [45, 2]), (21, 5, 0, 34, 0, 0, []), (24, 1, 1, 0, 0, 0, []), (25, 8, 1, 4, 0, 0, [10]), (28, 8, 0, 3, 2, 0, [49]), (31, 6, 0, 36, 0, 0, []), (34, 0, 0, 53, 3, -1000002, []), (36, 9, 0, 0, 0, 0, [])]
theorem k_B_type : okP s_B_type p_B_type := okP_of _ (by decide +kernel) (WS_places [240, 241, 61, 242, 243, 217, 244, 245, 246, 62, 247, 217, 92, 248] (by decide +kernel) (by decide +kernel)) (nest_places [] (by decide +kernel))
def p_B_clearText : List PI := [(0, 1, 1, 0, 0, 0, []), (1, 8, 1, 4, 0, 0, [10]), (4, 8, 0, 3, 2, 0, [49]), (7, 1, 3, 1, 0, 0, []), (8, 1, 1, 0, 0, 0, []), (9, 8, 1, 4, 0, 0, [10]), (12, 0, 0, 0, 0, 0, []), (13, 10, 0, 3, 2, 0, [49]), (16, 1, 0, 1, 0, 0, []), (17, 9, 0, 0, 0, 0, [])]
theorem k_B_clearText : okP s_B_clearText p_B_clearText := okP_of _ (by decide +kernel) (WS_places [217, 92, 217, 92] (by decide +kernel) (by decide +kernel)) (nest_places [] (by decide +kernel))
def p_B_fault : List PI := [(0, 1, 1, 0, 0, 0, []), (1, 8, 1, 4, 0, 0, [10]), (4, 11, 0, 3, 62, 0, [54, 1]), (7, 9, 0, 0, 0, 0, [])]
theorem k_B_fault : okP s_B_fault p_B_fault := okP_of _ (by decide +kernel) (WS_places [217, 257, 258, 259, 62, 260] (by decide +kernel) (by decide +kernel)) (nest_places [] (by decide +kernel))
def p_B_setResource : List PI := [(0, 1, 0, 1, 0, 0, []), (1, 11, 1, 0, 20, 0, [58, 1]), (4, 5, 0, 18, 0, 0, []), (7, 1, 0, 3, 0, 0, []), (8, 0, 0, 0, 0, 0, []), (9, 0, 0, 0, 2, 999, []), (12, 11, 1, 0, 4, 0, [40, 3]), (15, 5, 1, 21, 0, 0, []), (18, 0, 0, 44, 3, -1000000, []), (20, 9, 0, 0, 0, 0, []), (21, 1, 0, 2, 0, 0, []), (22, 5, 1, 41, 0, 0, []), (25, 1, 0, 3, 0, 0, []), (26, 1, 1, 0, 0, 0, []), (27, 8, 1, 4, 1, 0, [19]), (30, 8, 1, 2, 2, 0, [61]), (33, 1, 0, 1, 0, 0, []), (34, 8, 4, 0, 0, 0, []), (35, 4, 3, 41, 0, 0, []), (38, 0, 0, 64, 3, -1000001, []), (40, 9, 0, 0, 0, 0, []), (41, 1, 1, 0, 0, 0, []), (42, 8, 1, 4, 3, 0, [29]), (45, 1, 1, 0, 0, 0, []), (46, 8, 1, 4, 1, 0, [19]), (49, 11, 0, 1, 17, 0, [65, 2]), (52, 1, 0, 2, 0, 0, []), (53, 5, 0, 66, 0, 0, []), (56, 1, 1, 0, 0, 0, []), (57, 8, 1, 4, 1, 0, [19]), (60, 8, 1, 2, 1, 0, [69]), (63, 6, 0, 73, 0, 0, []), (66, 1, 1, 0, 0, 0, []), (67, 8, 1, 4, 1, 0, [19]), (70, 8, 1, 2, 0, 0, [72]), (73, 1, 4, 4, 0, 0, []), (75, 1, 1, 4, 0, 0, []), (77, 1, 0, 1, 0, 0, []), (78, 8, 4, 0, 0, 0, []), (79, 1, 3, 5, 0, 0, []), (81, 1, 1, 4, 0, 0, []), (83, 1, 0, 1, 0, 0, []), (84, 1, 0, 3, 0, 0, []), (85, 10, 4, 0, 0, 0, []), (86, 1, 0, 5, 0, 0, []), (88, 9, 0, 0, 0, 0, [])]
theorem k_B_setResource : okP s_B_setResource p_B_setResource := okP_of _ (by decide +kernel) (WS_places [351, 352, 61, 353, 240, 241, 61, 242, 243, 218, 133, 354, 220, 218, 355, 356, 357, 66, 358, 218, 131, 218, 129] (by decide +kernel) (by decide +kernel)) (nest_places [] (by decide +kernel))
def p_B_setRest : List PI := [(0, 1, 0, 1, 0, 0, []), (1, 0, 0, 0, 0, 1, []), (2, 0, 0, 0, 1, 99, []), (4, 11, 1, 0, 4, 0, [40, 3]), (7, 5, 1, 13, 0, 0, []), (10, 0, 0, 44, 3, -1000000, []), (12, 9, 0, 0, 0, 0, []), (13, 1, 1, 0, 0, 0, []), (14, 8, 1, 4, 3, 0, [29]), (17, 1, 1, 0, 0, 0, []), (18, 8, 1, 4, 1, 0, [19]), (21, 11, 0, 1, 17, 0, [65, 2]), (24, 1, 1, 0, 0, 0, []), (25, 8, 1, 4, 1, 0, [19]), (28, 8, 0, 2, 15, 0, [75]), (31, 1, 3, 2, 0, 0, []), (32, 1, 1, 0, 0, 0, []), (33, 8, 1, 4, 1, 0, [19]), (36, 1, 0, 1, 0, 0, []), (37, 10, 0, 2, 15, 0, [75]), (40, 1, 0, 2, 0, 0, []), (41, 9, 0, 0, 0, 0, [])]
theorem k_B_setRest : okP s_B_setRest p_B_setRest := okP_of _ (by decide +kernel) (WS_places [240, 241, 61, 242, 243, 220, 218, 355, 356, 357, 66, 358, 218, 158, 218, 158] (by decide +kernel) (by decide +kernel)) (nest_places [] (by decide +kernel))
def p_B_addTenant : List PI := [(0, 1, 0, 1, 0, 0, []), (1, 0, 0, 0, 0, 1, []), (2, 0, 0, 0, 1, 9, []), (4, 11, 1, 0, 4, 0, [40, 3]), (7, 5, 1, 13, 0, 0, []), (10, 0, 0, 44, 3, -1000000, []), (12, 9, 0, 0, 0, 0, []), (13, 1, 1, 0, 0, 0, []), (14, 8, 1, 4, 1, 0, [19]), (17, 8, 0, 2, 13, 0, [78]), (20, 0, 0, 0, 1, 6, []), (22, 4, 2, 28, 0, 0, []), (25, 0, 0, 53, 3, -1000002, []), (27, 9, 0, 0, 0, 0, []), (28, 1, 1, 0, 0, 0, []), (29, 8, 1, 4, 3, 0, [29]), (32, 1, 1, 0, 0, 0, []), (33, 8, 1, 4, 1, 0, [19]), (36, 11, 0, 1, 17, 0, [65, 2]), (39, 1, 1, 0, 0, 0, []), (40, 8, 1, 4, 1, 0, [19]), (43, 8, 0, 2, 13, 0, [78]), (46, 1, 3, 2, 0, 0, []), (47, 1, 1, 0, 0, 0, []), (48, 8, 1, 4, 1, 0, [19]), (51, 8, 1, 2, 3, 0, [81]), (54, 1, 0, 2, 0, 0, []), (55, 1, 0, 1, 0, 0, []), (56, 10, 4, 0, 0, 0, []), (57, 1, 1, 0, 0, 0, []), (58, 8, 1, 4, 1, 0, [19]), (61, 7, 0, 0, 0, 0, []), (62, 8, 0, 2, 13, 0, [78]), (65, 0, 0, 0, 0, 1, []), (66, 2, 0, 0, 0, 0, []), (67, 10, 0, 2, 13, 0, [78]), (70, 1, 0, 2, 0, 0, []), (71, 9, 0, 0, 0, 0, [])]
theorem k_B_addTenant : okP s_B_addTenant p_B_addTenant := okP_of _ (by decide +kernel) (WS_places [240, 241, 61, 242, 243, 218, 154, 248, 220, 218, 355, 356, 357, 66, 358, 218, 154, 218, 135, 218, 154, 154] (by decide +kernel) (by decide +kernel)) (nest_places [] (by decide +kernel))
def p_B_setWeight : List PI := [(0, 1, 1, 0, 0, 0, []), (1, 8, 1, 4, 1, 0, [19]), (4, 1, 0, 1, 0, 0, []), (5, 11, 0, 2, 19, 0, [84, 2]), (8, 5, 0, 21, 0, 0, []), (11, 1, 0, 2, 0, 0, []), (12, 0, 0, 0, 0, 1, []), (13, 0, 0, 0, 1, 9, []), (15, 11, 1, 0, 4, 0, [40, 3]), (18, 5, 1, 24, 0, 0, []), (21, 0, 0, 44, 3, -1000000, []), (23, 9, 0, 0, 0, 0, []), (24, 1, 1, 0, 0, 0, []), (25, 8, 1, 4, 3, 0, [29]), (28, 1, 1, 0, 0, 0, []), (29, 8, 1, 4, 1, 0, [19]), (32, 11, 0, 1, 17, 0, [65, 2]), (35, 1, 1, 0, 0, 0, []), (36, 8, 1, 4, 1, 0, [19]), (39, 8, 1, 2, 3, 0, [81]), (42, 1, 0, 1, 0, 0, []), (43, 8, 4, 0, 0, 0, []), (44, 1, 3, 3, 0, 0, []), (45, 1, 1, 0, 0, 0, []), (46, 8, 1, 4, 1, 0, [19]), (49, 8, 1, 2, 3, 0, [81]), (52, 1, 0, 1, 0, 0, []), (53, 1, 0, 2, 0, 0, []), (54, 10, 4, 0, 0, 0, []), (55, 1, 0, 3, 0, 0, []), (56, 9, 0, 0, 0, 0, [])]
theorem k_B_setWeight : okP s_B_setWeight p_B_setWeight := okP_of _ (by decide +kernel) (WS_places [218, 393, 394, 395, 63, 396, 240, 241, 61, 242, 243, 220, 218, 355, 356, 357, 66, 358, 218, 135, 218, 135] (by decide +kernel) (by decide +kernel)) (nest_places [] (by decide +kernel))
def p_B_setLimit : List PI := [(0, 1, 1, 0, 0, 0, []), (1, 8, 1, 4, 1, 0, [19]), (4, 1, 0, 1, 0, 0, []), (5, 11, 0, 2, 19, 0, [84, 2]), (8, 5, 0, 29, 0, 0, []), (11, 1, 0, 2, 0, 0, []), (12, 11, 1, 0, 20, 0, [58, 1]), (15, 5, 0, 29, 0, 0, []), (18, 1, 0, 3, 0, 0, []), (19, 0, 0, 0, 0, 0, []), (20, 0, 0, 0, 2, 9999, []), (23, 11, 1, 0, 4, 0, [40, 3]), (26, 5, 1, 32, 0, 0, []), (29, 0, 0, 44, 3, -1000000, []), (31, 9, 0, 0, 0, 0, []), (32, 1, 0, 1, 0, 0, []), (33, 1, 0, 2, 0, 0, []), (34, 11, 1, 0, 22, 0, [87, 2]), (37, 1, 3, 4, 0, 0, []), (39, 1, 0, 3, 0, 0, []), (40, 1, 1, 0, 0, 0, []), (41, 8, 1, 4, 1, 0, [19]), (44, 8, 1, 2, 8, 0, [91]), (47, 1, 0, 4, 0, 0, []), (49, 8, 4, 0, 0, 0, []), (50, 4, 2, 67, 0, 0, []), (53, 1, 0, 3, 0, 0, []), (54, 1, 1, 0, 0, 0, []), (55, 8, 1, 4, 1, 0, [19]), (58, 8, 1, 2, 7, 0, [94]), (61, 1, 0, 4, 0, 0, []), (63, 8, 4, 0, 0, 0, []), (64, 4, 3, 70, 0, 0, []), (67, 0, 0, 64, 3, -1000001, []), (69, 9, 0, 0, 0, 0, []), (70, 1, 1, 0, 0, 0, []), (71, 8, 1, 4, 3, 0, [29]), (74, 1, 1, 0, 0, 0, []), (75, 8, 1, 4, 1, 0, [19]), (78, 11, 0, 1, 17, 0, [65, 2]), (81, 1, 1, 0, 0, 0, []), (82, 8, 1, 4, 1, 0, [19]), (85, 8, 1, 2, 6, 0, [97]), (88, 1, 0, 4, 0, 0, []), (90, 8, 4, 0, 0, 0, []), (91, 1, 3, 5, 0, 0, []), (93, 1, 1, 0, 0, 0, []), (94, 8, 1, 4, 1, 0, [19]), (97, 8, 1, 2, 6, 0, [97]), (100, 1, 0, 4, 0, 0, []), (102, 1, 0, 3, 0, 0, []), (103, 10, 4, 0, 0, 0, []), (104, 1, 0, 5, 0, 0, []), (106, 9, 0, 0, 0, 0, [])]
theorem k_B_setLimit : okP s_B_setLimit p_B_setLimit := okP_of _ (by decide +kernel) (WS_places [218, 393, 394, 395, 63, 396, 351, 352, 61, 353, 240, 241, 61, 242, 243, 401, 402, 61, 403, 218, 145, 218, 143, 354, 220, 218, 355, 356, 357, 66, 358, 218, 141, 218, 141] (by decide +kernel) (by decide +kernel)) (nest_places [] (by decide +kernel))
def p_B_demand : List PI := [(0, 1, 1, 0, 0, 0, []), (1, 8, 1, 4, 1, 0, [19]), (4, 1, 0, 1, 0, 0, []), (5, 11, 0, 2, 19, 0, [84, 2]), (8, 5, 1, 14, 0, 0, []), (11, 0, 0, 44, 3, -1000000, []), (13, 9, 0, 0, 0, 0, []), (14, 1, 1, 0, 0, 0, []), (15, 8, 1, 4, 1, 0, [19]), (18, 1, 0, 1, 0, 0, []), (19, 11, 0, 2, 37, 0, [100, 2]), (22, 5, 1, 47, 0, 0, []), (25, 1, 1, 0, 0, 0, []), (26, 8, 1, 4, 0, 0, [10]), (29, 11, 0, 3, 62, 0, [54, 1]), (32, 0, 0, 103, 3, -1000003, []), (34, 4, 1, 47, 0, 0, []), (37, 1, 1, 0, 0, 0, []), (38, 8, 1, 4, 0, 0, [10]), (41, 11, 0, 3, 46, 0, [104, 1]), (44, 5, 1, 50, 0, 0, []), (47, 0, 0, 64, 3, -1000001, []), (49, 9, 0, 0, 0, 0, []), (50, 1, 1, 0, 0, 0, []), (51, 8, 1, 4, 1, 0, [19]), (54, 8, 1, 2, 10, 0, [108]), (57, 11, 0, 0, 3, 0, [112, 1]), (60, 5, 0, 66, 0, 0, []), (63, 0, 0, 53, 3, -1000002, []), (65, 9, 0, 0, 0, 0, []), (66, 1, 1, 0, 0, 0, []), (67, 8, 1, 4, 3, 0, [29]), (70, 1, 1, 0, 0, 0, []), (71, 8, 1, 4, 1, 0, [19]), (74, 11, 0, 1, 17, 0, [65, 2]), (77, 1, 1, 0, 0, 0, []), (78, 8, 1, 4, 1, 0, [19]), (81, 8, 1, 2, 10, 0, [108]), (84, 1, 1, 0, 0, 0, []), (85, 8, 1, 4, 0, 0, [10]), (88, 8, 1, 3, 1, 0, [117]), (91, 1, 0, 1, 0, 0, []), (92, 11, 0, 0, 6, 0, [120, 3]), (95, 1, 1, 0, 0, 0, []), (96, 8, 1, 4, 1, 0, [19]), (99, 8, 1, 2, 10, 0, [108]), (102, 8, 0, 0, 2, 0, [124]), (105, 9, 0, 0, 0, 0, [])]
theorem k_B_demand : okP s_B_demand p_B_demand := okP_of _ (by decide +kernel) (WS_places [218, 393, 394, 395, 63, 396, 243, 218, 408, 409, 410, 63, 411, 217, 257, 258, 259, 62, 260, 416, 217, 417, 418, 419, 62, 420, 354, 218, 149, 421, 422, 423, 64, 424, 248, 220, 218, 355, 356, 357, 66, 358, 218, 149, 217, 90, 425, 426, 427, 64, 428, 218, 149, 119] (by decide +kernel) (by decide +kernel)) (nest_places [] (by decide +kernel))
def p_B_withdraw : List PI := [(0, 1, 1, 0, 0, 0, []), (1, 8, 1, 4, 1, 0, [19]), (4, 1, 0, 1, 0, 0, []), (5, 11, 0, 2, 19, 0, [84, 2]), (8, 5, 1, 14, 0, 0, []), (11, 0, 0, 44, 3, -1000000, []), (13, 9, 0, 0, 0, 0, []), (14, 1, 1, 0, 0, 0, []), (15, 8, 1, 4, 1, 0, [19]), (18, 8, 1, 2, 10, 0, [108]), (21, 0, 0, 0, 0, 4, []), (22, 1, 0, 1, 0, 0, []), (23, 11, 0, 0, 11, 0, [127, 3]), (26, 1, 3, 2, 0, 0, []), (27, 1, 0, 2, 0, 0, []), (28, 5, 3, 34, 0, 0, []), (31, 0, 0, 64, 3, -1000001, []), (33, 9, 0, 0, 0, 0, []), (34, 1, 1, 0, 0, 0, []), (35, 8, 1, 4, 3, 0, [29]), (38, 1, 1, 0, 0, 0, []), (39, 8, 1, 4, 1, 0, [19]), (42, 11, 0, 1, 17, 0, [65, 2]), (45, 1, 1, 0, 0, 0, []), (46, 8, 1, 4, 1, 0, [19]), (49, 8, 1, 2, 10, 0, [108]), (52, 1, 0, 2, 0, 0, []), (53, 11, 0, 0, 8, 0, [130, 2]), (56, 1, 1, 0, 0, 0, []), (57, 8, 1, 4, 1, 0, [19]), (60, 8, 1, 2, 10, 0, [108]), (63, 8, 0, 0, 2, 0, [124]), (66, 9, 0, 0, 0, 0, [])]
theorem k_B_withdraw : okP s_B_withdraw p_B_withdraw := okP_of _ (by decide +kernel) (WS_places [218, 393, 394, 395, 63, 396, 243, 218, 149, 435, 436, 437, 64, 438, 354, 220, 218, 355, 356, 357, 66, 358, 218, 149, 444, 445, 446, 64, 447, 218, 149, 119] (by decide +kernel) (by decide +kernel)) (nest_places [] (by decide +kernel))
def p_B_grant : List PI := [(0, 1, 1, 0, 0, 0, []), (1, 8, 1, 4, 1, 0, [19]), (4, 11, 0, 2, 31, 0, [134, 1]), (7, 1, 3, 1, 0, 0, []), (8, 1, 0, 1, 0, 0, []), (9, 5, 3, 15, 0, 0, []), (12, 0, 0, 64, 3, -1000001, []), (14, 9, 0, 0, 0, 0, []), (15, 1, 1, 0, 0, 0, []), (16, 8, 1, 4, 1, 0, [19]), (19, 8, 1, 2, 9, 0, [137]), (22, 11, 0, 0, 3, 0, [112, 1]), (25, 5, 0, 31, 0, 0, []), (28, 0, 0, 53, 3, -1000002, []), (30, 9, 0, 0, 0, 0, []), (31, 1, 1, 0, 0, 0, []), (32, 8, 1, 4, 3, 0, [29]), (35, 1, 1, 0, 0, 0, []), (36, 8, 1, 4, 1, 0, [19]), (39, 11, 0, 1, 17, 0, [65, 2]), (42, 1, 1, 0, 0, 0, []), (43, 8, 1, 4, 1, 0, [19]), (46, 1, 0, 1, 0, 0, []), (47, 11, 0, 2, 33, 0, [140, 2]), (50, 9, 0, 0, 0, 0, [])]
theorem k_B_grant : okP s_B_grant p_B_grant := okP_of _ (by decide +kernel) (WS_places [218, 452, 453, 454, 63, 455, 354, 218, 147, 421, 422, 423, 64, 424, 248, 220, 218, 355, 356, 357, 66, 358, 218, 469, 470, 471, 63, 472] (by decide +kernel) (by decide +kernel)) (nest_places [] (by decide +kernel))
def p_B_grantAll : List PI := [(0, 1, 1, 0, 0, 0, []), (1, 8, 1, 4, 1, 0, [19]), (4, 11, 0, 2, 31, 0, [134, 1]), (7, 5, 3, 13, 0, 0, []), (10, 0, 0, 64, 3, -1000001, []), (12, 9, 0, 0, 0, 0, []), (13, 1, 1, 0, 0, 0, []), (14, 8, 1, 4, 1, 0, [19]), (17, 8, 1, 2, 9, 0, [137]), (20, 11, 0, 0, 3, 0, [112, 1]), (23, 5, 0, 29, 0, 0, []), (26, 0, 0, 53, 3, -1000002, []), (28, 9, 0, 0, 0, 0, []), (29, 1, 1, 0, 0, 0, []), (30, 8, 1, 4, 3, 0, [29]), (33, 1, 1, 0, 0, 0, []), (34, 8, 1, 4, 1, 0, [19]), (37, 11, 0, 1, 17, 0, [65, 2]), (40, 1, 1, 0, 0, 0, []), (41, 8, 1, 4, 1, 0, [19]), (44, 1, 1, 0, 0, 0, []), (45, 8, 1, 4, 4, 0, [33]), (48, 11, 0, 2, 34, 0, [144, 2]), (51, 9, 0, 0, 0, 0, [])]
theorem k_B_grantAll : okP s_B_grantAll p_B_grantAll := okP_of _ (by decide +kernel) (WS_places [218, 452, 453, 454, 63, 455, 354, 218, 147, 421, 422, 423, 64, 424, 248, 220, 218, 355, 356, 357, 66, 358, 218, 221, 486, 487, 488, 63, 489] (by decide +kernel) (by decide +kernel)) (nest_places [] (by decide +kernel))
def p_B_release : List PI := [(0, 1, 1, 0, 0, 0, []), (1, 8, 1, 4, 1, 0, [19]), (4, 8, 1, 2, 9, 0, [137]), (7, 1, 0, 1, 0, 0, []), (8, 11, 0, 0, 12, 0, [148, 2]), (11, 1, 3, 2, 0, 0, []), (12, 1, 0, 2, 0, 0, []), (13, 5, 3, 19, 0, 0, []), (16, 0, 0, 44, 3, -1000000, []), (18, 9, 0, 0, 0, 0, []), (19, 1, 1, 0, 0, 0, []), (20, 8, 1, 4, 3, 0, [29]), (23, 1, 1, 0, 0, 0, []), (24, 8, 1, 4, 1, 0, [19]), (27, 11, 0, 1, 17, 0, [65, 2]), (30, 1, 1, 0, 0, 0, []), (31, 8, 1, 4, 1, 0, [19]), (34, 1, 0, 2, 0, 0, []), (35, 11, 0, 2, 35, 0, [151, 2]), (38, 1, 1, 0, 0, 0, []), (39, 8, 1, 4, 1, 0, [19]), (42, 8, 1, 2, 9, 0, [137]), (45, 8, 0, 0, 2, 0, [124]), (48, 9, 0, 0, 0, 0, [])]
theorem k_B_release : okP s_B_release p_B_release := okP_of _ (by decide +kernel) (WS_places [218, 147, 497, 498, 499, 64, 500, 243, 220, 218, 355, 356, 357, 66, 358, 218, 502, 503, 504, 63, 505, 218, 147, 119] (by decide +kernel) (by decide +kernel)) (nest_places [] (by decide +kernel))
def p_B_converted : List PI := [(0, 1, 0, 2, 0, 0, []), (1, 0, 0, 0, 0, 1, []), (2, 4, 3, 9, 0, 0, []), (5, 0, 0, 0, 0, 0, []), (6, 6, 0, 14, 0, 0, []), (9, 1, 0, 0, 0, 0, []), (10, 1, 0, 1, 0, 0, []), (11, 2, 2, 0, 0, 0, []), (12, 1, 0, 2, 0, 0, []), (13, 2, 3, 0, 0, 0, []), (14, 9, 0, 0, 0, 0, [])]
theorem k_B_converted : okP s_B_converted p_B_converted := okP_of _ (by decide +kernel) (WS_places [] (by decide +kernel) (by decide +kernel)) (nest_places [] (by decide +kernel))
def p_B_exchange : List PI := [(0, 1, 1, 0, 0, 0, []), (1, 8, 1, 4, 1, 0, [19]), (4, 1, 0, 1, 0, 0, []), (5, 11, 0, 2, 19, 0, [84, 2]), (8, 5, 0, 42, 0, 0, []), (11, 1, 0, 2, 0, 0, []), (12, 11, 1, 0, 20, 0, [58, 1]), (15, 5, 0, 42, 0, 0, []), (18, 1, 0, 3, 0, 0, []), (19, 11, 1, 0, 20, 0, [58, 1]), (22, 5, 0, 42, 0, 0, []), (25, 1, 0, 2, 0, 0, []), (26, 1, 0, 3, 0, 0, []), (27, 4, 0, 42, 0, 0, []), (30, 1, 0, 4, 0, 0, []), (32, 0, 0, 0, 0, 1, []), (33, 0, 0, 0, 2, 999, []), (36, 11, 1, 0, 4, 0, [40, 3]), (39, 5, 1, 45, 0, 0, []), (42, 0, 0, 44, 3, -1000000, []), (44, 9, 0, 0, 0, 0, []), (45, 1, 0, 4, 0, 0, []), (47, 1, 1, 0, 0, 0, []), (48, 8, 1, 4, 1, 0, [19]), (51, 1, 0, 2, 0, 0, []), (52, 11, 0, 2, 21, 0, [154, 2]), (55, 1, 1, 0, 0, 0, []), (56, 8, 1, 4, 1, 0, [19]), (59, 1, 0, 3, 0, 0, []), (60, 11, 0, 2, 21, 0, [154, 2]), (63, 11, 1, 0, 77, 0, [157, 3]), (66, 1, 3, 5, 0, 0, []), (68, 1, 1, 0, 0, 0, []), (69, 8, 1, 4, 1, 0, [19]), (72, 1, 0, 1, 0, 0, []), (73, 11, 0, 2, 37, 0, [100, 2]), (76, 5, 1, 112, 0, 0, []), (79, 1, 1, 0, 0, 0, []), (80, 8, 1, 4, 1, 0, [19]), (83, 1, 0, 1, 0, 0, []), (84, 1, 0, 2, 0, 0, []), (85, 11, 0, 2, 27, 0, [161, 3]), (88, 1, 0, 4, 0, 0, []), (90, 4, 2, 112, 0, 0, []), (93, 1, 0, 5, 0, 0, []), (95, 5, 0, 112, 0, 0, []), (98, 1, 1, 0, 0, 0, []), (99, 8, 1, 4, 1, 0, [19]), (102, 8, 1, 2, 1, 0, [69]), (105, 1, 0, 3, 0, 0, []), (106, 8, 4, 0, 0, 0, []), (107, 1, 0, 5, 0, 0, []), (109, 4, 3, 115, 0, 0, []), (112, 0, 0, 64, 3, -1000001, []), (114, 9, 0, 0, 0, 0, []), (115, 1, 0, 1, 0, 0, []), (116, 1, 0, 3, 0, 0, []), (117, 11, 1, 0, 22, 0, [87, 2]), (120, 1, 3, 6, 0, 0, []), (122, 1, 1, 0, 0, 0, []), (123, 8, 1, 4, 1, 0, [19]), (126, 8, 1, 2, 6, 0, [97]), (129, 1, 0, 6, 0, 0, []), (131, 8, 4, 0, 0, 0, []), (132, 1, 0, 5, 0, 0, []), (134, 2, 0, 0, 0, 0, []), (135, 0, 0, 0, 2, 9999, []), (138, 4, 5, 144, 0, 0, []), (141, 0, 0, 53, 3, -1000002, []), (143, 9, 0, 0, 0, 0, []), (144, 1, 1, 0, 0, 0, []), (145, 8, 1, 4, 3, 0, [29]), (148, 1, 1, 0, 0, 0, []), (149, 8, 1, 4, 1, 0, [19]), (152, 11, 0, 1, 17, 0, [65, 2]), (155, 1, 1, 0, 0, 0, []), (156, 8, 1, 4, 1, 0, [19]), (159, 8, 1, 2, 6, 0, [97]), (162, 1, 0, 1, 0, 0, []), (163, 1, 0, 2, 0, 0, []), (164, 11, 1, 0, 22, 0, [87, 2]), (167, 7, 1, 0, 0, 0, []), (168, 8, 4, 0, 0, 0, []), (169, 1, 0, 4, 0, 0, []), (171, 2, 1, 0, 0, 0, []), (172, 10, 4, 0, 0, 0, []), (173, 1, 1, 0, 0, 0, []), (174, 8, 1, 4, 1, 0, [19]), (177, 8, 1, 2, 6, 0, [97]), (180, 1, 0, 6, 0, 0, []), (182, 7, 1, 0, 0, 0, []), (183, 8, 4, 0, 0, 0, []), (184, 1, 0, 5, 0, 0, []), (186, 2, 0, 0, 0, 0, []), (187, 10, 4, 0, 0, 0, []), (188, 1, 1, 0, 0, 0, []), (189, 8, 1, 4, 1, 0, [19]), (192, 8, 1, 2, 1, 0, [69]), (195, 1, 0, 3, 0, 0, []), (196, 7, 1, 0, 0, 0, []), (197, 8, 4, 0, 0, 0, []), (198, 1, 0, 5, 0, 0, []), (200, 2, 1, 0, 0, 0, []), (201, 10, 4, 0, 0, 0, []), (202, 1, 1, 0, 0, 0, []), (203, 8, 1, 4, 1, 0, [19]), (206, 1, 0, 2, 0, 0, []), (207, 1, 0, 4, 0, 0, []), (209, 11, 0, 2, 28, 0, [164, 3]), (212, 1, 0, 5, 0, 0, []), (214, 9, 0, 0, 0, 0, [])]
theorem k_B_exchange : okP s_B_exchange p_B_exchange := okP_of _ (by decide +kernel) (WS_places [218, 393, 394, 395, 63, 396, 351, 352, 61, 353, 351, 352, 61, 353, 240, 241, 61, 242, 243, 218, 510, 511, 512, 63, 513, 218, 510, 511, 512, 63, 513, 515, 516, 61, 517, 218, 408, 409, 410, 63, 411, 218, 518, 519, 520, 63, 521, 218, 131, 354, 401, 402, 61, 403, 218, 141, 248, 220, 218, 355, 356, 357, 66, 358, 218, 141, 401, 402, 61, 403, 218, 141, 218, 131, 218, 523, 524, 525, 63, 526] (by decide +kernel) (by decide +kernel)) (nest_places [] (by decide +kernel))
def p_B_borrow : List PI := [(0, 1, 1, 0, 0, 0, []), (1, 8, 1, 4, 1, 0, [19]), (4, 1, 0, 1, 0, 0, []), (5, 11, 0, 2, 19, 0, [84, 2]), (8, 5, 0, 29, 0, 0, []), (11, 1, 0, 2, 0, 0, []), (12, 11, 1, 0, 20, 0, [58, 1]), (15, 5, 0, 29, 0, 0, []), (18, 1, 0, 3, 0, 0, []), (19, 0, 0, 0, 0, 1, []), (20, 0, 0, 0, 2, 999, []), (23, 11, 1, 0, 4, 0, [40, 3]), (26, 5, 1, 32, 0, 0, []), (29, 0, 0, 44, 3, -1000000, []), (31, 9, 0, 0, 0, 0, []), (32, 1, 1, 0, 0, 0, []), (33, 8, 1, 4, 1, 0, [19]), (36, 1, 0, 1, 0, 0, []), (37, 11, 0, 2, 37, 0, [100, 2]), (40, 5, 1, 81, 0, 0, []), (43, 1, 1, 0, 0, 0, []), (44, 8, 1, 4, 1, 0, [19]), (47, 8, 1, 2, 1, 0, [69]), (50, 1, 0, 2, 0, 0, []), (51, 8, 4, 0, 0, 0, []), (52, 1, 0, 3, 0, 0, []), (53, 4, 2, 81, 0, 0, []), (56, 1, 1, 0, 0, 0, []), (57, 8, 1, 4, 1, 0, [19]), (60, 1, 0, 1, 0, 0, []), (61, 11, 0, 2, 25, 0, [168, 2]), (64, 1, 0, 3, 0, 0, []), (65, 2, 0, 0, 0, 0, []), (66, 0, 0, 0, 1, 10, []), (68, 1, 1, 0, 0, 0, []), (69, 8, 1, 4, 1, 0, [19]), (72, 8, 1, 2, 3, 0, [81]), (75, 1, 0, 1, 0, 0, []), (76, 8, 4, 0, 0, 0, []), (77, 2, 2, 0, 0, 0, []), (78, 4, 5, 84, 0, 0, []), (81, 0, 0, 64, 3, -1000001, []), (83, 9, 0, 0, 0, 0, []), (84, 1, 0, 1, 0, 0, []), (85, 1, 0, 2, 0, 0, []), (86, 11, 1, 0, 22, 0, [87, 2]), (89, 1, 3, 4, 0, 0, []), (91, 1, 1, 0, 0, 0, []), (92, 8, 1, 4, 1, 0, [19]), (95, 8, 1, 2, 6, 0, [97]), (98, 1, 0, 4, 0, 0, []), (100, 8, 4, 0, 0, 0, []), (101, 1, 0, 3, 0, 0, []), (102, 2, 0, 0, 0, 0, []), (103, 0, 0, 0, 2, 9999, []), (106, 4, 5, 112, 0, 0, []), (109, 0, 0, 53, 3, -1000002, []), (111, 9, 0, 0, 0, 0, []), (112, 1, 1, 0, 0, 0, []), (113, 8, 1, 4, 3, 0, [29]), (116, 1, 1, 0, 0, 0, []), (117, 8, 1, 4, 1, 0, [19]), (120, 11, 0, 1, 17, 0, [65, 2]), (123, 1, 1, 0, 0, 0, []), (124, 8, 1, 4, 1, 0, [19]), (127, 8, 1, 2, 1, 0, [69]), (130, 1, 0, 2, 0, 0, []), (131, 7, 1, 0, 0, 0, []), (132, 8, 4, 0, 0, 0, []), (133, 1, 0, 3, 0, 0, []), (134, 2, 1, 0, 0, 0, []), (135, 10, 4, 0, 0, 0, []), (136, 1, 1, 0, 0, 0, []), (137, 8, 1, 4, 1, 0, [19]), (140, 8, 1, 2, 6, 0, [97]), (143, 1, 0, 4, 0, 0, []), (145, 7, 1, 0, 0, 0, []), (146, 8, 4, 0, 0, 0, []), (147, 1, 0, 3, 0, 0, []), (148, 2, 0, 0, 0, 0, []), (149, 10, 4, 0, 0, 0, []), (150, 1, 1, 0, 0, 0, []), (151, 8, 1, 4, 1, 0, [19]), (154, 8, 1, 2, 7, 0, [94]), (157, 1, 0, 4, 0, 0, []), (159, 7, 1, 0, 0, 0, []), (160, 8, 4, 0, 0, 0, []), (161, 1, 0, 3, 0, 0, []), (162, 2, 0, 0, 0, 0, []), (163, 10, 4, 0, 0, 0, []), (164, 1, 1, 0, 0, 0, []), (165, 8, 1, 4, 1, 0, [19]), (168, 8, 1, 2, 7, 0, [94]), (171, 1, 0, 4, 0, 0, []), (173, 8, 4, 0, 0, 0, []), (174, 9, 0, 0, 0, 0, [])]
theorem k_B_borrow : okP s_B_borrow p_B_borrow := okP_of _ (by decide +kernel) (WS_places [218, 393, 394, 395, 63, 396, 351, 352, 61, 353, 240, 241, 61, 242, 243, 218, 408, 409, 410, 63, 411, 218, 131, 218, 531, 532, 533, 63, 534, 218, 135, 354, 401, 402, 61, 403, 218, 141, 248, 220, 218, 355, 356, 357, 66, 358, 218, 131, 218, 141, 218, 143, 218, 143] (by decide +kernel) (by decide +kernel)) (nest_places [] (by decide +kernel))
def p_B_repay : List PI := [(0, 1, 1, 0, 0, 0, []), (1, 8, 1, 4, 1, 0, [19]), (4, 1, 0, 1, 0, 0, []), (5, 11, 0, 2, 19, 0, [84, 2]), (8, 5, 0, 29, 0, 0, []), (11, 1, 0, 2, 0, 0, []), (12, 11, 1, 0, 20, 0, [58, 1]), (15, 5, 0, 29, 0, 0, []), (18, 1, 0, 3, 0, 0, []), (19, 0, 0, 0, 0, 1, []), (20, 0, 0, 0, 2, 999, []), (23, 11, 1, 0, 4, 0, [40, 3]), (26, 5, 1, 32, 0, 0, []), (29, 0, 0, 44, 3, -1000000, []), (31, 9, 0, 0, 0, 0, []), (32, 1, 0, 1, 0, 0, []), (33, 1, 0, 2, 0, 0, []), (34, 11, 1, 0, 22, 0, [87, 2]), (37, 1, 3, 4, 0, 0, []), (39, 1, 1, 0, 0, 0, []), (40, 8, 1, 4, 1, 0, [19]), (43, 8, 1, 2, 7, 0, [94]), (46, 1, 0, 4, 0, 0, []), (48, 8, 4, 0, 0, 0, []), (49, 1, 0, 3, 0, 0, []), (50, 4, 2, 66, 0, 0, []), (53, 1, 1, 0, 0, 0, []), (54, 8, 1, 4, 1, 0, [19]), (57, 1, 0, 1, 0, 0, []), (58, 1, 0, 2, 0, 0, []), (59, 11, 0, 2, 26, 0, [171, 3]), (62, 1, 0, 3, 0, 0, []), (63, 4, 3, 69, 0, 0, []), (66, 0, 0, 64, 3, -1000001, []), (68, 9, 0, 0, 0, 0, []), (69, 1, 1, 0, 0, 0, []), (70, 8, 1, 4, 3, 0, [29]), (73, 1, 1, 0, 0, 0, []), (74, 8, 1, 4, 1, 0, [19]), (77, 11, 0, 1, 17, 0, [65, 2]), (80, 1, 1, 0, 0, 0, []), (81, 8, 1, 4, 1, 0, [19]), (84, 1, 0, 1, 0, 0, []), (85, 1, 0, 2, 0, 0, []), (86, 1, 0, 3, 0, 0, []), (87, 11, 0, 2, 29, 0, [174, 4]), (90, 1, 1, 0, 0, 0, []), (91, 8, 1, 4, 1, 0, [19]), (94, 8, 1, 2, 7, 0, [94]), (97, 1, 0, 4, 0, 0, []), (99, 8, 4, 0, 0, 0, []), (100, 9, 0, 0, 0, 0, [])]
theorem k_B_repay : okP s_B_repay p_B_repay := okP_of _ (by decide +kernel) (WS_places [218, 393, 394, 395, 63, 396, 351, 352, 61, 353, 240, 241, 61, 242, 243, 401, 402, 61, 403, 218, 143, 218, 539, 540, 541, 63, 542, 354, 220, 218, 355, 356, 357, 66, 358, 218, 543, 544, 545, 63, 546, 218, 143] (by decide +kernel) (by decide +kernel)) (nest_places [] (by decide +kernel))
def p_B_pass : List PI := [(0, 1, 0, 1, 0, 0, []), (1, 0, 0, 0, 0, 1, []), (2, 0, 0, 0, 2, 999, []), (5, 11, 1, 0, 4, 0, [40, 3]), (8, 5, 1, 14, 0, 0, []), (11, 0, 0, 44, 3, -1000000, []), (13, 9, 0, 0, 0, 0, []), (14, 1, 1, 0, 0, 0, []), (15, 8, 1, 4, 1, 0, [19]), (18, 8, 0, 2, 14, 0, [178]), (21, 1, 0, 1, 0, 0, []), (22, 2, 0, 0, 0, 0, []), (23, 0, 0, 0, 2, 9999, []), (26, 4, 5, 32, 0, 0, []), (29, 0, 0, 53, 3, -1000002, []), (31, 9, 0, 0, 0, 0, []), (32, 1, 1, 0, 0, 0, []), (33, 8, 1, 4, 3, 0, [29]), (36, 1, 1, 0, 0, 0, []), (37, 8, 1, 4, 1, 0, [19]), (40, 11, 0, 1, 17, 0, [65, 2]), (43, 0, 0, 0, 0, 0, []), (44, 1, 3, 2, 0, 0, []), (45, 1, 0, 2, 0, 0, []), (46, 1, 0, 1, 0, 0, []), (47, 4, 3, 63, 0, 0, []), (50, 1, 1, 0, 0, 0, []), (51, 8, 1, 4, 1, 0, [19]), (54, 11, 0, 2, 43, 0, [181, 1]), (57, 1, 6, 2, 0, 1, []), (60, 6, 0, 45, 0, 0, []), (63, 1, 1, 0, 0, 0, []), (64, 8, 1, 4, 1, 0, [19]), (67, 8, 0, 2, 12, 0, [184]), (70, 9, 0, 0, 0, 0, [])]
theorem k_B_pass : okP s_B_pass p_B_pass := okP_of _ (by decide +kernel) (WS_places [240, 241, 61, 242, 243, 218, 156, 248, 220, 218, 355, 356, 357, 66, 358, 218, 552, 553, 554, 63, 555, 218, 152] (by decide +kernel) (by decide +kernel)) (nest_places [] (by decide +kernel))
def p_B_undo : List PI := [(0, 1, 1, 0, 0, 0, []), (1, 8, 1, 4, 3, 0, [29]), (4, 8, 0, 1, 1, 0, [187]), (7, 5, 1, 13, 0, 0, []), (10, 0, 0, 64, 3, -1000001, []), (12, 9, 0, 0, 0, 0, []), (13, 1, 1, 0, 0, 0, []), (14, 8, 1, 4, 3, 0, [29]), (17, 1, 1, 0, 0, 0, []), (18, 8, 1, 4, 1, 0, [19]), (21, 11, 0, 1, 18, 0, [188, 2]), (24, 1, 1, 0, 0, 0, []), (25, 8, 1, 4, 3, 0, [29]), (28, 8, 0, 1, 1, 0, [187]), (31, 9, 0, 0, 0, 0, [])]
theorem k_B_undo : okP s_B_undo p_B_undo := okP_of _ (by decide +kernel) (WS_places [220, 211, 354, 220, 218, 587, 588, 589, 66, 590, 220, 211] (by decide +kernel) (by decide +kernel)) (nest_places [] (by decide +kernel))
def p_B_resource : List PI := [(0, 1, 0, 1, 0, 0, []), (1, 11, 1, 0, 20, 0, [58, 1]), (4, 5, 1, 10, 0, 0, []), (7, 0, 0, 44, 3, -1000000, []), (9, 9, 0, 0, 0, 0, []), (10, 1, 0, 2, 0, 0, []), (11, 6, 1, 119, 37, 0, [48, 58, 68, 78, 87, 103]), (48, 1, 1, 0, 0, 0, []), (49, 8, 1, 4, 1, 0, [19]), (52, 8, 1, 2, 0, 0, [72]), (55, 1, 0, 1, 0, 0, []), (56, 8, 4, 0, 0, 0, []), (57, 9, 0, 0, 0, 0, []), (58, 1, 1, 0, 0, 0, []), (59, 8, 1, 4, 1, 0, [19]), (62, 8, 1, 2, 1, 0, [69]), (65, 1, 0, 1, 0, 0, []), (66, 8, 4, 0, 0, 0, []), (67, 9, 0, 0, 0, 0, []), (68, 1, 1, 0, 0, 0, []), (69, 8, 1, 4, 1, 0, [19]), (72, 8, 1, 2, 2, 0, [61]), (75, 1, 0, 1, 0, 0, []), (76, 8, 4, 0, 0, 0, []), (77, 9, 0, 0, 0, 0, []), (78, 1, 1, 0, 0, 0, []), (79, 8, 1, 4, 1, 0, [19]), (82, 1, 0, 1, 0, 0, []), (83, 11, 0, 2, 21, 0, [154, 2]), (86, 9, 0, 0, 0, 0, []), (87, 1, 1, 0, 0, 0, []), (88, 8, 1, 4, 1, 0, [19]), (91, 1, 1, 0, 0, 0, []), (92, 8, 1, 4, 1, 0, [19]), (95, 8, 1, 2, 6, 0, [97]), (98, 1, 0, 1, 0, 0, []), (99, 11, 0, 2, 24, 0, [191, 3]), (102, 9, 0, 0, 0, 0, []), (103, 1, 1, 0, 0, 0, []), (104, 8, 1, 4, 1, 0, [19]), (107, 1, 1, 0, 0, 0, []), (108, 8, 1, 4, 1, 0, [19]), (111, 8, 1, 2, 7, 0, [94]), (114, 1, 0, 1, 0, 0, []), (115, 11, 0, 2, 24, 0, [191, 3]), (118, 9, 0, 0, 0, 0, []), (119, 0, 0, 44, 3, -1000000, []), (121, 9, 0, 0, 0, 0, [])]
theorem k_B_resource : okP s_B_resource p_B_resource := okP_of _ (by decide +kernel) (WS_places [351, 352, 61, 353, 243, 218, 129, 218, 131, 218, 133, 218, 510, 511, 512, 63, 513, 218, 218, 141, 595, 596, 597, 63, 598, 218, 218, 143, 595, 596, 597, 63, 598, 243] (by decide +kernel) (by decide +kernel)) (nest_places [] (by decide +kernel))
def p_B_tenant : List PI := [(0, 1, 1, 0, 0, 0, []), (1, 8, 1, 4, 1, 0, [19]), (4, 1, 0, 1, 0, 0, []), (5, 11, 0, 2, 19, 0, [84, 2]), (8, 5, 1, 14, 0, 0, []), (11, 0, 0, 44, 3, -1000000, []), (13, 9, 0, 0, 0, 0, []), (14, 1, 0, 2, 0, 0, []), (15, 6, 1, 165, 45, 0, [60, 70, 80, 89, 106, 118, 130, 155]), (60, 1, 1, 0, 0, 0, []), (61, 8, 1, 4, 1, 0, [19]), (64, 8, 1, 2, 3, 0, [81]), (67, 1, 0, 1, 0, 0, []), (68, 8, 4, 0, 0, 0, []), (69, 9, 0, 0, 0, 0, []), (70, 1, 1, 0, 0, 0, []), (71, 8, 1, 4, 1, 0, [19]), (74, 8, 1, 2, 4, 0, [195]), (77, 1, 0, 1, 0, 0, []), (78, 8, 4, 0, 0, 0, []), (79, 9, 0, 0, 0, 0, []), (80, 1, 1, 0, 0, 0, []), (81, 8, 1, 4, 1, 0, [19]), (84, 1, 0, 1, 0, 0, []), (85, 11, 0, 2, 23, 0, [198, 2]), (88, 9, 0, 0, 0, 0, []), (89, 1, 1, 0, 0, 0, []), (90, 8, 1, 4, 1, 0, [19]), (93, 1, 0, 1, 0, 0, []), (94, 11, 0, 2, 37, 0, [100, 2]), (97, 5, 0, 104, 0, 0, []), (100, 0, 0, 0, 0, 0, []), (101, 6, 0, 105, 0, 0, []), (104, 0, 0, 0, 0, 1, []), (105, 9, 0, 0, 0, 0, []), (106, 1, 1, 0, 0, 0, []), (107, 8, 1, 4, 1, 0, [19]), (110, 8, 1, 2, 9, 0, [137]), (113, 1, 0, 1, 0, 0, []), (114, 11, 0, 0, 10, 0, [201, 2]), (117, 9, 0, 0, 0, 0, []), (118, 1, 1, 0, 0, 0, []), (119, 8, 1, 4, 1, 0, [19]), (122, 8, 1, 2, 10, 0, [108]), (125, 1, 0, 1, 0, 0, []), (126, 11, 0, 0, 10, 0, [201, 2]), (129, 9, 0, 0, 0, 0, []), (130, 1, 1, 0, 0, 0, []), (131, 8, 1, 4, 1, 0, [19]), (134, 1, 0, 1, 0, 0, []), (135, 11, 0, 2, 37, 0, [100, 2]), (138, 5, 0, 152, 0, 0, []), (141, 1, 1, 0, 0, 0, []), (142, 8, 1, 4, 1, 0, [19]), (145, 1, 0, 1, 0, 0, []), (146, 11, 0, 2, 36, 0, [204, 2]), (149, 6, 0, 154, 0, 0, []), (152, 0, 0, 103, 3, -1000003, []), (154, 9, 0, 0, 0, 0, []), (155, 1, 1, 0, 0, 0, []), (156, 8, 1, 4, 1, 0, [19]), (159, 8, 1, 2, 5, 0, [207]), (162, 1, 0, 1, 0, 0, []), (163, 8, 4, 0, 0, 0, []), (164, 9, 0, 0, 0, 0, []), (165, 0, 0, 44, 3, -1000000, []), (167, 9, 0, 0, 0, 0, [])]
theorem k_B_tenant : okP s_B_tenant p_B_tenant := okP_of _ (by decide +kernel) (WS_places [218, 393, 394, 395, 63, 396, 243, 218, 135, 218, 137, 218, 603, 465, 466, 63, 467, 218, 408, 409, 410, 63, 411, 218, 147, 604, 605, 606, 64, 607, 218, 149, 604, 605, 606, 64, 607, 218, 408, 409, 410, 63, 411, 218, 608, 413, 414, 63, 415, 416, 218, 139, 243] (by decide +kernel) (by decide +kernel)) (nest_places [] (by decide +kernel))
def p_B_account : List PI := [(0, 1, 1, 0, 0, 0, []), (1, 8, 1, 4, 1, 0, [19]), (4, 1, 0, 1, 0, 0, []), (5, 11, 0, 2, 19, 0, [84, 2]), (8, 5, 0, 18, 0, 0, []), (11, 1, 0, 2, 0, 0, []), (12, 11, 1, 0, 20, 0, [58, 1]), (15, 5, 1, 21, 0, 0, []), (18, 0, 0, 44, 3, -1000000, []), (20, 9, 0, 0, 0, 0, []), (21, 1, 0, 1, 0, 0, []), (22, 1, 0, 2, 0, 0, []), (23, 11, 1, 0, 22, 0, [87, 2]), (26, 1, 3, 4, 0, 0, []), (28, 1, 0, 3, 0, 0, []), (29, 6, 1, 103, 31, 0, [60, 71, 82, 93]), (60, 1, 1, 0, 0, 0, []), (61, 8, 1, 4, 1, 0, [19]), (64, 8, 1, 2, 6, 0, [97]), (67, 1, 0, 4, 0, 0, []), (69, 8, 4, 0, 0, 0, []), (70, 9, 0, 0, 0, 0, []), (71, 1, 1, 0, 0, 0, []), (72, 8, 1, 4, 1, 0, [19]), (75, 8, 1, 2, 7, 0, [94]), (78, 1, 0, 4, 0, 0, []), (80, 8, 4, 0, 0, 0, []), (81, 9, 0, 0, 0, 0, []), (82, 1, 1, 0, 0, 0, []), (83, 8, 1, 4, 1, 0, [19]), (86, 8, 1, 2, 8, 0, [91]), (89, 1, 0, 4, 0, 0, []), (91, 8, 4, 0, 0, 0, []), (92, 9, 0, 0, 0, 0, []), (93, 1, 1, 0, 0, 0, []), (94, 8, 1, 4, 1, 0, [19]), (97, 1, 0, 1, 0, 0, []), (98, 1, 0, 2, 0, 0, []), (99, 11, 0, 2, 26, 0, [171, 3]), (102, 9, 0, 0, 0, 0, []), (103, 0, 0, 44, 3, -1000000, []), (105, 9, 0, 0, 0, 0, [])]
theorem k_B_account : okP s_B_account p_B_account := okP_of _ (by decide +kernel) (WS_places [218, 393, 394, 395, 63, 396, 351, 352, 61, 353, 243, 401, 402, 61, 403, 218, 141, 218, 143, 218, 145, 218, 539, 540, 541, 63, 542, 243] (by decide +kernel) (by decide +kernel)) (nest_places [] (by decide +kernel))
def p_B_granted : List PI := [(0, 1, 0, 1, 0, 0, []), (1, 5, 2, 13, 0, 0, []), (4, 1, 0, 2, 0, 0, []), (5, 0, 0, 0, 0, 0, []), (6, 0, 0, 0, 0, 4, []), (7, 11, 1, 0, 4, 0, [40, 3]), (10, 5, 1, 16, 0, 0, []), (13, 0, 0, 44, 3, -1000000, []), (15, 9, 0, 0, 0, 0, []), (16, 1, 1, 0, 0, 0, []), (17, 8, 1, 4, 1, 0, [19]), (20, 8, 1, 2, 9, 0, [137]), (23, 1, 1, 0, 0, 0, []), (24, 8, 1, 4, 1, 0, [19]), (27, 8, 1, 2, 9, 0, [137]), (30, 1, 0, 1, 0, 0, []), (31, 11, 0, 0, 12, 0, [148, 2]), (34, 1, 0, 2, 0, 0, []), (35, 11, 0, 0, 5, 0, [210, 3]), (38, 9, 0, 0, 0, 0, [])]
theorem k_B_granted : okP s_B_granted p_B_granted := okP_of _ (by decide +kernel) (WS_places [240, 241, 61, 242, 243, 218, 147, 218, 147, 497, 498, 499, 64, 500, 617, 440, 441, 64, 442] (by decide +kernel) (by decide +kernel)) (nest_places [] (by decide +kernel))
def p_B_demanded : List PI := [(0, 1, 0, 1, 0, 0, []), (1, 5, 2, 13, 0, 0, []), (4, 1, 0, 2, 0, 0, []), (5, 0, 0, 0, 0, 0, []), (6, 0, 0, 0, 0, 4, []), (7, 11, 1, 0, 4, 0, [40, 3]), (10, 5, 1, 16, 0, 0, []), (13, 0, 0, 44, 3, -1000000, []), (15, 9, 0, 0, 0, 0, []), (16, 1, 1, 0, 0, 0, []), (17, 8, 1, 4, 1, 0, [19]), (20, 8, 1, 2, 10, 0, [108]), (23, 1, 0, 1, 0, 0, []), (24, 1, 0, 2, 0, 0, []), (25, 11, 0, 0, 5, 0, [210, 3]), (28, 9, 0, 0, 0, 0, [])]
theorem k_B_demanded : okP s_B_demanded p_B_demanded := okP_of _ (by decide +kernel) (WS_places [240, 241, 61, 242, 243, 218, 149, 617, 440, 441, 64, 442] (by decide +kernel) (by decide +kernel)) (nest_places [] (by decide +kernel))
def p_B_makePlan : List PI := [(0, 1, 1, 0, 0, 0, []), (1, 8, 1, 4, 2, 0, [23]), (4, 1, 1, 0, 0, 0, []), (5, 8, 1, 4, 1, 0, [19]), (8, 11, 0, 2, 16, 0, [262, 2]), (11, 1, 1, 0, 0, 0, []), (12, 8, 1, 4, 2, 0, [23]), (15, 1, 1, 0, 0, 0, []), (16, 8, 1, 4, 4, 0, [33]), (19, 11, 0, 2, 34, 0, [144, 2]), (22, 9, 0, 0, 0, 0, [])]
theorem k_B_makePlan : okP s_B_makePlan p_B_makePlan := okP_of _ (by decide +kernel) (WS_places [219, 218, 630, 364, 365, 63, 366, 219, 221, 486, 487, 488, 63, 489] (by decide +kernel) (by decide +kernel)) (nest_places [] (by decide +kernel))
def p_B_plan : List PI := [(0, 1, 0, 1, 0, 0, []), (1, 0, 0, 0, 0, -1, []), (2, 4, 3, 8, 0, 0, []), (5, 0, 0, 44, 3, -1000000, []), (7, 9, 0, 0, 0, 0, []), (8, 1, 1, 0, 0, 0, []), (9, 11, 0, 4, 88, 0, [213, 1]), (12, 1, 3, 2, 0, 0, []), (13, 1, 0, 1, 0, 0, []), (14, 0, 0, 0, 0, -1, []), (15, 4, 1, 20, 0, 0, []), (18, 1, 0, 2, 0, 0, []), (19, 9, 0, 0, 0, 0, []), (20, 1, 0, 1, 0, 0, []), (21, 1, 0, 2, 0, 0, []), (22, 4, 3, 43, 0, 0, []), (25, 1, 0, 1, 0, 0, []), (26, 1, 1, 0, 0, 0, []), (27, 8, 1, 4, 4, 0, [33]), (30, 8, 6, 0, 0, 0, []), (31, 4, 3, 43, 0, 0, []), (34, 1, 1, 0, 0, 0, []), (35, 8, 1, 4, 4, 0, [33]), (38, 1, 0, 1, 0, 0, []), (39, 8, 4, 0, 0, 0, []), (40, 6, 0, 45, 0, 0, []), (43, 0, 0, 103, 3, -1000003, []), (45, 9, 0, 0, 0, 0, [])]
theorem k_B_plan : okP s_B_plan p_B_plan := okP_of _ (by decide +kernel) (WS_places [243, 626, 628, 14, 61, 629, 221, 221, 416] (by decide +kernel) (by decide +kernel)) (nest_places [] (by decide +kernel))
def p_B_worth : List PI := [(0, 1, 1, 0, 0, 0, []), (1, 8, 1, 4, 1, 0, [19]), (4, 1, 0, 1, 0, 0, []), (5, 11, 0, 2, 19, 0, [84, 2]), (8, 5, 0, 18, 0, 0, []), (11, 1, 0, 2, 0, 0, []), (12, 11, 1, 0, 20, 0, [58, 1]), (15, 5, 1, 21, 0, 0, []), (18, 0, 0, 44, 3, -1000000, []), (20, 9, 0, 0, 0, 0, []), (21, 0, 0, 0, 0, 0, []), (22, 1, 3, 3, 0, 0, []), (23, 1, 1, 0, 0, 0, []), (24, 8, 1, 4, 1, 0, [19]), (27, 1, 0, 2, 0, 0, []), (28, 11, 0, 2, 21, 0, [154, 2]), (31, 1, 3, 4, 0, 0, []), (33, 0, 0, 0, 0, 0, []), (34, 1, 3, 5, 0, 0, []), (36, 1, 0, 5, 0, 0, []), (38, 0, 0, 0, 0, 4, []), (39, 4, 3, 81, 0, 0, []), (42, 1, 0, 5, 0, 0, []), (44, 1, 0, 2, 0, 0, []), (45, 4, 0, 75, 0, 0, []), (48, 1, 0, 3, 0, 0, []), (49, 1, 1, 0, 0, 0, []), (50, 8, 1, 4, 1, 0, [19]), (53, 1, 0, 1, 0, 0, []), (54, 1, 0, 5, 0, 0, []), (56, 11, 0, 2, 27, 0, [161, 3]), (59, 1, 1, 0, 0, 0, []), (60, 8, 1, 4, 1, 0, [19]), (63, 1, 0, 5, 0, 0, []), (65, 11, 0, 2, 21, 0, [154, 2]), (68, 1, 0, 4, 0, 0, []), (70, 11, 1, 0, 77, 0, [157, 3]), (73, 2, 0, 0, 0, 0, []), (74, 1, 3, 3, 0, 0, []), (75, 1, 6, 5, 0, 1, []), (78, 6, 0, 36, 0, 0, []), (81, 1, 0, 3, 0, 0, []), (82, 9, 0, 0, 0, 0, [])]
theorem k_B_worth : okP s_B_worth p_B_worth := okP_of _ (by decide +kernel) (WS_places [218, 393, 394, 395, 63, 396, 351, 352, 61, 353, 243, 218, 510, 511, 512, 63, 513, 218, 518, 519, 520, 63, 521, 218, 510, 511, 512, 63, 513, 515, 516, 61, 517] (by decide +kernel) (by decide +kernel)) (nest_places [] (by decide +kernel))
def p_B_noteRuins : List PI := [(0, 0, 0, 0, 0, 0, []), (1, 1, 3, 2, 0, 0, []), (2, 0, 0, 0, 0, 0, []), (3, 1, 3, 3, 0, 0, []), (4, 1, 0, 3, 0, 0, []), (5, 0, 0, 0, 1, 6, []), (7, 4, 3, 48, 0, 0, []), (10, 1, 1, 0, 0, 0, []), (11, 8, 1, 4, 5, 0, [37]), (14, 1, 0, 3, 0, 0, []), (15, 8, 4, 0, 0, 0, []), (16, 0, 0, 103, 3, -1000003, []), (18, 4, 1, 42, 0, 0, []), (21, 1, 1, 0, 0, 0, []), (22, 8, 1, 4, 2, 0, [23]), (25, 1, 0, 3, 0, 0, []), (26, 11, 0, 2, 37, 0, [100, 2]), (29, 5, 0, 42, 0, 0, []), (32, 1, 1, 0, 0, 0, []), (33, 8, 1, 4, 5, 0, [37]), (36, 1, 0, 3, 0, 0, []), (37, 1, 0, 1, 0, 0, []), (38, 10, 4, 0, 0, 0, []), (39, 1, 6, 2, 0, 1, []), (42, 1, 6, 3, 0, 1, []), (45, 6, 0, 4, 0, 0, []), (48, 1, 0, 2, 0, 0, []), (49, 9, 0, 0, 0, 0, [])]
theorem k_B_noteRuins : okP s_B_noteRuins p_B_noteRuins := okP_of _ (by decide +kernel) (WS_places [222, 416, 219, 408, 409, 410, 63, 411, 222] (by decide +kernel) (by decide +kernel)) (nest_places [] (by decide +kernel))
def p_B_foretellRuins : List PI := [(0, 1, 1, 0, 0, 0, []), (1, 8, 1, 4, 2, 0, [23]), (4, 1, 1, 0, 0, 0, []), (5, 8, 1, 4, 1, 0, [19]), (8, 11, 0, 2, 16, 0, [262, 2]), (11, 0, 0, 0, 0, 0, []), (12, 1, 3, 1, 0, 0, []), (13, 0, 0, 0, 0, 0, []), (14, 1, 3, 2, 0, 0, []), (15, 1, 0, 2, 0, 0, []), (16, 0, 0, 0, 1, 6, []), (18, 4, 3, 75, 0, 0, []), (21, 1, 1, 0, 0, 0, []), (22, 8, 1, 4, 5, 0, [37]), (25, 1, 0, 2, 0, 0, []), (26, 1, 1, 0, 0, 0, []), (27, 8, 1, 4, 2, 0, [23]), (30, 1, 0, 2, 0, 0, []), (31, 11, 0, 2, 37, 0, [100, 2]), (34, 5, 0, 41, 0, 0, []), (37, 0, 0, 0, 0, 0, []), (38, 6, 0, 43, 0, 0, []), (41, 0, 0, 103, 3, -1000003, []), (43, 10, 4, 0, 0, 0, []), (44, 1, 1, 0, 0, 0, []), (45, 8, 1, 4, 5, 0, [37]), (48, 1, 0, 2, 0, 0, []), (49, 8, 4, 0, 0, 0, []), (50, 0, 0, 103, 3, -1000003, []), (52, 4, 1, 69, 0, 0, []), (55, 1, 0, 2, 0, 0, []), (56, 1, 1, 0, 0, 0, []), (57, 8, 1, 4, 2, 0, [23]), (60, 8, 0, 2, 13, 0, [78]), (63, 4, 3, 69, 0, 0, []), (66, 1, 6, 1, 0, 1, []), (69, 1, 6, 2, 0, 1, []), (72, 6, 0, 15, 0, 0, []), (75, 0, 0, 0, 0, 1, []), (76, 1, 3, 2, 0, 0, []), (77, 1, 0, 2, 0, 0, []), (78, 0, 0, 0, 2, 200, []), (81, 4, 4, 109, 0, 0, []), (84, 1, 0, 1, 0, 0, []), (85, 5, 5, 109, 0, 0, []), (88, 1, 1, 0, 0, 0, []), (89, 8, 1, 4, 2, 0, [23]), (92, 11, 0, 2, 43, 0, [181, 1]), (95, 1, 0, 1, 0, 0, []), (96, 1, 1, 0, 0, 0, []), (97, 1, 0, 2, 0, 0, []), (98, 11, 0, 4, 91, 0, [265, 2]), (101, 2, 1, 0, 0, 0, []), (102, 1, 3, 1, 0, 0, []), (103, 1, 6, 2, 0, 1, []), (106, 6, 0, 77, 0, 0, []), (109, 9, 5, 0, 0, 0, [])]
theorem k_B_foretellRuins : okP s_B_foretellRuins p_B_foretellRuins := okP_of _ (by decide +kernel) (WS_places [219, 218, 630, 364, 365, 63, 366, 222, 219, 408, 409, 410, 63, 411, 416, 222, 416, 219, 154, 219, 552, 553, 554, 63, 555, 643, 645, 16, 61, 646] (by decide +kernel) (by decide +kernel)) (nest_places [] (by decide +kernel))
def p_B_ruin : List PI := [(0, 1, 1, 0, 0, 0, []), (1, 8, 1, 4, 1, 0, [19]), (4, 1, 0, 1, 0, 0, []), (5, 11, 0, 2, 19, 0, [84, 2]), (8, 5, 1, 14, 0, 0, []), (11, 0, 0, 44, 3, -1000000, []), (13, 9, 0, 0, 0, 0, []), (14, 1, 1, 0, 0, 0, []), (15, 11, 0, 4, 92, 0, [216, 1]), (18, 1, 1, 0, 0, 0, []), (19, 8, 1, 4, 5, 0, [37]), (22, 1, 0, 1, 0, 0, []), (23, 8, 4, 0, 0, 0, []), (24, 9, 0, 0, 0, 0, [])]
theorem k_B_ruin : okP s_B_ruin p_B_ruin := okP_of _ (by decide +kernel) (WS_places [218, 393, 394, 395, 63, 396, 243, 639, 641, 15, 61, 642, 222] (by decide +kernel) (by decide +kernel)) (nest_places [] (by decide +kernel))
def p_B_count : List PI := [(0, 1, 0, 1, 0, 0, []), (1, 6, 1, 142, 55, 0, [56, 64, 72, 83, 94, 102, 110, 118, 126, 134]), (56, 1, 1, 0, 0, 0, []), (57, 8, 1, 4, 1, 0, [19]), (60, 8, 0, 2, 14, 0, [178]), (63, 9, 0, 0, 0, 0, []), (64, 1, 1, 0, 0, 0, []), (65, 8, 1, 4, 1, 0, [19]), (68, 8, 0, 2, 13, 0, [78]), (71, 9, 0, 0, 0, 0, []), (72, 1, 1, 0, 0, 0, []), (73, 8, 1, 4, 1, 0, [19]), (76, 8, 1, 2, 9, 0, [137]), (79, 8, 0, 0, 2, 0, [124]), (82, 9, 0, 0, 0, 0, []), (83, 1, 1, 0, 0, 0, []), (84, 8, 1, 4, 1, 0, [19]), (87, 8, 1, 2, 10, 0, [108]), (90, 8, 0, 0, 2, 0, [124]), (93, 9, 0, 0, 0, 0, []), (94, 1, 1, 0, 0, 0, []), (95, 8, 1, 4, 1, 0, [19]), (98, 8, 0, 2, 12, 0, [184]), (101, 9, 0, 0, 0, 0, []), (102, 1, 1, 0, 0, 0, []), (103, 8, 1, 4, 1, 0, [19]), (106, 8, 0, 2, 16, 0, [219]), (109, 9, 0, 0, 0, 0, []), (110, 1, 1, 0, 0, 0, []), (111, 8, 1, 4, 1, 0, [19]), (114, 8, 0, 2, 15, 0, [75]), (117, 9, 0, 0, 0, 0, []), (118, 1, 1, 0, 0, 0, []), (119, 8, 1, 4, 1, 0, [19]), (122, 8, 0, 2, 17, 0, [222]), (125, 9, 0, 0, 0, 0, []), (126, 1, 1, 0, 0, 0, []), (127, 8, 1, 4, 3, 0, [29]), (130, 8, 0, 1, 1, 0, [187]), (133, 9, 0, 0, 0, 0, []), (134, 1, 1, 0, 0, 0, []), (135, 8, 1, 4, 0, 0, [10]), (138, 8, 0, 3, 2, 0, [49]), (141, 9, 0, 0, 0, 0, []), (142, 0, 0, 44, 3, -1000000, []), (144, 9, 0, 0, 0, 0, [])]
theorem k_B_count : okP s_B_count p_B_count := okP_of _ (by decide +kernel) (WS_places [218, 156, 218, 154, 218, 147, 119, 218, 149, 119, 218, 152, 218, 160, 218, 158, 218, 162, 220, 211, 217, 92, 243] (by decide +kernel) (by decide +kernel)) (nest_places [] (by decide +kernel))
def p_B_withTenant : List PI := [(0, 1, 2, 1, 0, 0, []), (1, 1, 5, 4, 0, 0, []), (3, 0, 0, 0, 0, 0, []), (4, 1, 3, 6, 0, 0, []), (6, 1, 0, 6, 0, 0, []), (8, 0, 0, 0, 1, 7, []), (10, 4, 4, 36, 0, 0, []), (13, 0, 1, 227, 0, 0, []), (16, 1, 2, 4, 0, 0, []), (18, 3, 2, 0, 0, 0, []), (19, 1, 1, 0, 0, 0, []), (20, 1, 0, 3, 0, 0, []), (21, 1, 0, 6, 0, 0, []), (23, 11, 0, 4, 84, 0, [250, 3]), (26, 3, 0, 0, 0, 0, []), (27, 3, 1, 0, 0, 0, []), (28, 1, 5, 4, 0, 0, []), (30, 1, 6, 6, 0, 1, []), (33, 6, 0, 6, 0, 0, []), (36, 0, 0, 0, 0, 0, []), (37, 1, 3, 6, 0, 0, []), (39, 1, 0, 6, 0, 0, []), (41, 0, 0, 0, 0, 4, []), (42, 4, 3, 102, 0, 0, []), (45, 0, 0, 0, 0, 0, []), (46, 1, 3, 7, 0, 0, []), (48, 1, 0, 7, 0, 0, []), (50, 0, 0, 0, 0, 3, []), (51, 4, 4, 79, 0, 0, []), (54, 0, 1, 227, 0, 0, []), (57, 1, 2, 4, 0, 0, []), (59, 3, 2, 0, 0, 0, []), (60, 1, 1, 0, 0, 0, []), (61, 1, 0, 3, 0, 0, []), (62, 1, 0, 6, 0, 0, []), (64, 1, 0, 7, 0, 0, []), (66, 11, 0, 4, 85, 0, [253, 4]), (69, 3, 0, 0, 0, 0, []), (70, 3, 1, 0, 0, 0, []), (71, 1, 5, 4, 0, 0, []), (73, 1, 6, 7, 0, 1, []), (76, 6, 0, 48, 0, 0, []), (79, 0, 1, 227, 0, 0, []), (82, 1, 2, 4, 0, 0, []), (84, 3, 2, 0, 0, 0, []), (85, 1, 1, 0, 0, 0, []), (86, 1, 0, 3, 0, 0, []), (87, 1, 0, 6, 0, 0, []), (89, 11, 0, 4, 90, 0, [256, 3]), (92, 3, 0, 0, 0, 0, []), (93, 3, 1, 0, 0, 0, []), (94, 1, 5, 4, 0, 0, []), (96, 1, 6, 6, 0, 1, []), (99, 6, 0, 39, 0, 0, []), (102, 1, 2, 4, 0, 0, []), (104, 9, 3, 0, 0, 0, [])]
theorem k_B_withTenant : okP s_B_withTenant p_B_withTenant := okP_of _ (by decide +kernel) (WS_places [656, 663, 600, 601, 61, 602, 656, 664, 610, 611, 61, 612, 656, 665, 632, 633, 61, 634] (by decide +kernel) (by decide +kernel)) (nest_places [] (by decide +kernel))
def p_B_withClaims : List PI := [(0, 1, 2, 0, 0, 0, []), (1, 1, 5, 4, 0, 0, []), (3, 0, 0, 0, 0, 0, []), (4, 1, 3, 6, 0, 0, []), (6, 1, 0, 6, 0, 0, []), (8, 1, 1, 2, 0, 0, []), (9, 8, 0, 0, 2, 0, [124]), (12, 4, 3, 75, 0, 0, []), (15, 1, 0, 3, 0, 0, []), (16, 5, 0, 36, 0, 0, []), (19, 0, 1, 227, 0, 0, []), (22, 1, 2, 4, 0, 0, []), (24, 3, 2, 0, 0, 0, []), (25, 1, 1, 2, 0, 0, []), (26, 1, 0, 6, 0, 0, []), (28, 0, 0, 0, 0, 5, []), (29, 11, 0, 0, 5, 0, [210, 3]), (32, 3, 0, 0, 0, 0, []), (33, 3, 1, 0, 0, 0, []), (34, 1, 5, 4, 0, 0, []), (36, 0, 0, 0, 0, 0, []), (37, 1, 3, 7, 0, 0, []), (39, 1, 0, 7, 0, 0, []), (41, 0, 0, 0, 0, 4, []), (42, 4, 4, 69, 0, 0, []), (45, 0, 1, 227, 0, 0, []), (48, 1, 2, 4, 0, 0, []), (50, 3, 2, 0, 0, 0, []), (51, 1, 1, 2, 0, 0, []), (52, 1, 0, 6, 0, 0, []), (54, 1, 0, 7, 0, 0, []), (56, 11, 0, 0, 5, 0, [210, 3]), (59, 3, 0, 0, 0, 0, []), (60, 3, 1, 0, 0, 0, []), (61, 1, 5, 4, 0, 0, []), (63, 1, 6, 7, 0, 1, []), (66, 6, 0, 39, 0, 0, []), (69, 1, 6, 6, 0, 1, []), (72, 6, 0, 6, 0, 0, []), (75, 1, 2, 4, 0, 0, []), (77, 9, 3, 0, 0, 0, [])]
theorem k_B_withClaims : okP s_B_withClaims p_B_withClaims := okP_of _ (by decide +kernel) (WS_places [119, 656, 617, 440, 441, 64, 442, 656, 617, 440, 441, 64, 442] (by decide +kernel) (by decide +kernel)) (nest_places [] (by decide +kernel))
def p_B_withPlan : List PI := [(0, 1, 1, 0, 0, 0, []), (1, 11, 0, 4, 88, 0, [213, 1]), (4, 1, 3, 3, 0, 0, []), (5, 0, 1, 227, 0, 0, []), (8, 1, 2, 1, 0, 0, []), (9, 3, 2, 0, 0, 0, []), (10, 1, 0, 3, 0, 0, []), (11, 3, 0, 0, 0, 0, []), (12, 3, 1, 0, 0, 0, []), (13, 1, 5, 4, 0, 0, []), (15, 0, 0, 0, 0, 0, []), (16, 1, 3, 6, 0, 0, []), (18, 1, 0, 6, 0, 0, []), (20, 1, 0, 3, 0, 0, []), (21, 4, 3, 57, 0, 0, []), (24, 1, 0, 6, 0, 0, []), (26, 1, 1, 0, 0, 0, []), (27, 8, 1, 4, 4, 0, [33]), (30, 8, 6, 0, 0, 0, []), (31, 4, 3, 57, 0, 0, []), (34, 0, 1, 227, 0, 0, []), (37, 1, 2, 4, 0, 0, []), (39, 3, 2, 0, 0, 0, []), (40, 1, 1, 0, 0, 0, []), (41, 8, 1, 4, 4, 0, [33]), (44, 1, 0, 6, 0, 0, []), (46, 8, 4, 0, 0, 0, []), (47, 3, 0, 0, 0, 0, []), (48, 3, 1, 0, 0, 0, []), (49, 1, 5, 4, 0, 0, []), (51, 1, 6, 6, 0, 1, []), (54, 6, 0, 18, 0, 0, []), (57, 1, 2, 4, 0, 0, []), (59, 9, 3, 0, 0, 0, [])]
theorem k_B_withPlan : okP s_B_withPlan p_B_withPlan := okP_of _ (by decide +kernel) (WS_places [626, 628, 14, 61, 629, 656, 221, 656, 221] (by decide +kernel) (by decide +kernel)) (nest_places [] (by decide +kernel))
def p_B_withText : List PI := [(0, 1, 2, 1, 0, 0, []), (1, 1, 5, 3, 0, 0, []), (2, 0, 0, 0, 0, 0, []), (3, 1, 3, 5, 0, 0, []), (5, 1, 0, 5, 0, 0, []), (7, 1, 1, 0, 0, 0, []), (8, 8, 1, 4, 0, 0, [10]), (11, 8, 0, 3, 2, 0, [49]), (14, 4, 3, 48, 0, 0, []), (17, 1, 0, 5, 0, 0, []), (19, 0, 0, 0, 1, 60, []), (21, 4, 3, 48, 0, 0, []), (24, 0, 1, 227, 0, 0, []), (27, 1, 2, 3, 0, 0, []), (28, 3, 2, 0, 0, 0, []), (29, 1, 1, 0, 0, 0, []), (30, 8, 1, 4, 0, 0, [10]), (33, 8, 1, 3, 0, 0, [259]), (36, 1, 0, 5, 0, 0, []), (38, 8, 4, 0, 0, 0, []), (39, 3, 0, 0, 0, 0, []), (40, 3, 1, 0, 0, 0, []), (41, 1, 5, 3, 0, 0, []), (42, 1, 6, 5, 0, 1, []), (45, 6, 0, 5, 0, 0, []), (48, 1, 2, 3, 0, 0, []), (49, 9, 3, 0, 0, 0, [])]
theorem k_B_withText : okP s_B_withText p_B_withText := okP_of _ (by decide +kernel) (WS_places [217, 92, 656, 217, 88] (by decide +kernel) (by decide +kernel)) (nest_places [] (by decide +kernel))
def p_B_digest : List PI := [(0, 0, 5, 225, 0, 0, []), (3, 1, 5, 1, 0, 0, []), (4, 0, 0, 0, 0, 0, []), (5, 1, 3, 3, 0, 0, []), (6, 1, 0, 3, 0, 0, []), (7, 0, 0, 0, 1, 9, []), (9, 4, 4, 31, 0, 0, []), (12, 0, 1, 227, 0, 0, []), (15, 1, 2, 1, 0, 0, []), (16, 3, 2, 0, 0, 0, []), (17, 1, 1, 0, 0, 0, []), (18, 1, 0, 3, 0, 0, []), (19, 11, 0, 4, 94, 0, [229, 2]), (22, 3, 0, 0, 0, 0, []), (23, 3, 1, 0, 0, 0, []), (24, 1, 5, 1, 0, 0, []), (25, 1, 6, 3, 0, 1, []), (28, 6, 0, 6, 0, 0, []), (31, 0, 0, 0, 0, 0, []), (32, 1, 3, 3, 0, 0, []), (33, 1, 0, 3, 0, 0, []), (34, 0, 0, 0, 0, 4, []), (35, 4, 3, 74, 0, 0, []), (38, 0, 0, 0, 0, 0, []), (39, 1, 3, 4, 0, 0, []), (41, 1, 0, 4, 0, 0, []), (43, 0, 0, 0, 0, 5, []), (44, 4, 4, 68, 0, 0, []), (47, 0, 1, 227, 0, 0, []), (50, 1, 2, 1, 0, 0, []), (51, 3, 2, 0, 0, 0, []), (52, 1, 1, 0, 0, 0, []), (53, 1, 0, 3, 0, 0, []), (54, 1, 0, 4, 0, 0, []), (56, 11, 0, 4, 83, 0, [232, 3]), (59, 3, 0, 0, 0, 0, []), (60, 3, 1, 0, 0, 0, []), (61, 1, 5, 1, 0, 0, []), (62, 1, 6, 4, 0, 1, []), (65, 6, 0, 41, 0, 0, []), (68, 1, 6, 3, 0, 1, []), (71, 6, 0, 33, 0, 0, []), (74, 1, 1, 0, 0, 0, []), (75, 11, 0, 4, 92, 0, [216, 1]), (78, 0, 0, 0, 0, 0, []), (79, 1, 3, 3, 0, 0, []), (80, 1, 0, 3, 0, 0, []), (81, 1, 1, 0, 0, 0, []), (82, 8, 1, 4, 1, 0, [19]), (85, 8, 0, 2, 13, 0, [78]), (88, 4, 3, 122, 0, 0, []), (91, 1, 0, 3, 0, 0, []), (92, 0, 0, 0, 1, 6, []), (94, 4, 3, 122, 0, 0, []), (97, 0, 1, 227, 0, 0, []), (100, 1, 1, 0, 0, 0, []), (101, 1, 2, 1, 0, 0, []), (102, 1, 0, 3, 0, 0, []), (103, 11, 0, 4, 95, 0, [235, 3]), (106, 3, 2, 0, 0, 0, []), (107, 1, 1, 0, 0, 0, []), (108, 8, 1, 4, 5, 0, [37]), (111, 1, 0, 3, 0, 0, []), (112, 8, 4, 0, 0, 0, []), (113, 3, 0, 0, 0, 0, []), (114, 3, 1, 0, 0, 0, []), (115, 1, 5, 1, 0, 0, []), (116, 1, 6, 3, 0, 1, []), (119, 6, 0, 80, 0, 0, []), (122, 1, 2, 1, 0, 0, []), (123, 1, 1, 0, 0, 0, []), (124, 8, 1, 4, 1, 0, [19]), (127, 8, 1, 2, 9, 0, [137]), (130, 0, 0, 0, 0, 1, []), (131, 11, 1, 0, 96, 0, [239, 3]), (134, 1, 5, 1, 0, 0, []), (135, 1, 2, 1, 0, 0, []), (136, 1, 1, 0, 0, 0, []), (137, 8, 1, 4, 1, 0, [19]), (140, 8, 1, 2, 10, 0, [108]), (143, 0, 0, 0, 0, 0, []), (144, 11, 1, 0, 96, 0, [239, 3]), (147, 1, 5, 1, 0, 0, []), (148, 1, 1, 0, 0, 0, []), (149, 1, 1, 0, 0, 0, []), (150, 1, 2, 1, 0, 0, []), (151, 11, 0, 4, 97, 0, [243, 2]), (154, 11, 0, 4, 98, 0, [247, 2]), (157, 9, 3, 0, 0, 0, [])]
theorem k_B_digest : okP s_B_digest p_B_digest := okP_of _ (by decide +kernel) (WS_places [655, 656, 657, 648, 649, 61, 650, 656, 658, 592, 593, 61, 594, 639, 641, 15, 61, 642, 218, 154, 656, 659, 661, 17, 61, 662, 222, 218, 147, 666, 667, 61, 668, 218, 149, 666, 667, 61, 668, 669, 671, 18, 61, 672, 673, 675, 19, 61, 676] (by decide +kernel) (by decide +kernel)) (nest_places [] (by decide +kernel))
end
section
def p_M_init : List PI := [(0, 1, 1, 0, 0, 0, []), (1, 12, 3, 0, 0, 0, [1]), (4, 1, 1, 0, 0, 0, []), (5, 0, 0, 0, 2, 454, []), (8, 10, 7, 0, 0, 0, []), (10, 10, 1, 5, 0, 0, [7]), (13, 1, 1, 0, 0, 0, []), (14, 0, 0, 0, 2, 3632, []), (17, 10, 7, 0, 0, 0, []), (19, 10, 1, 5, 1, 0, [13]), (22, 1, 1, 0, 0, 0, []), (23, 0, 0, 0, 2, 454, []), (26, 10, 7, 0, 0, 0, []), (28, 10, 1, 5, 2, 0, [16]), (31, 1, 1, 0, 0, 0, []), (32, 0, 0, 0, 1, 60, []), (34, 10, 7, 0, 0, 0, []), (36, 10, 1, 5, 4, 0, [19]), (39, 1, 1, 0, 0, 0, []), (40, 0, 0, 0, 0, 4, []), (41, 10, 7, 0, 0, 0, []), (43, 10, 1, 5, 6, 0, [22]), (46, 1, 1, 0, 0, 0, []), (47, 0, 0, 0, 1, 40, []), (49, 10, 7, 0, 0, 0, []), (51, 10, 1, 5, 9, 0, [25]), (54, 1, 1, 0, 0, 0, []), (55, 8, 1, 5, 0, 0, [7]), (58, 0, 0, 0, 2, 452, []), (61, 0, 0, 0, 0, 3, []), (62, 10, 4, 0, 0, 0, []), (63, 9, 5, 0, 0, 0, [])]
theorem k_M_init : okP s_M_init p_M_init := okP_of _ (by decide +kernel) (WS_places [682, 79, 80, 100, 683, 100, 684, 100, 685, 100, 687, 100, 689, 100, 692, 683] (by decide +kernel) (by decide +kernel)) (nest_places [] (by decide +kernel))
def p_M_in : List PI := [(0, 1, 0, 0, 0, 0, []), (1, 1, 0, 1, 0, 0, []), (2, 4, 2, 14, 0, 0, []), (5, 1, 0, 0, 0, 0, []), (6, 1, 0, 2, 0, 0, []), (7, 4, 4, 14, 0, 0, []), (10, 0, 0, 0, 0, 1, []), (11, 6, 0, 15, 0, 0, []), (14, 0, 0, 0, 0, 0, []), (15, 9, 1, 0, 0, 0, [])]
theorem k_M_in : okP s_M_in p_M_in := okP_of _ (by decide +kernel) (WS_places [] (by decide +kernel) (by decide +kernel)) (nest_places [] (by decide +kernel))
def p_M_least : List PI := [(0, 1, 0, 0, 0, 0, []), (1, 1, 0, 1, 0, 0, []), (2, 4, 3, 9, 0, 0, []), (5, 1, 0, 0, 0, 0, []), (6, 6, 0, 10, 0, 0, []), (9, 1, 0, 1, 0, 0, []), (10, 9, 0, 0, 0, 0, [])]
theorem k_M_least : okP s_M_least p_M_least := okP_of _ (by decide +kernel) (WS_places [] (by decide +kernel) (by decide +kernel)) (nest_places [] (by decide +kernel))
def p_M_isResource : List PI := [(0, 1, 0, 0, 0, 0, []), (1, 0, 0, 0, 0, 0, []), (2, 0, 0, 0, 0, 3, []), (3, 11, 1, 0, 101, 0, [28, 3]), (6, 9, 1, 0, 0, 0, [])]
theorem k_M_isResource : okP s_M_isResource p_M_isResource := okP_of _ (by decide +kernel) (WS_places [726, 727, 67, 728] (by decide +kernel) (by decide +kernel)) (nest_places [] (by decide +kernel))
def p_M_isTenant : List PI := [(0, 1, 0, 1, 0, 0, []), (1, 0, 0, 0, 0, 0, []), (2, 1, 1, 0, 0, 0, []), (3, 8, 1, 5, 0, 0, [7]), (6, 0, 0, 0, 2, 447, []), (9, 8, 4, 0, 0, 0, []), (10, 0, 0, 0, 0, 1, []), (11, 2, 1, 0, 0, 0, []), (12, 11, 1, 0, 101, 0, [28, 3]), (15, 9, 1, 0, 0, 0, [])]
theorem k_M_isTenant : okP s_M_isTenant p_M_isTenant := okP_of _ (by decide +kernel) (WS_places [683, 726, 727, 67, 728] (by decide +kernel) (by decide +kernel)) (nest_places [] (by decide +kernel))
def p_M_of : List PI := [(0, 1, 1, 0, 0, 0, []), (1, 8, 1, 5, 0, 0, [7]), (4, 0, 0, 0, 1, 8, []), (6, 0, 0, 0, 1, 12, []), (8, 1, 0, 1, 0, 0, []), (9, 2, 2, 0, 0, 0, []), (10, 2, 0, 0, 0, 0, []), (11, 1, 0, 2, 0, 0, []), (12, 2, 0, 0, 0, 0, []), (13, 8, 4, 0, 0, 0, []), (14, 9, 0, 0, 0, 0, [])]
theorem k_M_of : okP s_M_of p_M_of := okP_of _ (by decide +kernel) (WS_places [683] (by decide +kernel) (by decide +kernel)) (nest_places [] (by decide +kernel))
def p_M_adds : List PI := [(0, 1, 1, 0, 0, 0, []), (1, 8, 1, 5, 0, 0, [7]), (4, 0, 0, 0, 1, 8, []), (6, 0, 0, 0, 1, 12, []), (8, 1, 0, 1, 0, 0, []), (9, 2, 2, 0, 0, 0, []), (10, 2, 0, 0, 0, 0, []), (11, 1, 0, 2, 0, 0, []), (12, 2, 0, 0, 0, 0, []), (13, 7, 1, 0, 0, 0, []), (14, 8, 4, 0, 0, 0, []), (15, 1, 0, 3, 0, 0, []), (16, 2, 0, 0, 0, 0, []), (17, 10, 4, 0, 0, 0, []), (18, 9, 5, 0, 0, 0, [])]
theorem k_M_adds : okP s_M_adds p_M_adds := okP_of _ (by decide +kernel) (WS_places [683] (by decide +kernel) (by decide +kernel)) (nest_places [] (by decide +kernel))
def p_M_keeps : List PI := [(0, 1, 1, 0, 0, 0, []), (1, 8, 0, 5, 3, 0, [32]), (4, 0, 0, 0, 1, 8, []), (6, 4, 1, 50, 0, 0, []), (9, 0, 0, 0, 0, 0, []), (10, 1, 3, 1, 0, 0, []), (11, 1, 0, 1, 0, 0, []), (12, 0, 0, 0, 2, 3178, []), (15, 4, 3, 40, 0, 0, []), (18, 1, 1, 0, 0, 0, []), (19, 8, 1, 5, 1, 0, [13]), (22, 1, 0, 1, 0, 0, []), (23, 1, 1, 0, 0, 0, []), (24, 8, 1, 5, 1, 0, [13]), (27, 1, 0, 1, 0, 0, []), (28, 0, 0, 0, 2, 454, []), (31, 2, 0, 0, 0, 0, []), (32, 8, 4, 0, 0, 0, []), (33, 10, 4, 0, 0, 0, []), (34, 1, 6, 1, 0, 1, []), (37, 6, 0, 11, 0, 0, []), (40, 1, 1, 0, 0, 0, []), (41, 7, 0, 0, 0, 0, []), (42, 8, 0, 5, 3, 0, [32]), (45, 0, 0, 0, 0, 1, []), (46, 2, 1, 0, 0, 0, []), (47, 10, 0, 5, 3, 0, [32]), (50, 0, 0, 0, 0, 0, []), (51, 1, 3, 1, 0, 0, []), (52, 1, 0, 1, 0, 0, []), (53, 0, 0, 0, 2, 454, []), (56, 4, 3, 86, 0, 0, []), (59, 1, 1, 0, 0, 0, []), (60, 8, 1, 5, 1, 0, [13]), (63, 0, 0, 0, 2, 454, []), (66, 1, 1, 0, 0, 0, []), (67, 8, 0, 5, 3, 0, [32]), (70, 2, 2, 0, 0, 0, []), (71, 1, 0, 1, 0, 0, []), (72, 2, 0, 0, 0, 0, []), (73, 1, 1, 0, 0, 0, []), (74, 8, 1, 5, 0, 0, [7]), (77, 1, 0, 1, 0, 0, []), (78, 8, 4, 0, 0, 0, []), (79, 10, 4, 0, 0, 0, []), (80, 1, 6, 1, 0, 1, []), (83, 6, 0, 52, 0, 0, []), (86, 1, 1, 0, 0, 0, []), (87, 7, 0, 0, 0, 0, []), (88, 8, 0, 5, 3, 0, [32]), (91, 0, 0, 0, 0, 1, []), (92, 2, 0, 0, 0, 0, []), (93, 10, 0, 5, 3, 0, [32]), (96, 9, 5, 0, 0, 0, [])]
theorem k_M_keeps : okP s_M_keeps p_M_keeps := okP_of _ (by decide +kernel) (WS_places [686, 684, 684, 686, 686, 684, 686, 683, 686, 686] (by decide +kernel) (by decide +kernel)) (nest_places [] (by decide +kernel))
def p_M_undo : List PI := [(0, 1, 1, 0, 0, 0, []), (1, 8, 0, 5, 3, 0, [32]), (4, 5, 1, 10, 0, 0, []), (7, 0, 0, 36, 3, -1000001, []), (9, 9, 0, 0, 0, 0, []), (10, 1, 1, 0, 0, 0, []), (11, 7, 0, 0, 0, 0, []), (12, 8, 0, 5, 3, 0, [32]), (15, 0, 0, 0, 0, 1, []), (16, 2, 1, 0, 0, 0, []), (17, 10, 0, 5, 3, 0, [32]), (20, 0, 0, 0, 0, 0, []), (21, 1, 3, 1, 0, 0, []), (22, 1, 0, 1, 0, 0, []), (23, 0, 0, 0, 2, 454, []), (26, 4, 3, 56, 0, 0, []), (29, 1, 1, 0, 0, 0, []), (30, 8, 1, 5, 0, 0, [7]), (33, 1, 0, 1, 0, 0, []), (34, 1, 1, 0, 0, 0, []), (35, 8, 1, 5, 1, 0, [13]), (38, 0, 0, 0, 2, 454, []), (41, 1, 1, 0, 0, 0, []), (42, 8, 0, 5, 3, 0, [32]), (45, 2, 2, 0, 0, 0, []), (46, 1, 0, 1, 0, 0, []), (47, 2, 0, 0, 0, 0, []), (48, 8, 4, 0, 0, 0, []), (49, 10, 4, 0, 0, 0, []), (50, 1, 6, 1, 0, 1, []), (53, 6, 0, 22, 0, 0, []), (56, 1, 1, 0, 0, 0, []), (57, 8, 0, 5, 3, 0, [32]), (60, 9, 0, 0, 0, 0, [])]
theorem k_M_undo : okP s_M_undo p_M_undo := okP_of _ (by decide +kernel) (WS_places [686, 721, 686, 686, 683, 684, 686, 686] (by decide +kernel) (by decide +kernel)) (nest_places [] (by decide +kernel))
def p_M_keepsAside : List PI := [(0, 0, 0, 0, 0, 0, []), (1, 1, 3, 1, 0, 0, []), (2, 1, 0, 1, 0, 0, []), (3, 0, 0, 0, 2, 454, []), (6, 4, 3, 27, 0, 0, []), (9, 1, 1, 0, 0, 0, []), (10, 8, 1, 5, 2, 0, [16]), (13, 1, 0, 1, 0, 0, []), (14, 1, 1, 0, 0, 0, []), (15, 8, 1, 5, 0, 0, [7]), (18, 1, 0, 1, 0, 0, []), (19, 8, 4, 0, 0, 0, []), (20, 10, 4, 0, 0, 0, []), (21, 1, 6, 1, 0, 1, []), (24, 6, 0, 2, 0, 0, []), (27, 9, 5, 0, 0, 0, [])]
theorem k_M_keepsAside : okP s_M_keepsAside p_M_keepsAside := okP_of _ (by decide +kernel) (WS_places [685, 683] (by decide +kernel) (by decide +kernel)) (nest_places [] (by decide +kernel))
def p_M_returns : List PI := [(0, 0, 0, 0, 0, 0, []), (1, 1, 3, 1, 0, 0, []), (2, 1, 0, 1, 0, 0, []), (3, 0, 0, 0, 2, 454, []), (6, 4, 3, 27, 0, 0, []), (9, 1, 1, 0, 0, 0, []), (10, 8, 1, 5, 0, 0, [7]), (13, 1, 0, 1, 0, 0, []), (14, 1, 1, 0, 0, 0, []), (15, 8, 1, 5, 2, 0, [16]), (18, 1, 0, 1, 0, 0, []), (19, 8, 4, 0, 0, 0, []), (20, 10, 4, 0, 0, 0, []), (21, 1, 6, 1, 0, 1, []), (24, 6, 0, 2, 0, 0, []), (27, 9, 5, 0, 0, 0, [])]
theorem k_M_returns : okP s_M_returns p_M_returns := okP_of _ (by decide +kernel) (WS_places [683, 685] (by decide +kernel) (by decide +kernel)) (nest_places [] (by decide +kernel))
def p_M_type : List PI := [(0, 1, 0, 1, 0, 0, []), (1, 0, 0, 0, 0, 0, []), (2, 0, 0, 0, 1, 127, []), (4, 11, 1, 0, 101, 0, [28, 3]), (7, 5, 1, 13, 0, 0, []), (10, 0, 0, 37, 3, -1000000, []), (12, 9, 0, 0, 0, 0, []), (13, 1, 1, 0, 0, 0, []), (14, 8, 0, 5, 5, 0, [38]), (17, 0, 0, 0, 1, 60, []), (19, 4, 1, 25, 0, 0, []), (22, 0, 0, 41, 3, -1000002, []), (24, 9, 0, 0, 0, 0, []), (25, 1, 1, 0, 0, 0, []), (26, 8, 1, 5, 4, 0, [19]), (29, 1, 1, 0, 0, 0, []), (30, 8, 0, 5, 5, 0, [38]), (33, 1, 0, 1, 0, 0, []), (34, 10, 4, 0, 0, 0, []), (35, 1, 1, 0, 0, 0, []), (36, 7, 0, 0, 0, 0, []), (37, 8, 0, 5, 5, 0, [38]), (40, 0, 0, 0, 0, 1, []), (41, 2, 0, 0, 0, 0, []), (42, 10, 0, 5, 5, 0, [38]), (45, 1, 1, 0, 0, 0, []), (46, 8, 0, 5, 5, 0, [38]), (49, 9, 0, 0, 0, 0, [])]
theorem k_M_type : okP s_M_type p_M_type := okP_of _ (by decide +kernel) (WS_places [726, 727, 67, 728, 729, 688, 730, 687, 688, 688, 688, 688] (by decide +kernel) (by decide +kernel)) (nest_places [] (by decide +kernel))
def p_M_clearText : List PI := [(0, 1, 1, 0, 0, 0, []), (1, 8, 0, 5, 5, 0, [38]), (4, 1, 3, 1, 0, 0, []), (5, 1, 1, 0, 0, 0, []), (6, 0, 0, 0, 0, 0, []), (7, 10, 0, 5, 5, 0, [38]), (10, 1, 0, 1, 0, 0, []), (11, 9, 0, 0, 0, 0, [])]
theorem k_M_clearText : okP s_M_clearText p_M_clearText := okP_of _ (by decide +kernel) (WS_places [688, 688] (by decide +kernel) (by decide +kernel)) (nest_places [] (by decide +kernel))
def p_M_next : List PI := [(0, 1, 1, 0, 0, 0, []), (1, 8, 0, 5, 7, 0, [42]), (4, 1, 1, 0, 0, 0, []), (5, 8, 0, 5, 5, 0, [38]), (8, 4, 3, 23, 0, 0, []), (11, 1, 1, 0, 0, 0, []), (12, 8, 1, 5, 4, 0, [19]), (15, 1, 1, 0, 0, 0, []), (16, 8, 0, 5, 7, 0, [42]), (19, 8, 4, 0, 0, 0, []), (20, 6, 0, 24, 0, 0, []), (23, 0, 0, 0, 0, -1, []), (24, 9, 0, 0, 0, 0, [])]
theorem k_M_next : okP s_M_next p_M_next := okP_of _ (by decide +kernel) (WS_places [690, 688, 687, 690] (by decide +kernel) (by decide +kernel)) (nest_places [] (by decide +kernel))
def p_M_blanks : List PI := [(0, 1, 1, 0, 0, 0, []), (1, 11, 0, 5, 113, 0, [45, 1]), (4, 0, 0, 0, 1, 32, []), (6, 4, 1, 22, 0, 0, []), (9, 1, 1, 0, 0, 0, []), (10, 7, 0, 0, 0, 0, []), (11, 8, 0, 5, 7, 0, [42]), (14, 0, 0, 0, 0, 1, []), (15, 2, 0, 0, 0, 0, []), (16, 10, 0, 5, 7, 0, [42]), (19, 6, 0, 0, 0, 0, []), (22, 9, 5, 0, 0, 0, [])]
theorem k_M_blanks : okP s_M_blanks p_M_blanks := okP_of _ (by decide +kernel) (WS_places [748, 750, 22, 67, 751, 690, 690] (by decide +kernel) (by decide +kernel)) (nest_places [] (by decide +kernel))
def p_M_fails : List PI := [(0, 1, 1, 0, 0, 0, []), (1, 1, 1, 0, 0, 0, []), (2, 8, 0, 5, 8, 0, [49]), (5, 0, 0, 52, 3, -1000003, []), (7, 4, 1, 14, 0, 0, []), (10, 1, 0, 1, 0, 0, []), (11, 6, 0, 18, 0, 0, []), (14, 1, 1, 0, 0, 0, []), (15, 8, 0, 5, 8, 0, [49]), (18, 10, 0, 5, 8, 0, [49]), (21, 9, 5, 0, 0, 0, [])]
theorem k_M_fails : okP s_M_fails p_M_fails := okP_of _ (by decide +kernel) (WS_places [691, 743, 691, 691] (by decide +kernel) (by decide +kernel)) (nest_places [] (by decide +kernel))
def p_M_isDigit : List PI := [(0, 1, 1, 0, 0, 0, []), (1, 11, 0, 5, 113, 0, [45, 1]), (4, 0, 0, 0, 1, 48, []), (6, 0, 0, 0, 1, 57, []), (8, 11, 1, 0, 101, 0, [28, 3]), (11, 9, 1, 0, 0, 0, [])]
theorem k_M_isDigit : okP s_M_isDigit p_M_isDigit := okP_of _ (by decide +kernel) (WS_places [748, 750, 22, 67, 751, 726, 727, 67, 728] (by decide +kernel) (by decide +kernel)) (nest_places [] (by decide +kernel))
def p_M_isWord : List PI := [(0, 1, 1, 0, 0, 0, []), (1, 8, 0, 5, 7, 0, [42]), (4, 1, 0, 1, 0, 0, []), (5, 2, 1, 0, 0, 0, []), (6, 1, 0, 3, 0, 0, []), (7, 4, 1, 14, 0, 0, []), (10, 0, 0, 0, 0, 1, []), (11, 6, 0, 15, 0, 0, []), (14, 0, 0, 0, 0, 0, []), (15, 1, 3, 4, 0, 0, []), (17, 0, 0, 0, 0, 0, []), (18, 1, 3, 5, 0, 0, []), (20, 1, 0, 5, 0, 0, []), (22, 1, 0, 3, 0, 0, []), (23, 4, 3, 70, 0, 0, []), (26, 1, 0, 4, 0, 0, []), (28, 5, 0, 70, 0, 0, []), (31, 1, 1, 0, 0, 0, []), (32, 8, 1, 5, 4, 0, [19]), (35, 1, 0, 1, 0, 0, []), (36, 1, 0, 5, 0, 0, []), (38, 2, 0, 0, 0, 0, []), (39, 8, 4, 0, 0, 0, []), (40, 1, 0, 2, 0, 0, []), (41, 0, 0, 0, 1, 8, []), (43, 1, 0, 3, 0, 0, []), (44, 0, 0, 0, 0, 1, []), (45, 2, 1, 0, 0, 0, []), (46, 1, 0, 5, 0, 0, []), (48, 2, 1, 0, 0, 0, []), (49, 2, 2, 0, 0, 0, []), (50, 2, 9, 0, 0, 0, []), (51, 0, 0, 0, 1, 127, []), (53, 2, 6, 0, 0, 0, []), (54, 4, 1, 61, 0, 0, []), (57, 0, 0, 0, 0, 1, []), (58, 6, 0, 62, 0, 0, []), (61, 0, 0, 0, 0, 0, []), (62, 1, 3, 4, 0, 0, []), (64, 1, 6, 5, 0, 1, []), (67, 6, 0, 20, 0, 0, []), (70, 1, 0, 4, 0, 0, []), (72, 9, 1, 0, 0, 0, [])]
theorem k_M_isWord : okP s_M_isWord p_M_isWord := okP_of _ (by decide +kernel) (WS_places [690, 687] (by decide +kernel) (by decide +kernel)) (nest_places [] (by decide +kernel))
def p_M_name : List PI := [(0, 1, 1, 0, 0, 0, []), (1, 8, 0, 5, 7, 0, [42]), (4, 1, 3, 1, 0, 0, []), (5, 1, 1, 0, 0, 0, []), (6, 11, 0, 5, 113, 0, [45, 1]), (9, 0, 0, 0, 1, 97, []), (11, 0, 0, 0, 1, 122, []), (13, 11, 1, 0, 101, 0, [28, 3]), (16, 5, 0, 32, 0, 0, []), (19, 1, 1, 0, 0, 0, []), (20, 7, 0, 0, 0, 0, []), (21, 8, 0, 5, 7, 0, [42]), (24, 0, 0, 0, 0, 1, []), (25, 2, 0, 0, 0, 0, []), (26, 10, 0, 5, 7, 0, [42]), (29, 6, 0, 5, 0, 0, []), (32, 1, 1, 0, 0, 0, []), (33, 1, 0, 1, 0, 0, []), (34, 0, 0, 53, 3, 6516853, []), (36, 0, 0, 0, 0, 3, []), (37, 11, 0, 5, 117, 0, [54, 4]), (40, 5, 0, 47, 0, 0, []), (43, 0, 0, 0, 0, 0, []), (44, 6, 0, 94, 0, 0, []), (47, 1, 1, 0, 0, 0, []), (48, 1, 0, 1, 0, 0, []), (49, 0, 0, 57, 3, 7169389, []), (51, 0, 0, 0, 0, 3, []), (52, 11, 0, 5, 117, 0, [54, 4]), (55, 5, 0, 62, 0, 0, []), (58, 0, 0, 0, 0, 1, []), (59, 6, 0, 94, 0, 0, []), (62, 1, 1, 0, 0, 0, []), (63, 1, 0, 1, 0, 0, []), (64, 0, 0, 58, 3, 7234932, []), (66, 0, 0, 0, 0, 3, []), (67, 11, 0, 5, 117, 0, [54, 4]), (70, 5, 0, 77, 0, 0, []), (73, 0, 0, 0, 0, 2, []), (74, 6, 0, 94, 0, 0, []), (77, 1, 1, 0, 0, 0, []), (78, 1, 0, 1, 0, 0, []), (79, 0, 0, 59, 3, 1684632427, []), (81, 0, 0, 0, 0, 4, []), (82, 11, 0, 5, 117, 0, [54, 4]), (85, 5, 0, 92, 0, 0, []), (88, 0, 0, 0, 0, 3, []), (89, 6, 0, 94, 0, 0, []), (92, 0, 0, 52, 3, -1000003, []), (94, 9, 0, 0, 0, 0, [])]
theorem k_M_name : okP s_M_name p_M_name := okP_of _ (by decide +kernel) (WS_places [690, 748, 750, 22, 67, 751, 726, 727, 67, 728, 690, 690, 756, 757, 759, 24, 67, 760, 761, 757, 759, 24, 67, 760, 762, 757, 759, 24, 67, 760, 763, 757, 759, 24, 67, 760, 743] (by decide +kernel) (by decide +kernel)) (nest_places [] (by decide +kernel))
def p_M_reads : List PI := [(0, 1, 1, 0, 0, 0, []), (1, 0, 0, 0, 0, 0, []), (2, 10, 0, 5, 7, 0, [42]), (5, 1, 1, 0, 0, 0, []), (6, 0, 0, 52, 3, -1000003, []), (8, 10, 0, 5, 8, 0, [49]), (11, 0, 0, 0, 0, 0, []), (12, 1, 3, 1, 0, 0, []), (13, 0, 0, 0, 0, 0, []), (14, 1, 3, 2, 0, 0, []), (15, 1, 0, 2, 0, 0, []), (16, 0, 0, 0, 0, 4, []), (17, 4, 3, 33, 0, 0, []), (20, 1, 1, 0, 0, 0, []), (21, 8, 1, 5, 6, 0, [22]), (24, 1, 0, 2, 0, 0, []), (25, 0, 0, 0, 0, 0, []), (26, 10, 4, 0, 0, 0, []), (27, 1, 6, 2, 0, 1, []), (30, 6, 0, 15, 0, 0, []), (33, 1, 1, 0, 0, 0, []), (34, 11, 0, 5, 114, 0, [60, 1]), (37, 1, 1, 0, 0, 0, []), (38, 8, 0, 5, 7, 0, [42]), (41, 1, 1, 0, 0, 0, []), (42, 8, 0, 5, 5, 0, [38]), (45, 4, 3, 191, 0, 0, []), (48, 1, 1, 0, 0, 0, []), (49, 8, 0, 5, 8, 0, [49]), (52, 0, 0, 52, 3, -1000003, []), (54, 4, 1, 191, 0, 0, []), (57, 1, 1, 0, 0, 0, []), (58, 8, 0, 5, 7, 0, [42]), (61, 1, 3, 2, 0, 0, []), (62, 1, 1, 0, 0, 0, []), (63, 11, 0, 5, 118, 0, [63, 1]), (66, 1, 3, 3, 0, 0, []), (67, 1, 0, 3, 0, 0, []), (68, 0, 0, 52, 3, -1000003, []), (70, 4, 0, 82, 0, 0, []), (73, 1, 0, 1, 0, 0, []), (74, 1, 0, 3, 0, 0, []), (75, 2, 9, 0, 0, 0, []), (76, 0, 0, 0, 0, 1, []), (77, 2, 6, 0, 0, 0, []), (78, 0, 0, 0, 0, 1, []), (79, 4, 1, 90, 0, 0, []), (82, 1, 1, 0, 0, 0, []), (83, 1, 0, 2, 0, 0, []), (84, 11, 0, 5, 115, 0, [66, 2]), (87, 6, 0, 188, 0, 0, []), (90, 1, 0, 1, 0, 0, []), (91, 0, 0, 0, 0, 1, []), (92, 1, 0, 3, 0, 0, []), (93, 2, 8, 0, 0, 0, []), (94, 2, 7, 0, 0, 0, []), (95, 1, 3, 1, 0, 0, []), (96, 1, 1, 0, 0, 0, []), (97, 11, 0, 5, 114, 0, [60, 1]), (100, 1, 1, 0, 0, 0, []), (101, 8, 0, 5, 7, 0, [42]), (104, 1, 3, 4, 0, 0, []), (106, 1, 1, 0, 0, 0, []), (107, 8, 0, 5, 7, 0, [42]), (110, 1, 0, 4, 0, 0, []), (112, 0, 0, 0, 0, 2, []), (113, 2, 0, 0, 0, 0, []), (114, 4, 3, 160, 0, 0, []), (117, 1, 1, 0, 0, 0, []), (118, 11, 0, 5, 116, 0, [70, 1]), (121, 5, 0, 160, 0, 0, []), (124, 1, 1, 0, 0, 0, []), (125, 8, 1, 5, 6, 0, [22]), (128, 1, 0, 3, 0, 0, []), (129, 0, 0, 0, 1, 10, []), (131, 1, 1, 0, 0, 0, []), (132, 8, 1, 5, 6, 0, [22]), (135, 1, 0, 3, 0, 0, []), (136, 8, 4, 0, 0, 0, []), (137, 2, 2, 0, 0, 0, []), (138, 1, 1, 0, 0, 0, []), (139, 11, 0, 5, 113, 0, [45, 1]), (142, 2, 0, 0, 0, 0, []), (143, 0, 0, 0, 1, 48, []), (145, 2, 1, 0, 0, 0, []), (146, 10, 4, 0, 0, 0, []), (147, 1, 1, 0, 0, 0, []), (148, 7, 0, 0, 0, 0, []), (149, 8, 0, 5, 7, 0, [42]), (152, 0, 0, 0, 0, 1, []), (153, 2, 0, 0, 0, 0, []), (154, 10, 0, 5, 7, 0, [42]), (157, 6, 0, 106, 0, 0, []), (160, 1, 1, 0, 0, 0, []), (161, 8, 0, 5, 7, 0, [42]), (164, 1, 0, 4, 0, 0, []), (166, 4, 0, 176, 0, 0, []), (169, 1, 1, 0, 0, 0, []), (170, 11, 0, 5, 116, 0, [70, 1]), (173, 5, 0, 184, 0, 0, []), (176, 1, 1, 0, 0, 0, []), (177, 1, 1, 0, 0, 0, []), (178, 8, 0, 5, 7, 0, [42]), (181, 11, 0, 5, 115, 0, [66, 2]), (184, 1, 1, 0, 0, 0, []), (185, 11, 0, 5, 114, 0, [60, 1]), (188, 6, 0, 37, 0, 0, []), (191, 9, 5, 0, 0, 0, [])]
theorem k_M_reads : okP s_M_reads p_M_reads := okP_of _ (by decide +kernel) (WS_places [690, 743, 691, 689, 744, 746, 21, 67, 747, 690, 688, 691, 743, 690, 752, 754, 23, 67, 755, 743, 764, 766, 25, 67, 767, 744, 746, 21, 67, 747, 690, 690, 768, 770, 26, 67, 771, 689, 689, 748, 750, 22, 67, 751, 690, 690, 690, 768, 770, 26, 67, 771, 690, 764, 766, 25, 67, 767, 744, 746, 21, 67, 747] (by decide +kernel) (by decide +kernel)) (nest_places [] (by decide +kernel))
def p_M_fault : List PI := [(0, 1, 1, 0, 0, 0, []), (1, 11, 0, 5, 119, 0, [74, 1]), (4, 1, 1, 0, 0, 0, []), (5, 8, 0, 5, 8, 0, [49]), (8, 9, 0, 0, 0, 0, [])]
theorem k_M_fault : okP s_M_fault p_M_fault := okP_of _ (by decide +kernel) (WS_places [739, 741, 20, 67, 742, 691] (by decide +kernel) (by decide +kernel)) (nest_places [] (by decide +kernel))
def p_M_grantOf : List PI := [(0, 1, 1, 0, 0, 0, []), (1, 8, 1, 5, 0, 0, [7]), (4, 0, 0, 0, 1, 80, []), (6, 0, 0, 0, 1, 6, []), (8, 1, 0, 1, 0, 0, []), (9, 2, 2, 0, 0, 0, []), (10, 2, 0, 0, 0, 0, []), (11, 1, 0, 2, 0, 0, []), (12, 2, 0, 0, 0, 0, []), (13, 8, 4, 0, 0, 0, []), (14, 9, 0, 0, 0, 0, [])]
theorem k_M_grantOf : okP s_M_grantOf p_M_grantOf := okP_of _ (by decide +kernel) (WS_places [683] (by decide +kernel) (by decide +kernel)) (nest_places [] (by decide +kernel))
def p_M_demandOf : List PI := [(0, 1, 1, 0, 0, 0, []), (1, 8, 1, 5, 0, 0, [7]), (4, 0, 0, 0, 2, 320, []), (7, 0, 0, 0, 0, 5, []), (8, 1, 0, 1, 0, 0, []), (9, 2, 2, 0, 0, 0, []), (10, 2, 0, 0, 0, 0, []), (11, 1, 0, 2, 0, 0, []), (12, 2, 0, 0, 0, 0, []), (13, 8, 4, 0, 0, 0, []), (14, 9, 0, 0, 0, 0, [])]
theorem k_M_demandOf : okP s_M_demandOf p_M_demandOf := okP_of _ (by decide +kernel) (WS_places [683] (by decide +kernel) (by decide +kernel)) (nest_places [] (by decide +kernel))
def p_M_use : List PI := [(0, 0, 0, 0, 0, 0, []), (1, 1, 3, 3, 0, 0, []), (2, 0, 0, 0, 0, 0, []), (3, 1, 3, 4, 0, 0, []), (5, 1, 0, 4, 0, 0, []), (7, 1, 1, 0, 0, 0, []), (8, 8, 1, 5, 0, 0, [7]), (11, 0, 0, 0, 2, 448, []), (14, 8, 4, 0, 0, 0, []), (15, 4, 3, 57, 0, 0, []), (18, 1, 0, 3, 0, 0, []), (19, 1, 0, 2, 0, 0, []), (20, 0, 0, 52, 3, -1000003, []), (22, 4, 0, 36, 0, 0, []), (25, 1, 1, 0, 0, 0, []), (26, 1, 0, 4, 0, 0, []), (28, 0, 0, 0, 0, 5, []), (29, 11, 0, 5, 121, 0, [77, 3]), (32, 1, 0, 2, 0, 0, []), (33, 4, 1, 48, 0, 0, []), (36, 1, 1, 0, 0, 0, []), (37, 1, 0, 4, 0, 0, []), (39, 0, 0, 0, 0, 1, []), (40, 1, 0, 1, 0, 0, []), (41, 2, 0, 0, 0, 0, []), (42, 11, 0, 5, 121, 0, [77, 3]), (45, 6, 0, 49, 0, 0, []), (48, 0, 0, 0, 0, 0, []), (49, 2, 0, 0, 0, 0, []), (50, 1, 3, 3, 0, 0, []), (51, 1, 6, 4, 0, 1, []), (54, 6, 0, 5, 0, 0, []), (57, 1, 0, 3, 0, 0, []), (58, 9, 0, 0, 0, 0, [])]
theorem k_M_use : okP s_M_use p_M_use := okP_of _ (by decide +kernel) (WS_places [683, 743, 783, 785, 28, 67, 786, 783, 785, 28, 67, 786] (by decide +kernel) (by decide +kernel)) (nest_places [] (by decide +kernel))
def p_M_price : List PI := [(0, 1, 1, 0, 0, 0, []), (1, 8, 1, 5, 0, 0, [7]), (4, 0, 0, 0, 0, 0, []), (5, 1, 0, 1, 0, 0, []), (6, 2, 0, 0, 0, 0, []), (7, 8, 4, 0, 0, 0, []), (8, 5, 1, 16, 0, 0, []), (11, 0, 0, 0, 1, 10, []), (13, 6, 0, 37, 0, 0, []), (16, 0, 0, 0, 0, 1, []), (17, 0, 0, 0, 1, 9, []), (19, 1, 1, 0, 0, 0, []), (20, 1, 0, 1, 0, 0, []), (21, 0, 0, 52, 3, -1000003, []), (23, 11, 0, 5, 123, 0, [81, 3]), (26, 2, 2, 0, 0, 0, []), (27, 1, 1, 0, 0, 0, []), (28, 8, 1, 5, 0, 0, [7]), (31, 0, 0, 0, 0, 0, []), (32, 1, 0, 1, 0, 0, []), (33, 2, 0, 0, 0, 0, []), (34, 8, 4, 0, 0, 0, []), (35, 2, 3, 0, 0, 0, []), (36, 2, 0, 0, 0, 0, []), (37, 9, 0, 0, 0, 0, [])]
theorem k_M_price : okP s_M_price p_M_price := okP_of _ (by decide +kernel) (WS_places [683, 743, 779, 781, 27, 67, 782, 683] (by decide +kernel) (by decide +kernel)) (nest_places [] (by decide +kernel))
def p_M_share : List PI := [(0, 0, 0, 0, 0, 0, []), (1, 1, 3, 2, 0, 0, []), (2, 0, 0, 0, 0, 0, []), (3, 1, 3, 3, 0, 0, []), (4, 1, 0, 3, 0, 0, []), (5, 0, 0, 0, 0, 4, []), (6, 4, 3, 71, 0, 0, []), (9, 1, 1, 0, 0, 0, []), (10, 8, 1, 5, 0, 0, [7]), (13, 0, 0, 0, 0, 0, []), (14, 1, 0, 3, 0, 0, []), (15, 2, 0, 0, 0, 0, []), (16, 8, 4, 0, 0, 0, []), (17, 5, 1, 24, 0, 0, []), (20, 0, 0, 0, 0, 0, []), (21, 6, 0, 50, 0, 0, []), (24, 0, 0, 0, 2, 10000, []), (27, 1, 1, 0, 0, 0, []), (28, 1, 0, 3, 0, 0, []), (29, 1, 0, 1, 0, 0, []), (30, 11, 0, 5, 123, 0, [81, 3]), (33, 2, 2, 0, 0, 0, []), (34, 1, 1, 0, 0, 0, []), (35, 8, 1, 5, 0, 0, [7]), (38, 0, 0, 0, 0, 0, []), (39, 1, 0, 3, 0, 0, []), (40, 2, 0, 0, 0, 0, []), (41, 8, 4, 0, 0, 0, []), (42, 1, 1, 0, 0, 0, []), (43, 1, 0, 1, 0, 0, []), (44, 0, 0, 0, 0, 0, []), (45, 11, 0, 5, 105, 0, [84, 3]), (48, 2, 2, 0, 0, 0, []), (49, 2, 3, 0, 0, 0, []), (50, 1, 3, 4, 0, 0, []), (52, 1, 0, 4, 0, 0, []), (54, 1, 0, 2, 0, 0, []), (55, 4, 5, 63, 0, 0, []), (58, 1, 0, 4, 0, 0, []), (60, 6, 0, 64, 0, 0, []), (63, 1, 0, 2, 0, 0, []), (64, 1, 3, 2, 0, 0, []), (65, 1, 6, 3, 0, 1, []), (68, 6, 0, 4, 0, 0, []), (71, 1, 0, 2, 0, 0, []), (72, 9, 0, 0, 0, 0, [])]
theorem k_M_share : okP s_M_share p_M_share := okP_of _ (by decide +kernel) (WS_places [683, 779, 781, 27, 67, 782, 683, 807, 809, 31, 67, 810] (by decide +kernel) (by decide +kernel)) (nest_places [] (by decide +kernel))
def p_M_free : List PI := [(0, 1, 1, 0, 0, 0, []), (1, 1, 0, 1, 0, 0, []), (2, 0, 0, 0, 0, 4, []), (3, 1, 0, 2, 0, 0, []), (4, 2, 0, 0, 0, 0, []), (5, 11, 0, 5, 105, 0, [84, 3]), (8, 1, 1, 0, 0, 0, []), (9, 1, 0, 2, 0, 0, []), (10, 1, 0, 1, 0, 0, []), (11, 11, 0, 5, 123, 0, [81, 3]), (14, 2, 1, 0, 0, 0, []), (15, 9, 0, 0, 0, 0, [])]
theorem k_M_free : okP s_M_free p_M_free := okP_of _ (by decide +kernel) (WS_places [807, 809, 31, 67, 810, 779, 781, 27, 67, 782] (by decide +kernel) (by decide +kernel)) (nest_places [] (by decide +kernel))
def p_M_setResource : List PI := [(0, 1, 0, 1, 0, 0, []), (1, 11, 1, 0, 103, 0, [87, 1]), (4, 5, 0, 18, 0, 0, []), (7, 1, 0, 3, 0, 0, []), (8, 0, 0, 0, 0, 0, []), (9, 0, 0, 0, 2, 999, []), (12, 11, 1, 0, 101, 0, [28, 3]), (15, 5, 1, 21, 0, 0, []), (18, 0, 0, 37, 3, -1000000, []), (20, 9, 0, 0, 0, 0, []), (21, 1, 0, 2, 0, 0, []), (22, 5, 1, 39, 0, 0, []), (25, 1, 0, 3, 0, 0, []), (26, 1, 1, 0, 0, 0, []), (27, 1, 0, 1, 0, 0, []), (28, 0, 0, 52, 3, -1000003, []), (30, 11, 0, 5, 123, 0, [81, 3]), (33, 4, 3, 39, 0, 0, []), (36, 0, 0, 36, 3, -1000001, []), (38, 9, 0, 0, 0, 0, []), (39, 1, 1, 0, 0, 0, []), (40, 11, 0, 5, 107, 0, [91, 1]), (43, 1, 0, 2, 0, 0, []), (44, 5, 0, 51, 0, 0, []), (47, 0, 0, 0, 0, 4, []), (48, 6, 0, 52, 0, 0, []), (51, 0, 0, 0, 0, 0, []), (52, 1, 0, 1, 0, 0, []), (53, 2, 0, 0, 0, 0, []), (54, 1, 3, 4, 0, 0, []), (56, 1, 1, 0, 0, 0, []), (57, 8, 1, 5, 0, 0, [7]), (60, 1, 0, 4, 0, 0, []), (62, 8, 4, 0, 0, 0, []), (63, 1, 3, 5, 0, 0, []), (65, 1, 1, 0, 0, 0, []), (66, 8, 1, 5, 0, 0, [7]), (69, 1, 0, 4, 0, 0, []), (71, 1, 0, 3, 0, 0, []), (72, 10, 4, 0, 0, 0, []), (73, 1, 0, 5, 0, 0, []), (75, 9, 0, 0, 0, 0, [])]
theorem k_M_setResource : okP s_M_setResource p_M_setResource := okP_of _ (by decide +kernel) (WS_places [776, 777, 67, 778, 726, 727, 67, 728, 729, 743, 779, 781, 27, 67, 782, 721, 787, 789, 29, 67, 790, 683, 683] (by decide +kernel) (by decide +kernel)) (nest_places [] (by decide +kernel))
def p_M_setRest : List PI := [(0, 1, 0, 1, 0, 0, []), (1, 0, 0, 0, 0, 1, []), (2, 0, 0, 0, 1, 99, []), (4, 11, 1, 0, 101, 0, [28, 3]), (7, 5, 1, 13, 0, 0, []), (10, 0, 0, 37, 3, -1000000, []), (12, 9, 0, 0, 0, 0, []), (13, 1, 1, 0, 0, 0, []), (14, 11, 0, 5, 107, 0, [91, 1]), (17, 1, 1, 0, 0, 0, []), (18, 8, 1, 5, 0, 0, [7]), (21, 0, 0, 0, 2, 452, []), (24, 8, 4, 0, 0, 0, []), (25, 1, 3, 2, 0, 0, []), (26, 1, 1, 0, 0, 0, []), (27, 8, 1, 5, 0, 0, [7]), (30, 0, 0, 0, 2, 452, []), (33, 1, 0, 1, 0, 0, []), (34, 10, 4, 0, 0, 0, []), (35, 1, 0, 2, 0, 0, []), (36, 9, 0, 0, 0, 0, [])]
theorem k_M_setRest : okP s_M_setRest p_M_setRest := okP_of _ (by decide +kernel) (WS_places [726, 727, 67, 728, 729, 787, 789, 29, 67, 790, 683, 683] (by decide +kernel) (by decide +kernel)) (nest_places [] (by decide +kernel))
def p_M_addTenant : List PI := [(0, 1, 0, 1, 0, 0, []), (1, 0, 0, 0, 0, 1, []), (2, 0, 0, 0, 1, 9, []), (4, 11, 1, 0, 101, 0, [28, 3]), (7, 5, 1, 13, 0, 0, []), (10, 0, 0, 37, 3, -1000000, []), (12, 9, 0, 0, 0, 0, []), (13, 1, 1, 0, 0, 0, []), (14, 8, 1, 5, 0, 0, [7]), (17, 0, 0, 0, 2, 447, []), (20, 8, 4, 0, 0, 0, []), (21, 0, 0, 0, 1, 6, []), (23, 4, 1, 29, 0, 0, []), (26, 0, 0, 41, 3, -1000002, []), (28, 9, 0, 0, 0, 0, []), (29, 1, 1, 0, 0, 0, []), (30, 11, 0, 5, 107, 0, [91, 1]), (33, 1, 1, 0, 0, 0, []), (34, 8, 1, 5, 0, 0, [7]), (37, 0, 0, 0, 2, 447, []), (40, 8, 4, 0, 0, 0, []), (41, 1, 3, 2, 0, 0, []), (42, 0, 0, 0, 0, 0, []), (43, 1, 3, 3, 0, 0, []), (44, 1, 0, 3, 0, 0, []), (45, 0, 0, 0, 1, 12, []), (47, 4, 3, 98, 0, 0, []), (50, 1, 1, 0, 0, 0, []), (51, 8, 1, 5, 0, 0, [7]), (54, 0, 0, 0, 1, 8, []), (56, 0, 0, 0, 1, 12, []), (58, 1, 0, 2, 0, 0, []), (59, 2, 2, 0, 0, 0, []), (60, 2, 0, 0, 0, 0, []), (61, 1, 0, 3, 0, 0, []), (62, 2, 0, 0, 0, 0, []), (63, 1, 0, 3, 0, 0, []), (64, 5, 1, 71, 0, 0, []), (67, 1, 0, 1, 0, 0, []), (68, 6, 0, 91, 0, 0, []), (71, 1, 0, 3, 0, 0, []), (72, 0, 0, 0, 0, 2, []), (73, 4, 1, 81, 0, 0, []), (76, 0, 0, 52, 3, -1000003, []), (78, 6, 0, 91, 0, 0, []), (81, 1, 0, 3, 0, 0, []), (82, 0, 0, 0, 0, 3, []), (83, 4, 1, 90, 0, 0, []), (86, 0, 0, 0, 0, 1, []), (87, 6, 0, 91, 0, 0, []), (90, 0, 0, 0, 0, 0, []), (91, 10, 4, 0, 0, 0, []), (92, 1, 6, 3, 0, 1, []), (95, 6, 0, 44, 0, 0, []), (98, 1, 1, 0, 0, 0, []), (99, 8, 1, 5, 0, 0, [7]), (102, 0, 0, 0, 2, 447, []), (105, 7, 1, 0, 0, 0, []), (106, 8, 4, 0, 0, 0, []), (107, 0, 0, 0, 0, 1, []), (108, 2, 0, 0, 0, 0, []), (109, 10, 4, 0, 0, 0, []), (110, 1, 0, 2, 0, 0, []), (111, 9, 0, 0, 0, 0, [])]
theorem k_M_addTenant : okP s_M_addTenant p_M_addTenant := okP_of _ (by decide +kernel) (WS_places [726, 727, 67, 728, 729, 683, 730, 787, 789, 29, 67, 790, 683, 683, 743, 683] (by decide +kernel) (by decide +kernel)) (nest_places [] (by decide +kernel))
def p_M_setWeight : List PI := [(0, 1, 1, 0, 0, 0, []), (1, 1, 0, 1, 0, 0, []), (2, 11, 0, 5, 104, 0, [94, 2]), (5, 5, 0, 18, 0, 0, []), (8, 1, 0, 2, 0, 0, []), (9, 0, 0, 0, 0, 1, []), (10, 0, 0, 0, 1, 9, []), (12, 11, 1, 0, 101, 0, [28, 3]), (15, 5, 1, 21, 0, 0, []), (18, 0, 0, 37, 3, -1000000, []), (20, 9, 0, 0, 0, 0, []), (21, 1, 1, 0, 0, 0, []), (22, 11, 0, 5, 107, 0, [91, 1]), (25, 1, 1, 0, 0, 0, []), (26, 1, 0, 1, 0, 0, []), (27, 0, 0, 0, 0, 0, []), (28, 11, 0, 5, 105, 0, [84, 3]), (31, 1, 3, 3, 0, 0, []), (32, 1, 1, 0, 0, 0, []), (33, 8, 1, 5, 0, 0, [7]), (36, 0, 0, 0, 1, 8, []), (38, 0, 0, 0, 1, 12, []), (40, 1, 0, 1, 0, 0, []), (41, 2, 2, 0, 0, 0, []), (42, 2, 0, 0, 0, 0, []), (43, 0, 0, 0, 0, 0, []), (44, 2, 0, 0, 0, 0, []), (45, 1, 0, 2, 0, 0, []), (46, 10, 4, 0, 0, 0, []), (47, 1, 0, 3, 0, 0, []), (48, 9, 0, 0, 0, 0, [])]
theorem k_M_setWeight : okP s_M_setWeight p_M_setWeight := okP_of _ (by decide +kernel) (WS_places [803, 805, 30, 67, 806, 726, 727, 67, 728, 729, 787, 789, 29, 67, 790, 807, 809, 31, 67, 810, 683] (by decide +kernel) (by decide +kernel)) (nest_places [] (by decide +kernel))
def p_M_setLimit : List PI := [(0, 1, 1, 0, 0, 0, []), (1, 1, 0, 1, 0, 0, []), (2, 11, 0, 5, 104, 0, [94, 2]), (5, 5, 0, 26, 0, 0, []), (8, 1, 0, 2, 0, 0, []), (9, 11, 1, 0, 103, 0, [87, 1]), (12, 5, 0, 26, 0, 0, []), (15, 1, 0, 3, 0, 0, []), (16, 0, 0, 0, 0, 0, []), (17, 0, 0, 0, 2, 9999, []), (20, 11, 1, 0, 101, 0, [28, 3]), (23, 5, 1, 29, 0, 0, []), (26, 0, 0, 37, 3, -1000000, []), (28, 9, 0, 0, 0, 0, []), (29, 1, 0, 3, 0, 0, []), (30, 1, 1, 0, 0, 0, []), (31, 1, 0, 2, 0, 0, []), (32, 1, 0, 1, 0, 0, []), (33, 11, 0, 5, 123, 0, [81, 3]), (36, 4, 2, 52, 0, 0, []), (39, 1, 0, 3, 0, 0, []), (40, 1, 1, 0, 0, 0, []), (41, 1, 0, 1, 0, 0, []), (42, 0, 0, 0, 1, 8, []), (44, 1, 0, 2, 0, 0, []), (45, 2, 0, 0, 0, 0, []), (46, 11, 0, 5, 105, 0, [84, 3]), (49, 4, 3, 55, 0, 0, []), (52, 0, 0, 36, 3, -1000001, []), (54, 9, 0, 0, 0, 0, []), (55, 1, 1, 0, 0, 0, []), (56, 11, 0, 5, 107, 0, [91, 1]), (59, 1, 1, 0, 0, 0, []), (60, 1, 0, 1, 0, 0, []), (61, 0, 0, 0, 0, 4, []), (62, 1, 0, 2, 0, 0, []), (63, 2, 0, 0, 0, 0, []), (64, 11, 0, 5, 105, 0, [84, 3]), (67, 1, 3, 4, 0, 0, []), (69, 1, 1, 0, 0, 0, []), (70, 8, 1, 5, 0, 0, [7]), (73, 0, 0, 0, 1, 8, []), (75, 0, 0, 0, 1, 12, []), (77, 1, 0, 1, 0, 0, []), (78, 2, 2, 0, 0, 0, []), (79, 2, 0, 0, 0, 0, []), (80, 0, 0, 0, 0, 4, []), (81, 2, 0, 0, 0, 0, []), (82, 1, 0, 2, 0, 0, []), (83, 2, 0, 0, 0, 0, []), (84, 1, 0, 3, 0, 0, []), (85, 10, 4, 0, 0, 0, []), (86, 1, 0, 4, 0, 0, []), (88, 9, 0, 0, 0, 0, [])]
theorem k_M_setLimit : okP s_M_setLimit p_M_setLimit := okP_of _ (by decide +kernel) (WS_places [803, 805, 30, 67, 806, 776, 777, 67, 778, 726, 727, 67, 728, 729, 779, 781, 27, 67, 782, 807, 809, 31, 67, 810, 721, 787, 789, 29, 67, 790, 807, 809, 31, 67, 810, 683] (by decide +kernel) (by decide +kernel)) (nest_places [] (by decide +kernel))
def p_M_demand : List PI := [(0, 1, 1, 0, 0, 0, []), (1, 1, 0, 1, 0, 0, []), (2, 11, 0, 5, 104, 0, [94, 2]), (5, 5, 1, 11, 0, 0, []), (8, 0, 0, 37, 3, -1000000, []), (10, 9, 0, 0, 0, 0, []), (11, 1, 1, 0, 0, 0, []), (12, 11, 0, 5, 119, 0, [74, 1]), (15, 1, 1, 0, 0, 0, []), (16, 1, 0, 1, 0, 0, []), (17, 0, 0, 0, 0, 3, []), (18, 11, 0, 5, 105, 0, [84, 3]), (21, 5, 0, 63, 0, 0, []), (24, 1, 1, 0, 0, 0, []), (25, 8, 0, 5, 8, 0, [49]), (28, 0, 0, 52, 3, -1000003, []), (30, 4, 1, 63, 0, 0, []), (33, 1, 1, 0, 0, 0, []), (34, 8, 1, 5, 6, 0, [22]), (37, 0, 0, 0, 0, 0, []), (38, 8, 4, 0, 0, 0, []), (39, 1, 1, 0, 0, 0, []), (40, 8, 1, 5, 6, 0, [22]), (43, 0, 0, 0, 0, 1, []), (44, 8, 4, 0, 0, 0, []), (45, 2, 0, 0, 0, 0, []), (46, 1, 1, 0, 0, 0, []), (47, 8, 1, 5, 6, 0, [22]), (50, 0, 0, 0, 0, 2, []), (51, 8, 4, 0, 0, 0, []), (52, 2, 0, 0, 0, 0, []), (53, 1, 1, 0, 0, 0, []), (54, 8, 1, 5, 6, 0, [22]), (57, 0, 0, 0, 0, 3, []), (58, 8, 4, 0, 0, 0, []), (59, 2, 0, 0, 0, 0, []), (60, 5, 1, 66, 0, 0, []), (63, 0, 0, 36, 3, -1000001, []), (65, 9, 0, 0, 0, 0, []), (66, 1, 1, 0, 0, 0, []), (67, 8, 1, 5, 0, 0, [7]), (70, 0, 0, 0, 2, 449, []), (73, 8, 4, 0, 0, 0, []), (74, 0, 0, 0, 1, 24, []), (76, 4, 1, 82, 0, 0, []), (79, 0, 0, 41, 3, -1000002, []), (81, 9, 0, 0, 0, 0, []), (82, 1, 1, 0, 0, 0, []), (83, 11, 0, 5, 107, 0, [91, 1]), (86, 0, 0, 0, 2, 320, []), (89, 0, 0, 0, 0, 5, []), (90, 1, 1, 0, 0, 0, []), (91, 8, 1, 5, 0, 0, [7]), (94, 0, 0, 0, 2, 449, []), (97, 8, 4, 0, 0, 0, []), (98, 2, 2, 0, 0, 0, []), (99, 2, 0, 0, 0, 0, []), (100, 1, 3, 2, 0, 0, []), (101, 0, 0, 0, 0, 0, []), (102, 1, 3, 3, 0, 0, []), (103, 1, 0, 3, 0, 0, []), (104, 0, 0, 0, 0, 4, []), (105, 4, 3, 128, 0, 0, []), (108, 1, 1, 0, 0, 0, []), (109, 8, 1, 5, 0, 0, [7]), (112, 1, 0, 2, 0, 0, []), (113, 1, 0, 3, 0, 0, []), (114, 2, 0, 0, 0, 0, []), (115, 1, 1, 0, 0, 0, []), (116, 8, 1, 5, 6, 0, [22]), (119, 1, 0, 3, 0, 0, []), (120, 8, 4, 0, 0, 0, []), (121, 10, 4, 0, 0, 0, []), (122, 1, 6, 3, 0, 1, []), (125, 6, 0, 103, 0, 0, []), (128, 1, 1, 0, 0, 0, []), (129, 8, 1, 5, 0, 0, [7]), (132, 1, 0, 2, 0, 0, []), (133, 0, 0, 0, 0, 4, []), (134, 2, 0, 0, 0, 0, []), (135, 1, 0, 1, 0, 0, []), (136, 10, 4, 0, 0, 0, []), (137, 1, 1, 0, 0, 0, []), (138, 8, 1, 5, 0, 0, [7]), (141, 0, 0, 0, 2, 449, []), (144, 7, 1, 0, 0, 0, []), (145, 8, 4, 0, 0, 0, []), (146, 0, 0, 0, 0, 1, []), (147, 2, 0, 0, 0, 0, []), (148, 10, 4, 0, 0, 0, []), (149, 1, 1, 0, 0, 0, []), (150, 8, 1, 5, 0, 0, [7]), (153, 0, 0, 0, 2, 449, []), (156, 8, 4, 0, 0, 0, []), (157, 9, 0, 0, 0, 0, [])]
theorem k_M_demand : okP s_M_demand p_M_demand := okP_of _ (by decide +kernel) (WS_places [803, 805, 30, 67, 806, 729, 739, 741, 20, 67, 742, 807, 809, 31, 67, 810, 691, 743, 689, 689, 689, 689, 721, 683, 730, 787, 789, 29, 67, 790, 683, 683, 689, 683, 683, 683] (by decide +kernel) (by decide +kernel)) (nest_places [] (by decide +kernel))
def p_M_firstOf : List PI := [(0, 0, 0, 0, 0, 0, []), (1, 1, 3, 2, 0, 0, []), (2, 1, 0, 2, 0, 0, []), (3, 1, 1, 0, 0, 0, []), (4, 8, 1, 5, 0, 0, [7]), (7, 0, 0, 0, 2, 449, []), (10, 8, 4, 0, 0, 0, []), (11, 4, 3, 32, 0, 0, []), (14, 1, 1, 0, 0, 0, []), (15, 1, 0, 2, 0, 0, []), (16, 0, 0, 0, 0, 4, []), (17, 11, 0, 5, 122, 0, [97, 3]), (20, 1, 0, 1, 0, 0, []), (21, 4, 1, 26, 0, 0, []), (24, 1, 0, 2, 0, 0, []), (25, 9, 0, 0, 0, 0, []), (26, 1, 6, 2, 0, 1, []), (29, 6, 0, 2, 0, 0, []), (32, 0, 0, 52, 3, -1000003, []), (34, 9, 0, 0, 0, 0, [])]
theorem k_M_firstOf : okP s_M_firstOf p_M_firstOf := okP_of _ (by decide +kernel) (WS_places [683, 827, 829, 33, 67, 830, 743] (by decide +kernel) (by decide +kernel)) (nest_places [] (by decide +kernel))
def p_M_leavesDemand : List PI := [(0, 1, 1, 0, 0, 0, []), (1, 8, 1, 5, 0, 0, [7]), (4, 0, 0, 0, 2, 449, []), (7, 7, 1, 0, 0, 0, []), (8, 8, 4, 0, 0, 0, []), (9, 0, 0, 0, 0, 1, []), (10, 2, 1, 0, 0, 0, []), (11, 10, 4, 0, 0, 0, []), (12, 0, 0, 0, 2, 320, []), (15, 0, 0, 0, 0, 5, []), (16, 1, 0, 1, 0, 0, []), (17, 2, 2, 0, 0, 0, []), (18, 2, 0, 0, 0, 0, []), (19, 1, 3, 2, 0, 0, []), (20, 1, 0, 2, 0, 0, []), (21, 0, 0, 0, 2, 320, []), (24, 0, 0, 0, 0, 5, []), (25, 1, 1, 0, 0, 0, []), (26, 8, 1, 5, 0, 0, [7]), (29, 0, 0, 0, 2, 449, []), (32, 8, 4, 0, 0, 0, []), (33, 2, 2, 0, 0, 0, []), (34, 2, 0, 0, 0, 0, []), (35, 4, 3, 58, 0, 0, []), (38, 1, 1, 0, 0, 0, []), (39, 8, 1, 5, 0, 0, [7]), (42, 1, 0, 2, 0, 0, []), (43, 1, 1, 0, 0, 0, []), (44, 8, 1, 5, 0, 0, [7]), (47, 1, 0, 2, 0, 0, []), (48, 0, 0, 0, 0, 5, []), (49, 2, 0, 0, 0, 0, []), (50, 8, 4, 0, 0, 0, []), (51, 10, 4, 0, 0, 0, []), (52, 1, 6, 2, 0, 1, []), (55, 6, 0, 20, 0, 0, []), (58, 9, 5, 0, 0, 0, [])]
theorem k_M_leavesDemand : okP s_M_leavesDemand p_M_leavesDemand := okP_of _ (by decide +kernel) (WS_places [683, 683, 683, 683] (by decide +kernel) (by decide +kernel)) (nest_places [] (by decide +kernel))
def p_M_leavesGrant : List PI := [(0, 1, 1, 0, 0, 0, []), (1, 8, 1, 5, 0, 0, [7]), (4, 0, 0, 0, 2, 448, []), (7, 7, 1, 0, 0, 0, []), (8, 8, 4, 0, 0, 0, []), (9, 0, 0, 0, 0, 1, []), (10, 2, 1, 0, 0, 0, []), (11, 10, 4, 0, 0, 0, []), (12, 0, 0, 0, 1, 80, []), (14, 0, 0, 0, 1, 6, []), (16, 1, 0, 1, 0, 0, []), (17, 2, 2, 0, 0, 0, []), (18, 2, 0, 0, 0, 0, []), (19, 1, 3, 2, 0, 0, []), (20, 1, 0, 2, 0, 0, []), (21, 0, 0, 0, 1, 80, []), (23, 0, 0, 0, 1, 6, []), (25, 1, 1, 0, 0, 0, []), (26, 8, 1, 5, 0, 0, [7]), (29, 0, 0, 0, 2, 448, []), (32, 8, 4, 0, 0, 0, []), (33, 2, 2, 0, 0, 0, []), (34, 2, 0, 0, 0, 0, []), (35, 4, 3, 59, 0, 0, []), (38, 1, 1, 0, 0, 0, []), (39, 8, 1, 5, 0, 0, [7]), (42, 1, 0, 2, 0, 0, []), (43, 1, 1, 0, 0, 0, []), (44, 8, 1, 5, 0, 0, [7]), (47, 1, 0, 2, 0, 0, []), (48, 0, 0, 0, 1, 6, []), (50, 2, 0, 0, 0, 0, []), (51, 8, 4, 0, 0, 0, []), (52, 10, 4, 0, 0, 0, []), (53, 1, 6, 2, 0, 1, []), (56, 6, 0, 20, 0, 0, []), (59, 9, 5, 0, 0, 0, [])]
theorem k_M_leavesGrant : okP s_M_leavesGrant p_M_leavesGrant := okP_of _ (by decide +kernel) (WS_places [683, 683, 683, 683] (by decide +kernel) (by decide +kernel)) (nest_places [] (by decide +kernel))
def p_M_withdraw : List PI := [(0, 1, 1, 0, 0, 0, []), (1, 1, 0, 1, 0, 0, []), (2, 11, 0, 5, 104, 0, [94, 2]), (5, 5, 1, 11, 0, 0, []), (8, 0, 0, 37, 3, -1000000, []), (10, 9, 0, 0, 0, 0, []), (11, 1, 1, 0, 0, 0, []), (12, 1, 0, 1, 0, 0, []), (13, 11, 0, 5, 133, 0, [100, 2]), (16, 1, 3, 2, 0, 0, []), (17, 1, 0, 2, 0, 0, []), (18, 0, 0, 52, 3, -1000003, []), (20, 4, 1, 26, 0, 0, []), (23, 0, 0, 36, 3, -1000001, []), (25, 9, 0, 0, 0, 0, []), (26, 1, 1, 0, 0, 0, []), (27, 11, 0, 5, 107, 0, [91, 1]), (30, 1, 1, 0, 0, 0, []), (31, 1, 0, 2, 0, 0, []), (32, 11, 0, 5, 134, 0, [104, 2]), (35, 1, 1, 0, 0, 0, []), (36, 8, 1, 5, 0, 0, [7]), (39, 0, 0, 0, 2, 449, []), (42, 8, 4, 0, 0, 0, []), (43, 9, 0, 0, 0, 0, [])]
theorem k_M_withdraw : okP s_M_withdraw p_M_withdraw := okP_of _ (by decide +kernel) (WS_places [803, 805, 30, 67, 806, 729, 823, 825, 32, 67, 826, 743, 721, 787, 789, 29, 67, 790, 831, 833, 34, 67, 834, 683] (by decide +kernel) (by decide +kernel)) (nest_places [] (by decide +kernel))
def p_M_fits : List PI := [(0, 1, 1, 0, 0, 0, []), (1, 1, 0, 1, 0, 0, []), (2, 0, 0, 0, 0, 4, []), (3, 11, 0, 5, 122, 0, [97, 3]), (6, 1, 3, 2, 0, 0, []), (7, 0, 0, 0, 0, 1, []), (8, 1, 3, 3, 0, 0, []), (9, 0, 0, 0, 0, 0, []), (10, 1, 3, 4, 0, 0, []), (12, 1, 0, 4, 0, 0, []), (14, 0, 0, 0, 0, 4, []), (15, 4, 3, 79, 0, 0, []), (18, 1, 0, 3, 0, 0, []), (19, 5, 0, 71, 0, 0, []), (22, 1, 1, 0, 0, 0, []), (23, 1, 0, 1, 0, 0, []), (24, 1, 0, 4, 0, 0, []), (26, 11, 0, 5, 122, 0, [97, 3]), (29, 1, 1, 0, 0, 0, []), (30, 1, 0, 2, 0, 0, []), (31, 1, 0, 4, 0, 0, []), (33, 11, 0, 5, 126, 0, [107, 3]), (36, 4, 4, 71, 0, 0, []), (39, 1, 1, 0, 0, 0, []), (40, 1, 0, 1, 0, 0, []), (41, 1, 0, 4, 0, 0, []), (43, 11, 0, 5, 122, 0, [97, 3]), (46, 1, 1, 0, 0, 0, []), (47, 1, 0, 4, 0, 0, []), (49, 0, 0, 52, 3, -1000003, []), (51, 11, 0, 5, 123, 0, [81, 3]), (54, 2, 0, 0, 0, 0, []), (55, 1, 1, 0, 0, 0, []), (56, 8, 1, 5, 0, 0, [7]), (59, 0, 0, 0, 0, 0, []), (60, 1, 0, 4, 0, 0, []), (62, 2, 0, 0, 0, 0, []), (63, 8, 4, 0, 0, 0, []), (64, 4, 4, 71, 0, 0, []), (67, 0, 0, 0, 0, 1, []), (68, 6, 0, 72, 0, 0, []), (71, 0, 0, 0, 0, 0, []), (72, 1, 3, 3, 0, 0, []), (73, 1, 6, 4, 0, 1, []), (76, 6, 0, 12, 0, 0, []), (79, 1, 0, 3, 0, 0, []), (80, 9, 1, 0, 0, 0, [])]
theorem k_M_fits : okP s_M_fits p_M_fits := okP_of _ (by decide +kernel) (WS_places [827, 829, 33, 67, 830, 827, 829, 33, 67, 830, 847, 849, 37, 67, 850, 827, 829, 33, 67, 830, 743, 779, 781, 27, 67, 782, 683] (by decide +kernel) (by decide +kernel)) (nest_places [] (by decide +kernel))
def p_M_nextDemand : List PI := [(0, 0, 0, 52, 3, -1000003, []), (2, 1, 3, 1, 0, 0, []), (3, 0, 0, 0, 0, 0, []), (4, 1, 3, 2, 0, 0, []), (5, 0, 0, 0, 0, 0, []), (6, 1, 3, 3, 0, 0, []), (7, 1, 0, 3, 0, 0, []), (8, 1, 1, 0, 0, 0, []), (9, 8, 1, 5, 0, 0, [7]), (12, 0, 0, 0, 2, 447, []), (15, 8, 4, 0, 0, 0, []), (16, 4, 3, 72, 0, 0, []), (19, 1, 1, 0, 0, 0, []), (20, 1, 0, 3, 0, 0, []), (21, 11, 0, 5, 133, 0, [100, 2]), (24, 1, 3, 4, 0, 0, []), (26, 1, 0, 4, 0, 0, []), (28, 0, 0, 52, 3, -1000003, []), (30, 4, 0, 66, 0, 0, []), (33, 1, 1, 0, 0, 0, []), (34, 1, 0, 4, 0, 0, []), (36, 11, 0, 5, 137, 0, [110, 2]), (39, 5, 0, 66, 0, 0, []), (42, 1, 0, 1, 0, 0, []), (43, 0, 0, 52, 3, -1000003, []), (45, 4, 0, 57, 0, 0, []), (48, 1, 1, 0, 0, 0, []), (49, 1, 0, 3, 0, 0, []), (50, 11, 0, 5, 125, 0, [113, 2]), (53, 1, 0, 2, 0, 0, []), (54, 4, 3, 66, 0, 0, []), (57, 1, 0, 4, 0, 0, []), (59, 1, 3, 1, 0, 0, []), (60, 1, 1, 0, 0, 0, []), (61, 1, 0, 3, 0, 0, []), (62, 11, 0, 5, 125, 0, [113, 2]), (65, 1, 3, 2, 0, 0, []), (66, 1, 6, 3, 0, 1, []), (69, 6, 0, 7, 0, 0, []), (72, 1, 0, 1, 0, 0, []), (73, 9, 0, 0, 0, 0, [])]
theorem k_M_nextDemand : okP s_M_nextDemand p_M_nextDemand := okP_of _ (by decide +kernel) (WS_places [743, 683, 823, 825, 32, 67, 826, 743, 843, 845, 36, 67, 846, 743, 851, 853, 38, 67, 854, 851, 853, 38, 67, 854] (by decide +kernel) (by decide +kernel)) (nest_places [] (by decide +kernel))
def p_M_grants : List PI := [(0, 0, 0, 0, 1, 80, []), (2, 0, 0, 0, 1, 6, []), (4, 1, 1, 0, 0, 0, []), (5, 8, 1, 5, 0, 0, [7]), (8, 0, 0, 0, 2, 448, []), (11, 8, 4, 0, 0, 0, []), (12, 2, 2, 0, 0, 0, []), (13, 2, 0, 0, 0, 0, []), (14, 1, 3, 2, 0, 0, []), (15, 1, 1, 0, 0, 0, []), (16, 1, 0, 1, 0, 0, []), (17, 0, 0, 0, 0, 4, []), (18, 11, 0, 5, 122, 0, [97, 3]), (21, 1, 3, 3, 0, 0, []), (22, 1, 1, 0, 0, 0, []), (23, 8, 1, 5, 0, 0, [7]), (26, 1, 0, 2, 0, 0, []), (27, 1, 1, 0, 0, 0, []), (28, 8, 1, 5, 0, 0, [7]), (31, 0, 0, 0, 2, 451, []), (34, 8, 4, 0, 0, 0, []), (35, 10, 4, 0, 0, 0, []), (36, 0, 0, 0, 0, 0, []), (37, 1, 3, 4, 0, 0, []), (39, 1, 0, 4, 0, 0, []), (41, 0, 0, 0, 0, 4, []), (42, 4, 3, 69, 0, 0, []), (45, 1, 1, 0, 0, 0, []), (46, 8, 1, 5, 0, 0, [7]), (49, 1, 0, 2, 0, 0, []), (50, 0, 0, 0, 0, 1, []), (51, 2, 0, 0, 0, 0, []), (52, 1, 0, 4, 0, 0, []), (54, 2, 0, 0, 0, 0, []), (55, 1, 1, 0, 0, 0, []), (56, 1, 0, 1, 0, 0, []), (57, 1, 0, 4, 0, 0, []), (59, 11, 0, 5, 122, 0, [97, 3]), (62, 10, 4, 0, 0, 0, []), (63, 1, 6, 4, 0, 1, []), (66, 6, 0, 39, 0, 0, []), (69, 1, 1, 0, 0, 0, []), (70, 8, 1, 5, 0, 0, [7]), (73, 1, 0, 2, 0, 0, []), (74, 0, 0, 0, 0, 5, []), (75, 2, 0, 0, 0, 0, []), (76, 1, 0, 3, 0, 0, []), (77, 10, 4, 0, 0, 0, []), (78, 1, 1, 0, 0, 0, []), (79, 8, 1, 5, 0, 0, [7]), (82, 0, 0, 0, 2, 448, []), (85, 7, 1, 0, 0, 0, []), (86, 8, 4, 0, 0, 0, []), (87, 0, 0, 0, 0, 1, []), (88, 2, 0, 0, 0, 0, []), (89, 10, 4, 0, 0, 0, []), (90, 1, 1, 0, 0, 0, []), (91, 8, 1, 5, 0, 0, [7]), (94, 0, 0, 0, 2, 451, []), (97, 7, 1, 0, 0, 0, []), (98, 8, 4, 0, 0, 0, []), (99, 0, 0, 0, 0, 1, []), (100, 2, 0, 0, 0, 0, []), (101, 10, 4, 0, 0, 0, []), (102, 1, 1, 0, 0, 0, []), (103, 1, 0, 1, 0, 0, []), (104, 11, 0, 5, 134, 0, [104, 2]), (107, 1, 0, 3, 0, 0, []), (108, 9, 0, 0, 0, 0, [])]
theorem k_M_grants : okP s_M_grants p_M_grants := okP_of _ (by decide +kernel) (WS_places [683, 827, 829, 33, 67, 830, 683, 683, 683, 827, 829, 33, 67, 830, 683, 683, 683, 831, 833, 34, 67, 834] (by decide +kernel) (by decide +kernel)) (nest_places [] (by decide +kernel))
def p_M_grant : List PI := [(0, 1, 1, 0, 0, 0, []), (1, 11, 0, 5, 138, 0, [116, 1]), (4, 1, 3, 1, 0, 0, []), (5, 1, 0, 1, 0, 0, []), (6, 0, 0, 52, 3, -1000003, []), (8, 4, 1, 14, 0, 0, []), (11, 0, 0, 36, 3, -1000001, []), (13, 9, 0, 0, 0, 0, []), (14, 1, 1, 0, 0, 0, []), (15, 8, 1, 5, 0, 0, [7]), (18, 0, 0, 0, 2, 448, []), (21, 8, 4, 0, 0, 0, []), (22, 0, 0, 0, 1, 40, []), (24, 4, 1, 30, 0, 0, []), (27, 0, 0, 41, 3, -1000002, []), (29, 9, 0, 0, 0, 0, []), (30, 1, 1, 0, 0, 0, []), (31, 11, 0, 5, 107, 0, [91, 1]), (34, 1, 1, 0, 0, 0, []), (35, 1, 0, 1, 0, 0, []), (36, 11, 0, 5, 139, 0, [119, 2]), (39, 9, 0, 0, 0, 0, [])]
theorem k_M_grant : okP s_M_grant p_M_grant := okP_of _ (by decide +kernel) (WS_places [839, 841, 35, 67, 842, 743, 721, 683, 730, 787, 789, 29, 67, 790, 855, 857, 39, 67, 858] (by decide +kernel) (by decide +kernel)) (nest_places [] (by decide +kernel))
def p_M_grantAll : List PI := [(0, 1, 1, 0, 0, 0, []), (1, 11, 0, 5, 138, 0, [116, 1]), (4, 1, 3, 1, 0, 0, []), (5, 1, 0, 1, 0, 0, []), (6, 0, 0, 52, 3, -1000003, []), (8, 4, 1, 14, 0, 0, []), (11, 0, 0, 36, 3, -1000001, []), (13, 9, 0, 0, 0, 0, []), (14, 1, 1, 0, 0, 0, []), (15, 8, 1, 5, 0, 0, [7]), (18, 0, 0, 0, 2, 448, []), (21, 8, 4, 0, 0, 0, []), (22, 0, 0, 0, 1, 40, []), (24, 4, 1, 30, 0, 0, []), (27, 0, 0, 41, 3, -1000002, []), (29, 9, 0, 0, 0, 0, []), (30, 1, 1, 0, 0, 0, []), (31, 11, 0, 5, 107, 0, [91, 1]), (34, 0, 0, 0, 0, 0, []), (35, 1, 3, 2, 0, 0, []), (36, 1, 0, 1, 0, 0, []), (37, 0, 0, 52, 3, -1000003, []), (39, 4, 0, 79, 0, 0, []), (42, 1, 1, 0, 0, 0, []), (43, 8, 1, 5, 0, 0, [7]), (46, 0, 0, 0, 2, 448, []), (49, 8, 4, 0, 0, 0, []), (50, 0, 0, 0, 1, 40, []), (52, 4, 3, 79, 0, 0, []), (55, 1, 0, 2, 0, 0, []), (56, 1, 1, 0, 0, 0, []), (57, 1, 0, 1, 0, 0, []), (58, 11, 0, 5, 139, 0, [119, 2]), (61, 5, 2, 68, 0, 0, []), (64, 0, 0, 0, 0, 1, []), (65, 6, 0, 69, 0, 0, []), (68, 0, 0, 0, 0, 0, []), (69, 2, 0, 0, 0, 0, []), (70, 1, 3, 2, 0, 0, []), (71, 1, 1, 0, 0, 0, []), (72, 11, 0, 5, 138, 0, [116, 1]), (75, 1, 3, 1, 0, 0, []), (76, 6, 0, 36, 0, 0, []), (79, 1, 0, 2, 0, 0, []), (80, 9, 0, 0, 0, 0, [])]
theorem k_M_grantAll : okP s_M_grantAll p_M_grantAll := okP_of _ (by decide +kernel) (WS_places [839, 841, 35, 67, 842, 743, 721, 683, 730, 787, 789, 29, 67, 790, 743, 683, 855, 857, 39, 67, 858, 839, 841, 35, 67, 842] (by decide +kernel) (by decide +kernel)) (nest_places [] (by decide +kernel))
def p_M_placeOf : List PI := [(0, 0, 0, 0, 0, 0, []), (1, 1, 3, 2, 0, 0, []), (2, 1, 0, 2, 0, 0, []), (3, 1, 1, 0, 0, 0, []), (4, 8, 1, 5, 0, 0, [7]), (7, 0, 0, 0, 2, 448, []), (10, 8, 4, 0, 0, 0, []), (11, 4, 3, 32, 0, 0, []), (14, 1, 1, 0, 0, 0, []), (15, 1, 0, 2, 0, 0, []), (16, 0, 0, 0, 0, 0, []), (17, 11, 0, 5, 121, 0, [77, 3]), (20, 1, 0, 1, 0, 0, []), (21, 4, 1, 26, 0, 0, []), (24, 1, 0, 2, 0, 0, []), (25, 9, 0, 0, 0, 0, []), (26, 1, 6, 2, 0, 1, []), (29, 6, 0, 2, 0, 0, []), (32, 0, 0, 52, 3, -1000003, []), (34, 9, 0, 0, 0, 0, [])]
theorem k_M_placeOf : okP s_M_placeOf p_M_placeOf := okP_of _ (by decide +kernel) (WS_places [683, 783, 785, 28, 67, 786, 743] (by decide +kernel) (by decide +kernel)) (nest_places [] (by decide +kernel))
def p_M_release : List PI := [(0, 1, 1, 0, 0, 0, []), (1, 1, 0, 1, 0, 0, []), (2, 11, 0, 5, 142, 0, [122, 2]), (5, 1, 3, 2, 0, 0, []), (6, 1, 0, 2, 0, 0, []), (7, 0, 0, 52, 3, -1000003, []), (9, 4, 1, 15, 0, 0, []), (12, 0, 0, 37, 3, -1000000, []), (14, 9, 0, 0, 0, 0, []), (15, 1, 1, 0, 0, 0, []), (16, 11, 0, 5, 107, 0, [91, 1]), (19, 1, 1, 0, 0, 0, []), (20, 1, 0, 2, 0, 0, []), (21, 11, 0, 5, 135, 0, [125, 2]), (24, 1, 1, 0, 0, 0, []), (25, 8, 1, 5, 0, 0, [7]), (28, 0, 0, 0, 2, 448, []), (31, 8, 4, 0, 0, 0, []), (32, 9, 0, 0, 0, 0, [])]
theorem k_M_release : okP s_M_release p_M_release := okP_of _ (by decide +kernel) (WS_places [867, 869, 40, 67, 870, 743, 729, 787, 789, 29, 67, 790, 871, 873, 41, 67, 874, 683] (by decide +kernel) (by decide +kernel)) (nest_places [] (by decide +kernel))
def p_M_comesToFund : List PI := [(0, 1, 1, 0, 0, 0, []), (1, 8, 1, 5, 0, 0, [7]), (4, 0, 0, 0, 0, 4, []), (5, 1, 0, 1, 0, 0, []), (6, 2, 0, 0, 0, 0, []), (7, 0, 0, 0, 2, 999, []), (10, 1, 1, 0, 0, 0, []), (11, 8, 1, 5, 0, 0, [7]), (14, 0, 0, 0, 0, 4, []), (15, 1, 0, 1, 0, 0, []), (16, 2, 0, 0, 0, 0, []), (17, 8, 4, 0, 0, 0, []), (18, 1, 0, 2, 0, 0, []), (19, 2, 0, 0, 0, 0, []), (20, 11, 1, 0, 102, 0, [128, 2]), (23, 10, 4, 0, 0, 0, []), (24, 9, 5, 0, 0, 0, [])]
theorem k_M_comesToFund : okP s_M_comesToFund p_M_comesToFund := okP_of _ (by decide +kernel) (WS_places [683, 683, 891, 892, 67, 893] (by decide +kernel) (by decide +kernel)) (nest_places [] (by decide +kernel))
def p_M_exchange : List PI := [(0, 1, 1, 0, 0, 0, []), (1, 1, 0, 1, 0, 0, []), (2, 11, 0, 5, 104, 0, [94, 2]), (5, 5, 0, 39, 0, 0, []), (8, 1, 0, 2, 0, 0, []), (9, 11, 1, 0, 103, 0, [87, 1]), (12, 5, 0, 39, 0, 0, []), (15, 1, 0, 3, 0, 0, []), (16, 11, 1, 0, 103, 0, [87, 1]), (19, 5, 0, 39, 0, 0, []), (22, 1, 0, 2, 0, 0, []), (23, 1, 0, 3, 0, 0, []), (24, 4, 0, 39, 0, 0, []), (27, 1, 0, 4, 0, 0, []), (29, 0, 0, 0, 0, 1, []), (30, 0, 0, 0, 2, 999, []), (33, 11, 1, 0, 101, 0, [28, 3]), (36, 5, 1, 42, 0, 0, []), (39, 0, 0, 37, 3, -1000000, []), (41, 9, 0, 0, 0, 0, []), (42, 1, 0, 4, 0, 0, []), (44, 1, 1, 0, 0, 0, []), (45, 1, 0, 2, 0, 0, []), (46, 11, 0, 5, 124, 0, [131, 2]), (49, 2, 2, 0, 0, 0, []), (50, 1, 1, 0, 0, 0, []), (51, 1, 0, 3, 0, 0, []), (52, 11, 0, 5, 124, 0, [131, 2]), (55, 2, 3, 0, 0, 0, []), (56, 1, 3, 5, 0, 0, []), (58, 1, 1, 0, 0, 0, []), (59, 1, 0, 1, 0, 0, []), (60, 0, 0, 0, 0, 3, []), (61, 11, 0, 5, 105, 0, [84, 3]), (64, 0, 0, 0, 0, 1, []), (65, 4, 1, 106, 0, 0, []), (68, 1, 1, 0, 0, 0, []), (69, 1, 0, 1, 0, 0, []), (70, 1, 0, 2, 0, 0, []), (71, 11, 0, 5, 126, 0, [107, 3]), (74, 1, 0, 4, 0, 0, []), (76, 4, 2, 106, 0, 0, []), (79, 1, 1, 0, 0, 0, []), (80, 1, 0, 1, 0, 0, []), (81, 0, 0, 0, 0, 4, []), (82, 1, 0, 2, 0, 0, []), (83, 2, 0, 0, 0, 0, []), (84, 11, 0, 5, 105, 0, [84, 3]), (87, 1, 1, 0, 0, 0, []), (88, 1, 0, 1, 0, 0, []), (89, 0, 0, 0, 1, 8, []), (91, 1, 0, 2, 0, 0, []), (92, 2, 0, 0, 0, 0, []), (93, 11, 0, 5, 105, 0, [84, 3]), (96, 2, 1, 0, 0, 0, []), (97, 1, 0, 4, 0, 0, []), (99, 4, 2, 106, 0, 0, []), (102, 0, 0, 0, 0, 1, []), (103, 6, 0, 107, 0, 0, []), (106, 0, 0, 0, 0, 0, []), (107, 1, 3, 6, 0, 0, []), (109, 1, 0, 6, 0, 0, []), (111, 5, 0, 132, 0, 0, []), (114, 1, 0, 5, 0, 0, []), (116, 5, 0, 132, 0, 0, []), (119, 1, 1, 0, 0, 0, []), (120, 8, 1, 5, 0, 0, [7]), (123, 0, 0, 0, 0, 4, []), (124, 1, 0, 3, 0, 0, []), (125, 2, 0, 0, 0, 0, []), (126, 8, 4, 0, 0, 0, []), (127, 1, 0, 5, 0, 0, []), (129, 4, 3, 135, 0, 0, []), (132, 0, 0, 36, 3, -1000001, []), (134, 9, 0, 0, 0, 0, []), (135, 1, 1, 0, 0, 0, []), (136, 1, 0, 1, 0, 0, []), (137, 0, 0, 0, 0, 4, []), (138, 1, 0, 3, 0, 0, []), (139, 2, 0, 0, 0, 0, []), (140, 11, 0, 5, 105, 0, [84, 3]), (143, 1, 0, 5, 0, 0, []), (145, 2, 0, 0, 0, 0, []), (146, 0, 0, 0, 2, 9999, []), (149, 4, 5, 155, 0, 0, []), (152, 0, 0, 41, 3, -1000002, []), (154, 9, 0, 0, 0, 0, []), (155, 1, 1, 0, 0, 0, []), (156, 11, 0, 5, 107, 0, [91, 1]), (159, 1, 1, 0, 0, 0, []), (160, 1, 0, 1, 0, 0, []), (161, 0, 0, 0, 0, 4, []), (162, 1, 0, 2, 0, 0, []), (163, 2, 0, 0, 0, 0, []), (164, 1, 0, 4, 0, 0, []), (166, 2, 5, 0, 0, 0, []), (167, 11, 0, 5, 106, 0, [134, 4]), (170, 1, 1, 0, 0, 0, []), (171, 1, 0, 2, 0, 0, []), (172, 1, 0, 4, 0, 0, []), (174, 11, 0, 5, 144, 0, [138, 3]), (177, 1, 1, 0, 0, 0, []), (178, 8, 1, 5, 0, 0, [7]), (181, 0, 0, 0, 0, 4, []), (182, 1, 0, 3, 0, 0, []), (183, 2, 0, 0, 0, 0, []), (184, 7, 1, 0, 0, 0, []), (185, 8, 4, 0, 0, 0, []), (186, 1, 0, 5, 0, 0, []), (188, 2, 1, 0, 0, 0, []), (189, 10, 4, 0, 0, 0, []), (190, 1, 1, 0, 0, 0, []), (191, 1, 0, 1, 0, 0, []), (192, 0, 0, 0, 0, 4, []), (193, 1, 0, 3, 0, 0, []), (194, 2, 0, 0, 0, 0, []), (195, 1, 0, 5, 0, 0, []), (197, 11, 0, 5, 106, 0, [134, 4]), (200, 1, 0, 5, 0, 0, []), (202, 9, 0, 0, 0, 0, [])]
theorem k_M_exchange : okP s_M_exchange p_M_exchange := okP_of _ (by decide +kernel) (WS_places [803, 805, 30, 67, 806, 776, 777, 67, 778, 776, 777, 67, 778, 726, 727, 67, 728, 729, 879, 881, 42, 67, 882, 879, 881, 42, 67, 882, 807, 809, 31, 67, 810, 847, 849, 37, 67, 850, 807, 809, 31, 67, 810, 807, 809, 31, 67, 810, 683, 721, 807, 809, 31, 67, 810, 730, 787, 789, 29, 67, 790, 883, 885, 43, 67, 886, 887, 889, 44, 67, 890, 683, 883, 885, 43, 67, 886] (by decide +kernel) (by decide +kernel)) (nest_places [] (by decide +kernel))
def p_M_loans : List PI := [(0, 0, 0, 0, 0, 0, []), (1, 1, 3, 2, 0, 0, []), (2, 0, 0, 0, 0, 0, []), (3, 1, 3, 3, 0, 0, []), (4, 1, 0, 3, 0, 0, []), (5, 0, 0, 0, 0, 4, []), (6, 4, 3, 27, 0, 0, []), (9, 1, 0, 2, 0, 0, []), (10, 1, 1, 0, 0, 0, []), (11, 1, 0, 1, 0, 0, []), (12, 0, 0, 0, 1, 8, []), (14, 1, 0, 3, 0, 0, []), (15, 2, 0, 0, 0, 0, []), (16, 11, 0, 5, 105, 0, [84, 3]), (19, 2, 0, 0, 0, 0, []), (20, 1, 3, 2, 0, 0, []), (21, 1, 6, 3, 0, 1, []), (24, 6, 0, 4, 0, 0, []), (27, 1, 0, 2, 0, 0, []), (28, 9, 0, 0, 0, 0, [])]
theorem k_M_loans : okP s_M_loans p_M_loans := okP_of _ (by decide +kernel) (WS_places [807, 809, 31, 67, 810] (by decide +kernel) (by decide +kernel)) (nest_places [] (by decide +kernel))
def p_M_borrow : List PI := [(0, 1, 1, 0, 0, 0, []), (1, 1, 0, 1, 0, 0, []), (2, 11, 0, 5, 104, 0, [94, 2]), (5, 5, 0, 26, 0, 0, []), (8, 1, 0, 2, 0, 0, []), (9, 11, 1, 0, 103, 0, [87, 1]), (12, 5, 0, 26, 0, 0, []), (15, 1, 0, 3, 0, 0, []), (16, 0, 0, 0, 0, 1, []), (17, 0, 0, 0, 2, 999, []), (20, 11, 1, 0, 101, 0, [28, 3]), (23, 5, 1, 29, 0, 0, []), (26, 0, 0, 37, 3, -1000000, []), (28, 9, 0, 0, 0, 0, []), (29, 1, 1, 0, 0, 0, []), (30, 1, 0, 1, 0, 0, []), (31, 0, 0, 0, 0, 3, []), (32, 11, 0, 5, 105, 0, [84, 3]), (35, 5, 0, 69, 0, 0, []), (38, 1, 1, 0, 0, 0, []), (39, 8, 1, 5, 0, 0, [7]), (42, 0, 0, 0, 0, 4, []), (43, 1, 0, 2, 0, 0, []), (44, 2, 0, 0, 0, 0, []), (45, 8, 4, 0, 0, 0, []), (46, 1, 0, 3, 0, 0, []), (47, 4, 2, 69, 0, 0, []), (50, 1, 1, 0, 0, 0, []), (51, 1, 0, 1, 0, 0, []), (52, 11, 0, 5, 146, 0, [142, 2]), (55, 1, 0, 3, 0, 0, []), (56, 2, 0, 0, 0, 0, []), (57, 0, 0, 0, 1, 10, []), (59, 1, 1, 0, 0, 0, []), (60, 1, 0, 1, 0, 0, []), (61, 0, 0, 0, 0, 0, []), (62, 11, 0, 5, 105, 0, [84, 3]), (65, 2, 2, 0, 0, 0, []), (66, 4, 5, 72, 0, 0, []), (69, 0, 0, 36, 3, -1000001, []), (71, 9, 0, 0, 0, 0, []), (72, 1, 1, 0, 0, 0, []), (73, 1, 0, 1, 0, 0, []), (74, 0, 0, 0, 0, 4, []), (75, 1, 0, 2, 0, 0, []), (76, 2, 0, 0, 0, 0, []), (77, 11, 0, 5, 105, 0, [84, 3]), (80, 1, 0, 3, 0, 0, []), (81, 2, 0, 0, 0, 0, []), (82, 0, 0, 0, 2, 9999, []), (85, 4, 5, 91, 0, 0, []), (88, 0, 0, 41, 3, -1000002, []), (90, 9, 0, 0, 0, 0, []), (91, 1, 1, 0, 0, 0, []), (92, 11, 0, 5, 107, 0, [91, 1]), (95, 1, 1, 0, 0, 0, []), (96, 8, 1, 5, 0, 0, [7]), (99, 0, 0, 0, 0, 4, []), (100, 1, 0, 2, 0, 0, []), (101, 2, 0, 0, 0, 0, []), (102, 7, 1, 0, 0, 0, []), (103, 8, 4, 0, 0, 0, []), (104, 1, 0, 3, 0, 0, []), (105, 2, 1, 0, 0, 0, []), (106, 10, 4, 0, 0, 0, []), (107, 1, 1, 0, 0, 0, []), (108, 1, 0, 1, 0, 0, []), (109, 0, 0, 0, 0, 4, []), (110, 1, 0, 2, 0, 0, []), (111, 2, 0, 0, 0, 0, []), (112, 1, 0, 3, 0, 0, []), (113, 11, 0, 5, 106, 0, [134, 4]), (116, 1, 1, 0, 0, 0, []), (117, 1, 0, 1, 0, 0, []), (118, 0, 0, 0, 1, 8, []), (120, 1, 0, 2, 0, 0, []), (121, 2, 0, 0, 0, 0, []), (122, 1, 0, 3, 0, 0, []), (123, 11, 0, 5, 106, 0, [134, 4]), (126, 1, 1, 0, 0, 0, []), (127, 1, 0, 1, 0, 0, []), (128, 0, 0, 0, 1, 8, []), (130, 1, 0, 2, 0, 0, []), (131, 2, 0, 0, 0, 0, []), (132, 11, 0, 5, 105, 0, [84, 3]), (135, 9, 0, 0, 0, 0, [])]
theorem k_M_borrow : okP s_M_borrow p_M_borrow := okP_of _ (by decide +kernel) (WS_places [803, 805, 30, 67, 806, 776, 777, 67, 778, 726, 727, 67, 728, 729, 807, 809, 31, 67, 810, 683, 898, 900, 45, 67, 901, 807, 809, 31, 67, 810, 721, 807, 809, 31, 67, 810, 730, 787, 789, 29, 67, 790, 683, 883, 885, 43, 67, 886, 883, 885, 43, 67, 886, 807, 809, 31, 67, 810] (by decide +kernel) (by decide +kernel)) (nest_places [] (by decide +kernel))
def p_M_repay : List PI := [(0, 1, 1, 0, 0, 0, []), (1, 1, 0, 1, 0, 0, []), (2, 11, 0, 5, 104, 0, [94, 2]), (5, 5, 0, 26, 0, 0, []), (8, 1, 0, 2, 0, 0, []), (9, 11, 1, 0, 103, 0, [87, 1]), (12, 5, 0, 26, 0, 0, []), (15, 1, 0, 3, 0, 0, []), (16, 0, 0, 0, 0, 1, []), (17, 0, 0, 0, 2, 999, []), (20, 11, 1, 0, 101, 0, [28, 3]), (23, 5, 1, 29, 0, 0, []), (26, 0, 0, 37, 3, -1000000, []), (28, 9, 0, 0, 0, 0, []), (29, 1, 1, 0, 0, 0, []), (30, 1, 0, 1, 0, 0, []), (31, 0, 0, 0, 1, 8, []), (33, 1, 0, 2, 0, 0, []), (34, 2, 0, 0, 0, 0, []), (35, 11, 0, 5, 105, 0, [84, 3]), (38, 1, 0, 3, 0, 0, []), (39, 4, 2, 52, 0, 0, []), (42, 1, 1, 0, 0, 0, []), (43, 1, 0, 1, 0, 0, []), (44, 1, 0, 2, 0, 0, []), (45, 11, 0, 5, 126, 0, [107, 3]), (48, 1, 0, 3, 0, 0, []), (49, 4, 3, 55, 0, 0, []), (52, 0, 0, 36, 3, -1000001, []), (54, 9, 0, 0, 0, 0, []), (55, 1, 1, 0, 0, 0, []), (56, 11, 0, 5, 107, 0, [91, 1]), (59, 1, 1, 0, 0, 0, []), (60, 1, 0, 1, 0, 0, []), (61, 0, 0, 0, 0, 4, []), (62, 1, 0, 2, 0, 0, []), (63, 2, 0, 0, 0, 0, []), (64, 1, 0, 3, 0, 0, []), (65, 2, 5, 0, 0, 0, []), (66, 11, 0, 5, 106, 0, [134, 4]), (69, 1, 1, 0, 0, 0, []), (70, 1, 0, 1, 0, 0, []), (71, 0, 0, 0, 1, 8, []), (73, 1, 0, 2, 0, 0, []), (74, 2, 0, 0, 0, 0, []), (75, 1, 0, 3, 0, 0, []), (76, 2, 5, 0, 0, 0, []), (77, 11, 0, 5, 106, 0, [134, 4]), (80, 1, 1, 0, 0, 0, []), (81, 1, 0, 2, 0, 0, []), (82, 1, 0, 3, 0, 0, []), (83, 11, 0, 5, 144, 0, [138, 3]), (86, 1, 1, 0, 0, 0, []), (87, 1, 0, 1, 0, 0, []), (88, 0, 0, 0, 1, 8, []), (90, 1, 0, 2, 0, 0, []), (91, 2, 0, 0, 0, 0, []), (92, 11, 0, 5, 105, 0, [84, 3]), (95, 9, 0, 0, 0, 0, [])]
theorem k_M_repay : okP s_M_repay p_M_repay := okP_of _ (by decide +kernel) (WS_places [803, 805, 30, 67, 806, 776, 777, 67, 778, 726, 727, 67, 728, 729, 807, 809, 31, 67, 810, 847, 849, 37, 67, 850, 721, 787, 789, 29, 67, 790, 883, 885, 43, 67, 886, 883, 885, 43, 67, 886, 887, 889, 44, 67, 890, 807, 809, 31, 67, 810] (by decide +kernel) (by decide +kernel)) (nest_places [] (by decide +kernel))
def p_M_goesBankrupt : List PI := [(0, 1, 1, 0, 0, 0, []), (1, 8, 1, 5, 0, 0, [7]), (4, 0, 0, 0, 2, 448, []), (7, 8, 4, 0, 0, 0, []), (8, 0, 0, 0, 0, 1, []), (9, 2, 1, 0, 0, 0, []), (10, 1, 3, 2, 0, 0, []), (11, 1, 0, 2, 0, 0, []), (12, 5, 2, 36, 0, 0, []), (15, 1, 1, 0, 0, 0, []), (16, 1, 0, 2, 0, 0, []), (17, 0, 0, 0, 0, 5, []), (18, 11, 0, 5, 121, 0, [77, 3]), (21, 1, 0, 1, 0, 0, []), (22, 4, 1, 30, 0, 0, []), (25, 1, 1, 0, 0, 0, []), (26, 1, 0, 2, 0, 0, []), (27, 11, 0, 5, 135, 0, [125, 2]), (30, 1, 6, 2, 0, -1, []), (33, 6, 0, 11, 0, 0, []), (36, 1, 1, 0, 0, 0, []), (37, 8, 1, 5, 0, 0, [7]), (40, 0, 0, 0, 2, 449, []), (43, 8, 4, 0, 0, 0, []), (44, 0, 0, 0, 0, 1, []), (45, 2, 1, 0, 0, 0, []), (46, 1, 3, 2, 0, 0, []), (47, 1, 0, 2, 0, 0, []), (48, 5, 2, 72, 0, 0, []), (51, 1, 1, 0, 0, 0, []), (52, 1, 0, 2, 0, 0, []), (53, 0, 0, 0, 0, 4, []), (54, 11, 0, 5, 122, 0, [97, 3]), (57, 1, 0, 1, 0, 0, []), (58, 4, 1, 66, 0, 0, []), (61, 1, 1, 0, 0, 0, []), (62, 1, 0, 2, 0, 0, []), (63, 11, 0, 5, 134, 0, [104, 2]), (66, 1, 6, 2, 0, -1, []), (69, 6, 0, 47, 0, 0, []), (72, 0, 0, 0, 0, 0, []), (73, 1, 3, 2, 0, 0, []), (74, 1, 0, 2, 0, 0, []), (75, 0, 0, 0, 0, 4, []), (76, 4, 3, 122, 0, 0, []), (79, 1, 1, 0, 0, 0, []), (80, 1, 0, 1, 0, 0, []), (81, 0, 0, 0, 1, 8, []), (83, 1, 0, 2, 0, 0, []), (84, 2, 0, 0, 0, 0, []), (85, 11, 0, 5, 105, 0, [84, 3]), (88, 1, 3, 3, 0, 0, []), (89, 1, 1, 0, 0, 0, []), (90, 1, 0, 2, 0, 0, []), (91, 1, 0, 3, 0, 0, []), (92, 11, 0, 5, 144, 0, [138, 3]), (95, 1, 1, 0, 0, 0, []), (96, 1, 0, 1, 0, 0, []), (97, 0, 0, 0, 0, 4, []), (98, 1, 0, 2, 0, 0, []), (99, 2, 0, 0, 0, 0, []), (100, 1, 0, 3, 0, 0, []), (101, 2, 5, 0, 0, 0, []), (102, 11, 0, 5, 106, 0, [134, 4]), (105, 1, 1, 0, 0, 0, []), (106, 1, 0, 1, 0, 0, []), (107, 0, 0, 0, 1, 8, []), (109, 1, 0, 2, 0, 0, []), (110, 2, 0, 0, 0, 0, []), (111, 1, 0, 3, 0, 0, []), (112, 2, 5, 0, 0, 0, []), (113, 11, 0, 5, 106, 0, [134, 4]), (116, 1, 6, 2, 0, 1, []), (119, 6, 0, 74, 0, 0, []), (122, 1, 1, 0, 0, 0, []), (123, 1, 0, 1, 0, 0, []), (124, 0, 0, 0, 0, 1, []), (125, 1, 1, 0, 0, 0, []), (126, 1, 0, 1, 0, 0, []), (127, 0, 0, 0, 0, 1, []), (128, 11, 0, 5, 105, 0, [84, 3]), (131, 2, 5, 0, 0, 0, []), (132, 11, 0, 5, 106, 0, [134, 4]), (135, 1, 1, 0, 0, 0, []), (136, 8, 1, 5, 0, 0, [7]), (139, 0, 0, 0, 1, 8, []), (141, 0, 0, 0, 1, 12, []), (143, 1, 0, 1, 0, 0, []), (144, 2, 2, 0, 0, 0, []), (145, 2, 0, 0, 0, 0, []), (146, 0, 0, 0, 0, 3, []), (147, 2, 0, 0, 0, 0, []), (148, 0, 0, 0, 0, 0, []), (149, 10, 4, 0, 0, 0, []), (150, 1, 1, 0, 0, 0, []), (151, 8, 1, 5, 0, 0, [7]), (154, 0, 0, 0, 1, 8, []), (156, 0, 0, 0, 1, 12, []), (158, 1, 0, 1, 0, 0, []), (159, 2, 2, 0, 0, 0, []), (160, 2, 0, 0, 0, 0, []), (161, 0, 0, 0, 0, 2, []), (162, 2, 0, 0, 0, 0, []), (163, 1, 1, 0, 0, 0, []), (164, 8, 1, 5, 0, 0, [7]), (167, 0, 0, 0, 2, 446, []), (170, 8, 4, 0, 0, 0, []), (171, 10, 4, 0, 0, 0, []), (172, 1, 1, 0, 0, 0, []), (173, 8, 1, 5, 0, 0, [7]), (176, 0, 0, 0, 2, 440, []), (179, 1, 1, 0, 0, 0, []), (180, 8, 1, 5, 0, 0, [7]), (183, 0, 0, 0, 2, 450, []), (186, 8, 4, 0, 0, 0, []), (187, 2, 0, 0, 0, 0, []), (188, 1, 0, 1, 0, 0, []), (189, 10, 4, 0, 0, 0, []), (190, 1, 1, 0, 0, 0, []), (191, 8, 1, 5, 0, 0, [7]), (194, 0, 0, 0, 2, 450, []), (197, 7, 1, 0, 0, 0, []), (198, 8, 4, 0, 0, 0, []), (199, 0, 0, 0, 0, 1, []), (200, 2, 0, 0, 0, 0, []), (201, 10, 4, 0, 0, 0, []), (202, 1, 1, 0, 0, 0, []), (203, 8, 1, 5, 0, 0, [7]), (206, 0, 0, 0, 2, 453, []), (209, 7, 1, 0, 0, 0, []), (210, 8, 4, 0, 0, 0, []), (211, 0, 0, 0, 0, 1, []), (212, 2, 0, 0, 0, 0, []), (213, 10, 4, 0, 0, 0, []), (214, 9, 5, 0, 0, 0, [])]
theorem k_M_goesBankrupt : okP s_M_goesBankrupt p_M_goesBankrupt := okP_of _ (by decide +kernel) (WS_places [683, 783, 785, 28, 67, 786, 871, 873, 41, 67, 874, 683, 827, 829, 33, 67, 830, 831, 833, 34, 67, 834, 807, 809, 31, 67, 810, 887, 889, 44, 67, 890, 883, 885, 43, 67, 886, 883, 885, 43, 67, 886, 807, 809, 31, 67, 810, 883, 885, 43, 67, 886, 683, 683, 683, 683, 683, 683, 683] (by decide +kernel) (by decide +kernel)) (nest_places [] (by decide +kernel))
def p_M_tick : List PI := [(0, 1, 1, 0, 0, 0, []), (1, 8, 1, 5, 0, 0, [7]), (4, 0, 0, 0, 2, 446, []), (7, 7, 1, 0, 0, 0, []), (8, 8, 4, 0, 0, 0, []), (9, 0, 0, 0, 0, 1, []), (10, 2, 0, 0, 0, 0, []), (11, 10, 4, 0, 0, 0, []), (12, 0, 0, 0, 0, 0, []), (13, 1, 3, 1, 0, 0, []), (14, 1, 0, 1, 0, 0, []), (15, 1, 1, 0, 0, 0, []), (16, 8, 1, 5, 0, 0, [7]), (19, 0, 0, 0, 2, 447, []), (22, 8, 4, 0, 0, 0, []), (23, 4, 3, 95, 0, 0, []), (26, 0, 0, 0, 0, 0, []), (27, 1, 3, 2, 0, 0, []), (28, 0, 0, 0, 0, 0, []), (29, 1, 3, 3, 0, 0, []), (30, 1, 0, 3, 0, 0, []), (31, 0, 0, 0, 0, 4, []), (32, 4, 3, 59, 0, 0, []), (35, 1, 0, 2, 0, 0, []), (36, 1, 1, 0, 0, 0, []), (37, 1, 0, 1, 0, 0, []), (38, 0, 0, 0, 1, 8, []), (40, 1, 0, 3, 0, 0, []), (41, 2, 0, 0, 0, 0, []), (42, 11, 0, 5, 105, 0, [84, 3]), (45, 1, 1, 0, 0, 0, []), (46, 1, 0, 3, 0, 0, []), (47, 11, 0, 5, 124, 0, [131, 2]), (50, 2, 2, 0, 0, 0, []), (51, 2, 0, 0, 0, 0, []), (52, 1, 3, 2, 0, 0, []), (53, 1, 6, 3, 0, 1, []), (56, 6, 0, 30, 0, 0, []), (59, 1, 1, 0, 0, 0, []), (60, 1, 0, 1, 0, 0, []), (61, 0, 0, 0, 0, 1, []), (62, 1, 1, 0, 0, 0, []), (63, 1, 0, 1, 0, 0, []), (64, 0, 0, 0, 0, 3, []), (65, 11, 0, 5, 105, 0, [84, 3]), (68, 0, 0, 0, 0, 1, []), (69, 4, 1, 85, 0, 0, []), (72, 0, 0, 0, 0, 5, []), (73, 1, 1, 0, 0, 0, []), (74, 1, 0, 1, 0, 0, []), (75, 0, 0, 0, 0, 0, []), (76, 11, 0, 5, 105, 0, [84, 3]), (79, 2, 2, 0, 0, 0, []), (80, 1, 0, 2, 0, 0, []), (81, 2, 1, 0, 0, 0, []), (82, 6, 0, 86, 0, 0, []), (85, 0, 0, 0, 0, 0, []), (86, 11, 0, 5, 106, 0, [134, 4]), (89, 1, 6, 1, 0, 1, []), (92, 6, 0, 14, 0, 0, []), (95, 0, 0, 0, 0, 0, []), (96, 1, 3, 1, 0, 0, []), (97, 1, 0, 1, 0, 0, []), (98, 1, 1, 0, 0, 0, []), (99, 8, 1, 5, 0, 0, [7]), (102, 0, 0, 0, 2, 447, []), (105, 8, 4, 0, 0, 0, []), (106, 4, 3, 155, 0, 0, []), (109, 1, 1, 0, 0, 0, []), (110, 1, 0, 1, 0, 0, []), (111, 0, 0, 0, 0, 1, []), (112, 11, 0, 5, 105, 0, [84, 3]), (115, 2, 5, 0, 0, 0, []), (116, 1, 3, 2, 0, 0, []), (117, 1, 1, 0, 0, 0, []), (118, 1, 0, 1, 0, 0, []), (119, 0, 0, 0, 0, 1, []), (120, 1, 1, 0, 0, 0, []), (121, 1, 0, 1, 0, 0, []), (122, 0, 0, 0, 0, 3, []), (123, 11, 0, 5, 105, 0, [84, 3]), (126, 0, 0, 0, 0, 1, []), (127, 4, 1, 145, 0, 0, []), (130, 1, 0, 2, 0, 0, []), (131, 5, 5, 145, 0, 0, []), (134, 1, 0, 2, 0, 0, []), (135, 0, 0, 0, 1, 9, []), (137, 2, 0, 0, 0, 0, []), (138, 0, 0, 0, 1, 10, []), (140, 2, 3, 0, 0, 0, []), (141, 2, 5, 0, 0, 0, []), (142, 6, 0, 146, 0, 0, []), (145, 0, 0, 0, 0, 0, []), (146, 11, 0, 5, 106, 0, [134, 4]), (149, 1, 6, 1, 0, 1, []), (152, 6, 0, 97, 0, 0, []), (155, 0, 0, 0, 0, 0, []), (156, 1, 3, 1, 0, 0, []), (157, 1, 0, 1, 0, 0, []), (158, 1, 1, 0, 0, 0, []), (159, 8, 1, 5, 0, 0, [7]), (162, 0, 0, 0, 2, 447, []), (165, 8, 4, 0, 0, 0, []), (166, 4, 3, 209, 0, 0, []), (169, 1, 1, 0, 0, 0, []), (170, 1, 0, 1, 0, 0, []), (171, 0, 0, 0, 0, 3, []), (172, 11, 0, 5, 105, 0, [84, 3]), (175, 0, 0, 0, 0, 1, []), (176, 4, 1, 203, 0, 0, []), (179, 1, 1, 0, 0, 0, []), (180, 1, 0, 1, 0, 0, []), (181, 0, 0, 0, 0, 1, []), (182, 11, 0, 5, 105, 0, [84, 3]), (185, 2, 5, 0, 0, 0, []), (186, 0, 0, 0, 1, 50, []), (188, 1, 1, 0, 0, 0, []), (189, 1, 0, 1, 0, 0, []), (190, 0, 0, 0, 0, 0, []), (191, 11, 0, 5, 105, 0, [84, 3]), (194, 2, 2, 0, 0, 0, []), (195, 4, 5, 203, 0, 0, []), (198, 1, 1, 0, 0, 0, []), (199, 1, 0, 1, 0, 0, []), (200, 11, 0, 5, 149, 0, [145, 2]), (203, 1, 6, 1, 0, 1, []), (206, 6, 0, 157, 0, 0, []), (209, 1, 1, 0, 0, 0, []), (210, 8, 1, 5, 0, 0, [7]), (213, 0, 0, 0, 2, 450, []), (216, 8, 4, 0, 0, 0, []), (217, 5, 5, 329, 0, 0, []), (220, 1, 1, 0, 0, 0, []), (221, 8, 1, 5, 0, 0, [7]), (224, 0, 0, 0, 2, 446, []), (227, 8, 4, 0, 0, 0, []), (228, 1, 1, 0, 0, 0, []), (229, 1, 1, 0, 0, 0, []), (230, 8, 1, 5, 0, 0, [7]), (233, 0, 0, 0, 2, 440, []), (236, 8, 4, 0, 0, 0, []), (237, 0, 0, 0, 0, 2, []), (238, 11, 0, 5, 105, 0, [84, 3]), (241, 2, 1, 0, 0, 0, []), (242, 1, 1, 0, 0, 0, []), (243, 8, 1, 5, 0, 0, [7]), (246, 0, 0, 0, 2, 452, []), (249, 8, 4, 0, 0, 0, []), (250, 4, 2, 329, 0, 0, []), (253, 1, 1, 0, 0, 0, []), (254, 8, 1, 5, 0, 0, [7]), (257, 0, 0, 0, 1, 8, []), (259, 0, 0, 0, 1, 12, []), (261, 1, 1, 0, 0, 0, []), (262, 8, 1, 5, 0, 0, [7]), (265, 0, 0, 0, 2, 440, []), (268, 8, 4, 0, 0, 0, []), (269, 2, 2, 0, 0, 0, []), (270, 2, 0, 0, 0, 0, []), (271, 0, 0, 0, 0, 3, []), (272, 2, 0, 0, 0, 0, []), (273, 0, 0, 0, 0, 1, []), (274, 10, 4, 0, 0, 0, []), (275, 1, 1, 0, 0, 0, []), (276, 8, 1, 5, 0, 0, [7]), (279, 0, 0, 0, 2, 450, []), (282, 7, 1, 0, 0, 0, []), (283, 8, 4, 0, 0, 0, []), (284, 0, 0, 0, 0, 1, []), (285, 2, 1, 0, 0, 0, []), (286, 10, 4, 0, 0, 0, []), (287, 0, 0, 0, 0, 0, []), (288, 1, 3, 1, 0, 0, []), (289, 1, 0, 1, 0, 0, []), (290, 1, 1, 0, 0, 0, []), (291, 8, 1, 5, 0, 0, [7]), (294, 0, 0, 0, 2, 450, []), (297, 8, 4, 0, 0, 0, []), (298, 4, 3, 329, 0, 0, []), (301, 1, 1, 0, 0, 0, []), (302, 8, 1, 5, 0, 0, [7]), (305, 0, 0, 0, 2, 440, []), (308, 1, 0, 1, 0, 0, []), (309, 2, 0, 0, 0, 0, []), (310, 1, 1, 0, 0, 0, []), (311, 8, 1, 5, 0, 0, [7]), (314, 0, 0, 0, 2, 440, []), (317, 1, 0, 1, 0, 0, []), (318, 2, 0, 0, 0, 0, []), (319, 0, 0, 0, 0, 1, []), (320, 2, 0, 0, 0, 0, []), (321, 8, 4, 0, 0, 0, []), (322, 10, 4, 0, 0, 0, []), (323, 1, 6, 1, 0, 1, []), (326, 6, 0, 289, 0, 0, []), (329, 9, 5, 0, 0, 0, [])]
theorem k_M_tick : okP s_M_tick p_M_tick := okP_of _ (by decide +kernel) (WS_places [683, 683, 807, 809, 31, 67, 810, 879, 881, 42, 67, 882, 807, 809, 31, 67, 810, 807, 809, 31, 67, 810, 883, 885, 43, 67, 886, 683, 807, 809, 31, 67, 810, 807, 809, 31, 67, 810, 883, 885, 43, 67, 886, 683, 807, 809, 31, 67, 810, 807, 809, 31, 67, 810, 807, 809, 31, 67, 810, 914, 916, 47, 67, 917, 683, 683, 683, 807, 809, 31, 67, 810, 683, 683, 683, 683, 683, 683, 683] (by decide +kernel) (by decide +kernel)) (nest_places [] (by decide +kernel))
def p_M_pass : List PI := [(0, 1, 0, 1, 0, 0, []), (1, 0, 0, 0, 0, 1, []), (2, 0, 0, 0, 2, 999, []), (5, 11, 1, 0, 101, 0, [28, 3]), (8, 5, 1, 14, 0, 0, []), (11, 0, 0, 37, 3, -1000000, []), (13, 9, 0, 0, 0, 0, []), (14, 1, 1, 0, 0, 0, []), (15, 8, 1, 5, 0, 0, [7]), (18, 0, 0, 0, 2, 446, []), (21, 8, 4, 0, 0, 0, []), (22, 1, 0, 1, 0, 0, []), (23, 2, 0, 0, 0, 0, []), (24, 0, 0, 0, 2, 9999, []), (27, 4, 5, 33, 0, 0, []), (30, 0, 0, 41, 3, -1000002, []), (32, 9, 0, 0, 0, 0, []), (33, 1, 1, 0, 0, 0, []), (34, 11, 0, 5, 107, 0, [91, 1]), (37, 0, 0, 0, 0, 0, []), (38, 1, 3, 2, 0, 0, []), (39, 1, 0, 2, 0, 0, []), (40, 1, 0, 1, 0, 0, []), (41, 4, 3, 54, 0, 0, []), (44, 1, 1, 0, 0, 0, []), (45, 11, 0, 5, 150, 0, [148, 1]), (48, 1, 6, 2, 0, 1, []), (51, 6, 0, 39, 0, 0, []), (54, 1, 1, 0, 0, 0, []), (55, 8, 1, 5, 0, 0, [7]), (58, 0, 0, 0, 2, 450, []), (61, 8, 4, 0, 0, 0, []), (62, 9, 0, 0, 0, 0, [])]
theorem k_M_pass : okP s_M_pass p_M_pass := okP_of _ (by decide +kernel) (WS_places [726, 727, 67, 728, 729, 683, 730, 787, 789, 29, 67, 790, 910, 912, 46, 67, 913, 683] (by decide +kernel) (by decide +kernel)) (nest_places [] (by decide +kernel))
def p_M_sums : List PI := [(0, 0, 0, 0, 0, 0, []), (1, 1, 3, 3, 0, 0, []), (2, 0, 0, 0, 0, 0, []), (3, 1, 3, 4, 0, 0, []), (5, 1, 0, 4, 0, 0, []), (7, 1, 1, 0, 0, 0, []), (8, 8, 1, 5, 0, 0, [7]), (11, 0, 0, 0, 2, 447, []), (14, 8, 4, 0, 0, 0, []), (15, 4, 3, 36, 0, 0, []), (18, 1, 0, 3, 0, 0, []), (19, 1, 1, 0, 0, 0, []), (20, 1, 0, 4, 0, 0, []), (22, 1, 0, 2, 0, 0, []), (23, 1, 0, 1, 0, 0, []), (24, 2, 0, 0, 0, 0, []), (25, 11, 0, 5, 105, 0, [84, 3]), (28, 2, 0, 0, 0, 0, []), (29, 1, 3, 3, 0, 0, []), (30, 1, 6, 4, 0, 1, []), (33, 6, 0, 5, 0, 0, []), (36, 1, 0, 3, 0, 0, []), (37, 9, 0, 0, 0, 0, [])]
theorem k_M_sums : okP s_M_sums p_M_sums := okP_of _ (by decide +kernel) (WS_places [683, 807, 809, 31, 67, 810] (by decide +kernel) (by decide +kernel)) (nest_places [] (by decide +kernel))
def p_M_resource : List PI := [(0, 1, 0, 1, 0, 0, []), (1, 11, 1, 0, 103, 0, [87, 1]), (4, 5, 1, 10, 0, 0, []), (7, 0, 0, 37, 3, -1000000, []), (9, 9, 0, 0, 0, 0, []), (10, 1, 0, 2, 0, 0, []), (11, 6, 1, 95, 37, 0, [48, 57, 66, 74, 80, 87]), (48, 1, 1, 0, 0, 0, []), (49, 8, 1, 5, 0, 0, [7]), (52, 0, 0, 0, 0, 0, []), (53, 1, 0, 1, 0, 0, []), (54, 2, 0, 0, 0, 0, []), (55, 8, 4, 0, 0, 0, []), (56, 9, 0, 0, 0, 0, []), (57, 1, 1, 0, 0, 0, []), (58, 8, 1, 5, 0, 0, [7]), (61, 0, 0, 0, 0, 4, []), (62, 1, 0, 1, 0, 0, []), (63, 2, 0, 0, 0, 0, []), (64, 8, 4, 0, 0, 0, []), (65, 9, 0, 0, 0, 0, []), (66, 1, 1, 0, 0, 0, []), (67, 1, 0, 1, 0, 0, []), (68, 0, 0, 52, 3, -1000003, []), (70, 11, 0, 5, 123, 0, [81, 3]), (73, 9, 0, 0, 0, 0, []), (74, 1, 1, 0, 0, 0, []), (75, 1, 0, 1, 0, 0, []), (76, 11, 0, 5, 124, 0, [131, 2]), (79, 9, 0, 0, 0, 0, []), (80, 1, 1, 0, 0, 0, []), (81, 1, 0, 1, 0, 0, []), (82, 0, 0, 0, 0, 4, []), (83, 11, 0, 5, 152, 0, [151, 3]), (86, 9, 0, 0, 0, 0, []), (87, 1, 1, 0, 0, 0, []), (88, 1, 0, 1, 0, 0, []), (89, 0, 0, 0, 1, 8, []), (91, 11, 0, 5, 152, 0, [151, 3]), (94, 9, 0, 0, 0, 0, []), (95, 0, 0, 37, 3, -1000000, []), (97, 9, 0, 0, 0, 0, [])]
theorem k_M_resource : okP s_M_resource p_M_resource := okP_of _ (by decide +kernel) (WS_places [776, 777, 67, 778, 729, 683, 683, 743, 779, 781, 27, 67, 782, 879, 881, 42, 67, 882, 922, 924, 48, 67, 925, 922, 924, 48, 67, 925, 729] (by decide +kernel) (by decide +kernel)) (nest_places [] (by decide +kernel))
def p_M_grantsOf : List PI := [(0, 0, 0, 0, 0, 0, []), (1, 1, 3, 2, 0, 0, []), (2, 0, 0, 0, 0, 0, []), (3, 1, 3, 3, 0, 0, []), (4, 1, 0, 3, 0, 0, []), (5, 1, 1, 0, 0, 0, []), (6, 8, 1, 5, 0, 0, [7]), (9, 0, 0, 0, 2, 448, []), (12, 8, 4, 0, 0, 0, []), (13, 4, 3, 40, 0, 0, []), (16, 1, 0, 2, 0, 0, []), (17, 1, 1, 0, 0, 0, []), (18, 1, 0, 3, 0, 0, []), (19, 0, 0, 0, 0, 5, []), (20, 11, 0, 5, 121, 0, [77, 3]), (23, 1, 0, 1, 0, 0, []), (24, 4, 1, 31, 0, 0, []), (27, 0, 0, 0, 0, 1, []), (28, 6, 0, 32, 0, 0, []), (31, 0, 0, 0, 0, 0, []), (32, 2, 0, 0, 0, 0, []), (33, 1, 3, 2, 0, 0, []), (34, 1, 6, 3, 0, 1, []), (37, 6, 0, 4, 0, 0, []), (40, 1, 0, 2, 0, 0, []), (41, 9, 0, 0, 0, 0, [])]
theorem k_M_grantsOf : okP s_M_grantsOf p_M_grantsOf := okP_of _ (by decide +kernel) (WS_places [683, 783, 785, 28, 67, 786] (by decide +kernel) (by decide +kernel)) (nest_places [] (by decide +kernel))
def p_M_demandsOf : List PI := [(0, 0, 0, 0, 0, 0, []), (1, 1, 3, 2, 0, 0, []), (2, 0, 0, 0, 0, 0, []), (3, 1, 3, 3, 0, 0, []), (4, 1, 0, 3, 0, 0, []), (5, 1, 1, 0, 0, 0, []), (6, 8, 1, 5, 0, 0, [7]), (9, 0, 0, 0, 2, 449, []), (12, 8, 4, 0, 0, 0, []), (13, 4, 3, 40, 0, 0, []), (16, 1, 0, 2, 0, 0, []), (17, 1, 1, 0, 0, 0, []), (18, 1, 0, 3, 0, 0, []), (19, 0, 0, 0, 0, 4, []), (20, 11, 0, 5, 122, 0, [97, 3]), (23, 1, 0, 1, 0, 0, []), (24, 4, 1, 31, 0, 0, []), (27, 0, 0, 0, 0, 1, []), (28, 6, 0, 32, 0, 0, []), (31, 0, 0, 0, 0, 0, []), (32, 2, 0, 0, 0, 0, []), (33, 1, 3, 2, 0, 0, []), (34, 1, 6, 3, 0, 1, []), (37, 6, 0, 4, 0, 0, []), (40, 1, 0, 2, 0, 0, []), (41, 9, 0, 0, 0, 0, [])]
theorem k_M_demandsOf : okP s_M_demandsOf p_M_demandsOf := okP_of _ (by decide +kernel) (WS_places [683, 827, 829, 33, 67, 830] (by decide +kernel) (by decide +kernel)) (nest_places [] (by decide +kernel))
def p_M_placeInQueue : List PI := [(0, 0, 0, 0, 0, 0, []), (1, 1, 3, 2, 0, 0, []), (2, 1, 0, 2, 0, 0, []), (3, 1, 1, 0, 0, 0, []), (4, 8, 1, 5, 0, 0, [7]), (7, 0, 0, 0, 2, 450, []), (10, 8, 4, 0, 0, 0, []), (11, 4, 3, 36, 0, 0, []), (14, 1, 1, 0, 0, 0, []), (15, 8, 1, 5, 0, 0, [7]), (18, 0, 0, 0, 2, 440, []), (21, 1, 0, 2, 0, 0, []), (22, 2, 0, 0, 0, 0, []), (23, 8, 4, 0, 0, 0, []), (24, 1, 0, 1, 0, 0, []), (25, 4, 1, 30, 0, 0, []), (28, 1, 0, 2, 0, 0, []), (29, 9, 0, 0, 0, 0, []), (30, 1, 6, 2, 0, 1, []), (33, 6, 0, 2, 0, 0, []), (36, 0, 0, 52, 3, -1000003, []), (38, 9, 0, 0, 0, 0, [])]
theorem k_M_placeInQueue : okP s_M_placeInQueue p_M_placeInQueue := okP_of _ (by decide +kernel) (WS_places [683, 683, 743] (by decide +kernel) (by decide +kernel)) (nest_places [] (by decide +kernel))
def p_M_tenant : List PI := [(0, 1, 1, 0, 0, 0, []), (1, 1, 0, 1, 0, 0, []), (2, 11, 0, 5, 104, 0, [94, 2]), (5, 5, 1, 11, 0, 0, []), (8, 0, 0, 37, 3, -1000000, []), (10, 9, 0, 0, 0, 0, []), (11, 1, 0, 2, 0, 0, []), (12, 6, 1, 112, 48, 0, [60, 67, 74, 80, 87, 93, 99, 105]), (60, 1, 1, 0, 0, 0, []), (61, 1, 0, 1, 0, 0, []), (62, 0, 0, 0, 0, 0, []), (63, 11, 0, 5, 105, 0, [84, 3]), (66, 9, 0, 0, 0, 0, []), (67, 1, 1, 0, 0, 0, []), (68, 1, 0, 1, 0, 0, []), (69, 0, 0, 0, 0, 1, []), (70, 11, 0, 5, 105, 0, [84, 3]), (73, 9, 0, 0, 0, 0, []), (74, 1, 1, 0, 0, 0, []), (75, 1, 0, 1, 0, 0, []), (76, 11, 0, 5, 125, 0, [113, 2]), (79, 9, 0, 0, 0, 0, []), (80, 1, 1, 0, 0, 0, []), (81, 1, 0, 1, 0, 0, []), (82, 0, 0, 0, 0, 3, []), (83, 11, 0, 5, 105, 0, [84, 3]), (86, 9, 0, 0, 0, 0, []), (87, 1, 1, 0, 0, 0, []), (88, 1, 0, 1, 0, 0, []), (89, 11, 0, 5, 154, 0, [154, 2]), (92, 9, 0, 0, 0, 0, []), (93, 1, 1, 0, 0, 0, []), (94, 1, 0, 1, 0, 0, []), (95, 11, 0, 5, 155, 0, [157, 2]), (98, 9, 0, 0, 0, 0, []), (99, 1, 1, 0, 0, 0, []), (100, 1, 0, 1, 0, 0, []), (101, 11, 0, 5, 156, 0, [160, 2]), (104, 9, 0, 0, 0, 0, []), (105, 1, 1, 0, 0, 0, []), (106, 1, 0, 1, 0, 0, []), (107, 0, 0, 0, 0, 2, []), (108, 11, 0, 5, 105, 0, [84, 3]), (111, 9, 0, 0, 0, 0, []), (112, 0, 0, 37, 3, -1000000, []), (114, 9, 0, 0, 0, 0, [])]
theorem k_M_tenant : okP s_M_tenant p_M_tenant := okP_of _ (by decide +kernel) (WS_places [803, 805, 30, 67, 806, 729, 807, 809, 31, 67, 810, 807, 809, 31, 67, 810, 851, 853, 38, 67, 854, 807, 809, 31, 67, 810, 930, 932, 49, 67, 933, 934, 936, 50, 67, 937, 938, 940, 51, 67, 941, 807, 809, 31, 67, 810, 729] (by decide +kernel) (by decide +kernel)) (nest_places [] (by decide +kernel))
def p_M_account : List PI := [(0, 1, 1, 0, 0, 0, []), (1, 1, 0, 1, 0, 0, []), (2, 11, 0, 5, 104, 0, [94, 2]), (5, 5, 0, 15, 0, 0, []), (8, 1, 0, 2, 0, 0, []), (9, 11, 1, 0, 103, 0, [87, 1]), (12, 5, 1, 18, 0, 0, []), (15, 0, 0, 37, 3, -1000000, []), (17, 9, 0, 0, 0, 0, []), (18, 1, 0, 3, 0, 0, []), (19, 6, 1, 81, 29, 0, [48, 57, 67, 74]), (48, 1, 1, 0, 0, 0, []), (49, 1, 0, 1, 0, 0, []), (50, 0, 0, 0, 0, 4, []), (51, 1, 0, 2, 0, 0, []), (52, 2, 0, 0, 0, 0, []), (53, 11, 0, 5, 105, 0, [84, 3]), (56, 9, 0, 0, 0, 0, []), (57, 1, 1, 0, 0, 0, []), (58, 1, 0, 1, 0, 0, []), (59, 0, 0, 0, 1, 8, []), (61, 1, 0, 2, 0, 0, []), (62, 2, 0, 0, 0, 0, []), (63, 11, 0, 5, 105, 0, [84, 3]), (66, 9, 0, 0, 0, 0, []), (67, 1, 1, 0, 0, 0, []), (68, 1, 0, 2, 0, 0, []), (69, 1, 0, 1, 0, 0, []), (70, 11, 0, 5, 123, 0, [81, 3]), (73, 9, 0, 0, 0, 0, []), (74, 1, 1, 0, 0, 0, []), (75, 1, 0, 1, 0, 0, []), (76, 1, 0, 2, 0, 0, []), (77, 11, 0, 5, 126, 0, [107, 3]), (80, 9, 0, 0, 0, 0, []), (81, 0, 0, 37, 3, -1000000, []), (83, 9, 0, 0, 0, 0, [])]
theorem k_M_account : okP s_M_account p_M_account := okP_of _ (by decide +kernel) (WS_places [803, 805, 30, 67, 806, 776, 777, 67, 778, 729, 807, 809, 31, 67, 810, 807, 809, 31, 67, 810, 779, 781, 27, 67, 782, 847, 849, 37, 67, 850, 729] (by decide +kernel) (by decide +kernel)) (nest_places [] (by decide +kernel))
def p_M_granted : List PI := [(0, 1, 0, 1, 0, 0, []), (1, 5, 2, 13, 0, 0, []), (4, 1, 0, 2, 0, 0, []), (5, 0, 0, 0, 0, 0, []), (6, 0, 0, 0, 0, 4, []), (7, 11, 1, 0, 101, 0, [28, 3]), (10, 5, 1, 16, 0, 0, []), (13, 0, 0, 37, 3, -1000000, []), (15, 9, 0, 0, 0, 0, []), (16, 1, 1, 0, 0, 0, []), (17, 1, 0, 1, 0, 0, []), (18, 11, 0, 5, 142, 0, [122, 2]), (21, 1, 3, 3, 0, 0, []), (22, 1, 0, 3, 0, 0, []), (23, 0, 0, 52, 3, -1000003, []), (25, 4, 1, 33, 0, 0, []), (28, 0, 0, 52, 3, -1000003, []), (30, 6, 0, 41, 0, 0, []), (33, 1, 1, 0, 0, 0, []), (34, 1, 0, 3, 0, 0, []), (35, 0, 0, 0, 0, 1, []), (36, 1, 0, 2, 0, 0, []), (37, 2, 0, 0, 0, 0, []), (38, 11, 0, 5, 121, 0, [77, 3]), (41, 9, 0, 0, 0, 0, [])]
theorem k_M_granted : okP s_M_granted p_M_granted := okP_of _ (by decide +kernel) (WS_places [726, 727, 67, 728, 729, 867, 869, 40, 67, 870, 743, 743, 783, 785, 28, 67, 786] (by decide +kernel) (by decide +kernel)) (nest_places [] (by decide +kernel))
def p_M_demanded : List PI := [(0, 1, 0, 1, 0, 0, []), (1, 5, 2, 13, 0, 0, []), (4, 1, 0, 2, 0, 0, []), (5, 0, 0, 0, 0, 0, []), (6, 0, 0, 0, 0, 4, []), (7, 11, 1, 0, 101, 0, [28, 3]), (10, 5, 1, 16, 0, 0, []), (13, 0, 0, 37, 3, -1000000, []), (15, 9, 0, 0, 0, 0, []), (16, 1, 0, 1, 0, 0, []), (17, 1, 1, 0, 0, 0, []), (18, 8, 1, 5, 0, 0, [7]), (21, 0, 0, 0, 2, 449, []), (24, 8, 4, 0, 0, 0, []), (25, 4, 3, 37, 0, 0, []), (28, 1, 1, 0, 0, 0, []), (29, 1, 0, 1, 0, 0, []), (30, 1, 0, 2, 0, 0, []), (31, 11, 0, 5, 122, 0, [97, 3]), (34, 6, 0, 39, 0, 0, []), (37, 0, 0, 52, 3, -1000003, []), (39, 9, 0, 0, 0, 0, [])]
theorem k_M_demanded : okP s_M_demanded p_M_demanded := okP_of _ (by decide +kernel) (WS_places [726, 727, 67, 728, 729, 683, 827, 829, 33, 67, 830, 743] (by decide +kernel) (by decide +kernel)) (nest_places [] (by decide +kernel))
def p_M_plans : List PI := [(0, 1, 1, 0, 0, 0, []), (1, 11, 0, 5, 109, 0, [163, 1]), (4, 0, 0, 0, 0, 0, []), (5, 1, 3, 1, 0, 0, []), (6, 1, 1, 0, 0, 0, []), (7, 11, 0, 5, 138, 0, [116, 1]), (10, 1, 3, 2, 0, 0, []), (11, 1, 0, 2, 0, 0, []), (12, 0, 0, 52, 3, -1000003, []), (14, 4, 0, 52, 0, 0, []), (17, 1, 1, 0, 0, 0, []), (18, 8, 1, 5, 0, 0, [7]), (21, 0, 0, 0, 2, 448, []), (24, 8, 4, 0, 0, 0, []), (25, 0, 0, 0, 1, 40, []), (27, 4, 3, 52, 0, 0, []), (30, 1, 1, 0, 0, 0, []), (31, 8, 1, 5, 9, 0, [25]), (34, 1, 0, 1, 0, 0, []), (35, 1, 1, 0, 0, 0, []), (36, 1, 0, 2, 0, 0, []), (37, 11, 0, 5, 139, 0, [119, 2]), (40, 10, 4, 0, 0, 0, []), (41, 1, 6, 1, 0, 1, []), (44, 1, 1, 0, 0, 0, []), (45, 11, 0, 5, 138, 0, [116, 1]), (48, 1, 3, 2, 0, 0, []), (49, 6, 0, 11, 0, 0, []), (52, 1, 1, 0, 0, 0, []), (53, 11, 0, 5, 110, 0, [166, 1]), (56, 1, 0, 1, 0, 0, []), (57, 9, 0, 0, 0, 0, [])]
theorem k_M_plans : okP s_M_plans p_M_plans := okP_of _ (by decide +kernel) (WS_places [962, 964, 53, 67, 965, 839, 841, 35, 67, 842, 743, 683, 692, 855, 857, 39, 67, 858, 839, 841, 35, 67, 842, 966, 968, 54, 67, 969] (by decide +kernel) (by decide +kernel)) (nest_places [] (by decide +kernel))
def p_M_plan : List PI := [(0, 1, 0, 1, 0, 0, []), (1, 0, 0, 0, 0, -1, []), (2, 4, 3, 8, 0, 0, []), (5, 0, 0, 37, 3, -1000000, []), (7, 9, 0, 0, 0, 0, []), (8, 1, 1, 0, 0, 0, []), (9, 11, 0, 5, 161, 0, [169, 1]), (12, 1, 3, 2, 0, 0, []), (13, 1, 0, 1, 0, 0, []), (14, 0, 0, 0, 0, -1, []), (15, 4, 1, 22, 0, 0, []), (18, 1, 0, 2, 0, 0, []), (19, 6, 0, 38, 0, 0, []), (22, 1, 0, 1, 0, 0, []), (23, 1, 0, 2, 0, 0, []), (24, 4, 3, 36, 0, 0, []), (27, 1, 1, 0, 0, 0, []), (28, 8, 1, 5, 9, 0, [25]), (31, 1, 0, 1, 0, 0, []), (32, 8, 4, 0, 0, 0, []), (33, 6, 0, 38, 0, 0, []), (36, 0, 0, 52, 3, -1000003, []), (38, 9, 0, 0, 0, 0, [])]
theorem k_M_plan : okP s_M_plan p_M_plan := okP_of _ (by decide +kernel) (WS_places [729, 958, 960, 52, 67, 961, 692, 743] (by decide +kernel) (by decide +kernel)) (nest_places [] (by decide +kernel))
def p_M_worthOf : List PI := [(0, 0, 0, 0, 0, 0, []), (1, 1, 3, 3, 0, 0, []), (2, 0, 0, 0, 0, 0, []), (3, 1, 3, 4, 0, 0, []), (5, 1, 0, 4, 0, 0, []), (7, 0, 0, 0, 0, 4, []), (8, 4, 3, 77, 0, 0, []), (11, 1, 1, 0, 0, 0, []), (12, 1, 0, 1, 0, 0, []), (13, 1, 0, 4, 0, 0, []), (15, 11, 0, 5, 126, 0, [107, 3]), (18, 1, 1, 0, 0, 0, []), (19, 1, 0, 1, 0, 0, []), (20, 0, 0, 0, 0, 4, []), (21, 1, 0, 4, 0, 0, []), (23, 2, 0, 0, 0, 0, []), (24, 11, 0, 5, 105, 0, [84, 3]), (27, 1, 1, 0, 0, 0, []), (28, 1, 0, 1, 0, 0, []), (29, 0, 0, 0, 1, 8, []), (31, 1, 0, 4, 0, 0, []), (33, 2, 0, 0, 0, 0, []), (34, 11, 0, 5, 105, 0, [84, 3]), (37, 2, 1, 0, 0, 0, []), (38, 11, 1, 0, 102, 0, [128, 2]), (41, 1, 3, 5, 0, 0, []), (43, 1, 0, 3, 0, 0, []), (44, 1, 0, 4, 0, 0, []), (46, 1, 0, 2, 0, 0, []), (47, 4, 1, 54, 0, 0, []), (50, 0, 0, 0, 0, 0, []), (51, 6, 0, 69, 0, 0, []), (54, 1, 0, 5, 0, 0, []), (56, 1, 1, 0, 0, 0, []), (57, 1, 0, 4, 0, 0, []), (59, 11, 0, 5, 124, 0, [131, 2]), (62, 2, 2, 0, 0, 0, []), (63, 1, 1, 0, 0, 0, []), (64, 1, 0, 2, 0, 0, []), (65, 11, 0, 5, 124, 0, [131, 2]), (68, 2, 3, 0, 0, 0, []), (69, 2, 0, 0, 0, 0, []), (70, 1, 3, 3, 0, 0, []), (71, 1, 6, 4, 0, 1, []), (74, 6, 0, 5, 0, 0, []), (77, 1, 0, 3, 0, 0, []), (78, 9, 0, 0, 0, 0, [])]
theorem k_M_worthOf : okP s_M_worthOf p_M_worthOf := okP_of _ (by decide +kernel) (WS_places [847, 849, 37, 67, 850, 807, 809, 31, 67, 810, 807, 809, 31, 67, 810, 891, 892, 67, 893, 879, 881, 42, 67, 882, 879, 881, 42, 67, 882] (by decide +kernel) (by decide +kernel)) (nest_places [] (by decide +kernel))
def p_M_worth : List PI := [(0, 1, 1, 0, 0, 0, []), (1, 1, 0, 1, 0, 0, []), (2, 11, 0, 5, 104, 0, [94, 2]), (5, 5, 0, 24, 0, 0, []), (8, 1, 0, 2, 0, 0, []), (9, 11, 1, 0, 103, 0, [87, 1]), (12, 5, 0, 24, 0, 0, []), (15, 1, 1, 0, 0, 0, []), (16, 1, 0, 1, 0, 0, []), (17, 1, 0, 2, 0, 0, []), (18, 11, 0, 5, 163, 0, [172, 3]), (21, 6, 0, 26, 0, 0, []), (24, 0, 0, 37, 3, -1000000, []), (26, 9, 0, 0, 0, 0, [])]
theorem k_M_worth : okP s_M_worth p_M_worth := okP_of _ (by decide +kernel) (WS_places [803, 805, 30, 67, 806, 776, 777, 67, 778, 974, 976, 55, 67, 977, 729] (by decide +kernel) (by decide +kernel)) (nest_places [] (by decide +kernel))
def p_M_hasFailed : List PI := [(0, 1, 1, 0, 0, 0, []), (1, 1, 0, 1, 0, 0, []), (2, 0, 0, 0, 0, 2, []), (3, 11, 0, 5, 105, 0, [84, 3]), (6, 1, 1, 0, 0, 0, []), (7, 8, 1, 5, 2, 0, [16]), (10, 0, 0, 0, 1, 8, []), (12, 0, 0, 0, 1, 12, []), (14, 1, 0, 1, 0, 0, []), (15, 2, 2, 0, 0, 0, []), (16, 2, 0, 0, 0, 0, []), (17, 0, 0, 0, 0, 2, []), (18, 2, 0, 0, 0, 0, []), (19, 8, 4, 0, 0, 0, []), (20, 4, 0, 27, 0, 0, []), (23, 0, 0, 0, 0, 1, []), (24, 6, 0, 28, 0, 0, []), (27, 0, 0, 0, 0, 0, []), (28, 9, 1, 0, 0, 0, [])]
theorem k_M_hasFailed : okP s_M_hasFailed p_M_hasFailed := okP_of _ (by decide +kernel) (WS_places [807, 809, 31, 67, 810, 685] (by decide +kernel) (by decide +kernel)) (nest_places [] (by decide +kernel))
def p_M_ruinOf : List PI := [(0, 1, 1, 0, 0, 0, []), (1, 11, 0, 5, 109, 0, [163, 1]), (4, 0, 0, 0, 0, 0, []), (5, 1, 3, 2, 0, 0, []), (6, 1, 0, 2, 0, 0, []), (7, 0, 0, 0, 2, 200, []), (10, 4, 3, 41, 0, 0, []), (13, 1, 1, 0, 0, 0, []), (14, 1, 0, 1, 0, 0, []), (15, 0, 0, 0, 0, 3, []), (16, 11, 0, 5, 105, 0, [84, 3]), (19, 0, 0, 0, 0, 1, []), (20, 4, 1, 41, 0, 0, []), (23, 1, 1, 0, 0, 0, []), (24, 1, 0, 1, 0, 0, []), (25, 11, 0, 5, 165, 0, [175, 2]), (28, 5, 1, 41, 0, 0, []), (31, 1, 1, 0, 0, 0, []), (32, 11, 0, 5, 150, 0, [148, 1]), (35, 1, 6, 2, 0, 1, []), (38, 6, 0, 6, 0, 0, []), (41, 1, 1, 0, 0, 0, []), (42, 1, 0, 1, 0, 0, []), (43, 11, 0, 5, 165, 0, [175, 2]), (46, 1, 3, 3, 0, 0, []), (47, 1, 1, 0, 0, 0, []), (48, 11, 0, 5, 110, 0, [166, 1]), (51, 1, 0, 3, 0, 0, []), (52, 5, 0, 59, 0, 0, []), (55, 1, 0, 2, 0, 0, []), (56, 6, 0, 61, 0, 0, []), (59, 0, 0, 52, 3, -1000003, []), (61, 9, 0, 0, 0, 0, [])]
theorem k_M_ruinOf : okP s_M_ruinOf p_M_ruinOf := okP_of _ (by decide +kernel) (WS_places [962, 964, 53, 67, 965, 807, 809, 31, 67, 810, 986, 988, 57, 67, 989, 910, 912, 46, 67, 913, 986, 988, 57, 67, 989, 966, 968, 54, 67, 969, 743] (by decide +kernel) (by decide +kernel)) (nest_places [] (by decide +kernel))
def p_M_ruin : List PI := [(0, 1, 1, 0, 0, 0, []), (1, 1, 0, 1, 0, 0, []), (2, 11, 0, 5, 104, 0, [94, 2]), (5, 5, 1, 11, 0, 0, []), (8, 0, 0, 37, 3, -1000000, []), (10, 9, 0, 0, 0, 0, []), (11, 1, 1, 0, 0, 0, []), (12, 1, 0, 1, 0, 0, []), (13, 0, 0, 0, 0, 3, []), (14, 11, 0, 5, 105, 0, [84, 3]), (17, 5, 1, 24, 0, 0, []), (20, 0, 0, 0, 0, 0, []), (21, 6, 0, 29, 0, 0, []), (24, 1, 1, 0, 0, 0, []), (25, 1, 0, 1, 0, 0, []), (26, 11, 0, 5, 166, 0, [178, 2]), (29, 9, 0, 0, 0, 0, [])]
theorem k_M_ruin : okP s_M_ruin p_M_ruin := okP_of _ (by decide +kernel) (WS_places [803, 805, 30, 67, 806, 729, 807, 809, 31, 67, 810, 982, 984, 56, 67, 985] (by decide +kernel) (by decide +kernel)) (nest_places [] (by decide +kernel))
def p_M_count : List PI := [(0, 1, 0, 1, 0, 0, []), (1, 6, 1, 138, 55, 0, [56, 65, 74, 83, 92, 101, 110, 119, 128, 133]), (56, 1, 1, 0, 0, 0, []), (57, 8, 1, 5, 0, 0, [7]), (60, 0, 0, 0, 2, 446, []), (63, 8, 4, 0, 0, 0, []), (64, 9, 0, 0, 0, 0, []), (65, 1, 1, 0, 0, 0, []), (66, 8, 1, 5, 0, 0, [7]), (69, 0, 0, 0, 2, 447, []), (72, 8, 4, 0, 0, 0, []), (73, 9, 0, 0, 0, 0, []), (74, 1, 1, 0, 0, 0, []), (75, 8, 1, 5, 0, 0, [7]), (78, 0, 0, 0, 2, 448, []), (81, 8, 4, 0, 0, 0, []), (82, 9, 0, 0, 0, 0, []), (83, 1, 1, 0, 0, 0, []), (84, 8, 1, 5, 0, 0, [7]), (87, 0, 0, 0, 2, 449, []), (90, 8, 4, 0, 0, 0, []), (91, 9, 0, 0, 0, 0, []), (92, 1, 1, 0, 0, 0, []), (93, 8, 1, 5, 0, 0, [7]), (96, 0, 0, 0, 2, 450, []), (99, 8, 4, 0, 0, 0, []), (100, 9, 0, 0, 0, 0, []), (101, 1, 1, 0, 0, 0, []), (102, 8, 1, 5, 0, 0, [7]), (105, 0, 0, 0, 2, 451, []), (108, 8, 4, 0, 0, 0, []), (109, 9, 0, 0, 0, 0, []), (110, 1, 1, 0, 0, 0, []), (111, 8, 1, 5, 0, 0, [7]), (114, 0, 0, 0, 2, 452, []), (117, 8, 4, 0, 0, 0, []), (118, 9, 0, 0, 0, 0, []), (119, 1, 1, 0, 0, 0, []), (120, 8, 1, 5, 0, 0, [7]), (123, 0, 0, 0, 2, 453, []), (126, 8, 4, 0, 0, 0, []), (127, 9, 0, 0, 0, 0, []), (128, 1, 1, 0, 0, 0, []), (129, 8, 0, 5, 3, 0, [32]), (132, 9, 0, 0, 0, 0, []), (133, 1, 1, 0, 0, 0, []), (134, 8, 0, 5, 5, 0, [38]), (137, 9, 0, 0, 0, 0, []), (138, 0, 0, 37, 3, -1000000, []), (140, 9, 0, 0, 0, 0, [])]
theorem k_M_count : okP s_M_count p_M_count := okP_of _ (by decide +kernel) (WS_places [683, 683, 683, 683, 683, 683, 683, 683, 686, 688, 729] (by decide +kernel) (by decide +kernel)) (nest_places [] (by decide +kernel))
def p_M_mixes : List PI := [(0, 1, 1, 0, 0, 0, []), (1, 0, 1, 181, 0, 0, []), (4, 1, 1, 0, 0, 0, []), (5, 8, 3, 5, 10, 0, [183]), (8, 3, 2, 0, 0, 0, []), (9, 1, 0, 1, 0, 0, []), (10, 3, 0, 0, 0, 0, []), (11, 3, 1, 0, 0, 0, []), (12, 10, 3, 5, 10, 0, [183]), (15, 9, 5, 0, 0, 0, [])]
theorem k_M_mixes : okP s_M_mixes p_M_mixes := okP_of _ (by decide +kernel) (WS_places [1004, 693, 693] (by decide +kernel) (by decide +kernel)) (nest_places [] (by decide +kernel))
def p_M_mixesTenant : List PI := [(0, 0, 0, 0, 0, 0, []), (1, 1, 3, 2, 0, 0, []), (2, 1, 0, 2, 0, 0, []), (3, 0, 0, 0, 1, 8, []), (5, 4, 3, 24, 0, 0, []), (8, 1, 1, 0, 0, 0, []), (9, 1, 1, 0, 0, 0, []), (10, 1, 0, 1, 0, 0, []), (11, 1, 0, 2, 0, 0, []), (12, 11, 0, 5, 157, 0, [187, 3]), (15, 11, 0, 5, 169, 0, [190, 2]), (18, 1, 6, 2, 0, 1, []), (21, 6, 0, 2, 0, 0, []), (24, 0, 0, 0, 0, 0, []), (25, 1, 3, 2, 0, 0, []), (26, 1, 0, 2, 0, 0, []), (27, 0, 0, 0, 0, 4, []), (28, 4, 3, 71, 0, 0, []), (31, 0, 0, 0, 0, 0, []), (32, 1, 3, 3, 0, 0, []), (33, 1, 0, 3, 0, 0, []), (34, 0, 0, 0, 0, 4, []), (35, 4, 3, 55, 0, 0, []), (38, 1, 1, 0, 0, 0, []), (39, 1, 1, 0, 0, 0, []), (40, 1, 0, 1, 0, 0, []), (41, 1, 0, 2, 0, 0, []), (42, 1, 0, 3, 0, 0, []), (43, 11, 0, 5, 158, 0, [193, 4]), (46, 11, 0, 5, 169, 0, [190, 2]), (49, 1, 6, 3, 0, 1, []), (52, 6, 0, 33, 0, 0, []), (55, 1, 1, 0, 0, 0, []), (56, 1, 1, 0, 0, 0, []), (57, 1, 0, 1, 0, 0, []), (58, 1, 0, 2, 0, 0, []), (59, 11, 0, 5, 163, 0, [172, 3]), (62, 11, 0, 5, 169, 0, [190, 2]), (65, 1, 6, 2, 0, 1, []), (68, 6, 0, 26, 0, 0, []), (71, 1, 1, 0, 0, 0, []), (72, 1, 1, 0, 0, 0, []), (73, 1, 0, 1, 0, 0, []), (74, 11, 0, 5, 167, 0, [197, 2]), (77, 11, 0, 5, 169, 0, [190, 2]), (80, 9, 5, 0, 0, 0, [])]
theorem k_M_mixesTenant : okP s_M_mixesTenant p_M_mixesTenant := okP_of _ (by decide +kernel) (WS_places [1010, 927, 928, 67, 929, 1000, 1002, 58, 67, 1003, 1011, 943, 944, 67, 945, 1000, 1002, 58, 67, 1003, 974, 976, 55, 67, 977, 1000, 1002, 58, 67, 1003, 1012, 979, 980, 67, 981, 1000, 1002, 58, 67, 1003] (by decide +kernel) (by decide +kernel)) (nest_places [] (by decide +kernel))
def p_M_digest : List PI := [(0, 1, 1, 0, 0, 0, []), (1, 0, 5, 200, 0, 0, []), (4, 10, 3, 5, 10, 0, [183]), (7, 0, 0, 0, 0, 0, []), (8, 1, 3, 1, 0, 0, []), (9, 1, 0, 1, 0, 0, []), (10, 0, 0, 0, 1, 10, []), (12, 4, 3, 30, 0, 0, []), (15, 1, 1, 0, 0, 0, []), (16, 1, 1, 0, 0, 0, []), (17, 1, 0, 1, 0, 0, []), (18, 11, 0, 5, 168, 0, [202, 2]), (21, 11, 0, 5, 169, 0, [190, 2]), (24, 1, 6, 1, 0, 1, []), (27, 6, 0, 9, 0, 0, []), (30, 0, 0, 0, 0, 0, []), (31, 1, 3, 1, 0, 0, []), (32, 1, 0, 1, 0, 0, []), (33, 0, 0, 0, 1, 24, []), (35, 4, 3, 60, 0, 0, []), (38, 1, 1, 0, 0, 0, []), (39, 1, 1, 0, 0, 0, []), (40, 1, 0, 1, 0, 0, []), (41, 0, 0, 0, 1, 6, []), (43, 2, 3, 0, 0, 0, []), (44, 1, 0, 1, 0, 0, []), (45, 0, 0, 0, 1, 6, []), (47, 2, 4, 0, 0, 0, []), (48, 11, 0, 5, 153, 0, [205, 3]), (51, 11, 0, 5, 169, 0, [190, 2]), (54, 1, 6, 1, 0, 1, []), (57, 6, 0, 32, 0, 0, []), (60, 0, 0, 0, 0, 0, []), (61, 1, 3, 1, 0, 0, []), (62, 1, 0, 1, 0, 0, []), (63, 1, 1, 0, 0, 0, []), (64, 8, 1, 5, 0, 0, [7]), (67, 0, 0, 0, 2, 447, []), (70, 8, 4, 0, 0, 0, []), (71, 4, 3, 85, 0, 0, []), (74, 1, 1, 0, 0, 0, []), (75, 1, 0, 1, 0, 0, []), (76, 11, 0, 5, 170, 0, [208, 2]), (79, 1, 6, 1, 0, 1, []), (82, 6, 0, 62, 0, 0, []), (85, 0, 0, 0, 0, 0, []), (86, 1, 3, 1, 0, 0, []), (87, 1, 0, 1, 0, 0, []), (88, 0, 0, 0, 1, 6, []), (90, 1, 1, 0, 0, 0, []), (91, 8, 1, 5, 0, 0, [7]), (94, 0, 0, 0, 2, 448, []), (97, 8, 4, 0, 0, 0, []), (98, 2, 2, 0, 0, 0, []), (99, 4, 3, 121, 0, 0, []), (102, 1, 1, 0, 0, 0, []), (103, 1, 1, 0, 0, 0, []), (104, 8, 1, 5, 0, 0, [7]), (107, 0, 0, 0, 1, 80, []), (109, 1, 0, 1, 0, 0, []), (110, 2, 0, 0, 0, 0, []), (111, 8, 4, 0, 0, 0, []), (112, 11, 0, 5, 169, 0, [190, 2]), (115, 1, 6, 1, 0, 1, []), (118, 6, 0, 87, 0, 0, []), (121, 0, 0, 0, 0, 0, []), (122, 1, 3, 1, 0, 0, []), (123, 1, 0, 1, 0, 0, []), (124, 0, 0, 0, 0, 5, []), (125, 1, 1, 0, 0, 0, []), (126, 8, 1, 5, 0, 0, [7]), (129, 0, 0, 0, 2, 449, []), (132, 8, 4, 0, 0, 0, []), (133, 2, 2, 0, 0, 0, []), (134, 4, 3, 157, 0, 0, []), (137, 1, 1, 0, 0, 0, []), (138, 1, 1, 0, 0, 0, []), (139, 8, 1, 5, 0, 0, [7]), (142, 0, 0, 0, 2, 320, []), (145, 1, 0, 1, 0, 0, []), (146, 2, 0, 0, 0, 0, []), (147, 8, 4, 0, 0, 0, []), (148, 11, 0, 5, 169, 0, [190, 2]), (151, 1, 6, 1, 0, 1, []), (154, 6, 0, 123, 0, 0, []), (157, 1, 1, 0, 0, 0, []), (158, 11, 0, 5, 161, 0, [169, 1]), (161, 1, 3, 1, 0, 0, []), (162, 1, 1, 0, 0, 0, []), (163, 1, 0, 1, 0, 0, []), (164, 11, 0, 5, 169, 0, [190, 2]), (167, 0, 0, 0, 0, 0, []), (168, 1, 3, 2, 0, 0, []), (169, 1, 0, 2, 0, 0, []), (170, 1, 0, 1, 0, 0, []), (171, 4, 3, 190, 0, 0, []), (174, 1, 1, 0, 0, 0, []), (175, 1, 1, 0, 0, 0, []), (176, 8, 1, 5, 9, 0, [25]), (179, 1, 0, 2, 0, 0, []), (180, 8, 4, 0, 0, 0, []), (181, 11, 0, 5, 169, 0, [190, 2]), (184, 1, 6, 2, 0, 1, []), (187, 6, 0, 169, 0, 0, []), (190, 0, 0, 0, 0, 0, []), (191, 1, 3, 2, 0, 0, []), (192, 1, 0, 2, 0, 0, []), (193, 1, 1, 0, 0, 0, []), (194, 8, 0, 5, 5, 0, [38]), (197, 4, 3, 216, 0, 0, []), (200, 1, 1, 0, 0, 0, []), (201, 1, 1, 0, 0, 0, []), (202, 8, 1, 5, 4, 0, [19]), (205, 1, 0, 2, 0, 0, []), (206, 8, 4, 0, 0, 0, []), (207, 11, 0, 5, 169, 0, [190, 2]), (210, 1, 6, 2, 0, 1, []), (213, 6, 0, 192, 0, 0, []), (216, 1, 1, 0, 0, 0, []), (217, 8, 3, 5, 10, 0, [183]), (220, 9, 3, 0, 0, 0, [])]
theorem k_M_digest : okP s_M_digest p_M_digest := okP_of _ (by decide +kernel) (WS_places [998, 693, 999, 991, 992, 67, 993, 1000, 1002, 58, 67, 1003, 1005, 919, 920, 67, 921, 1000, 1002, 58, 67, 1003, 683, 1006, 1008, 59, 67, 1009, 683, 683, 1000, 1002, 58, 67, 1003, 683, 683, 1000, 1002, 58, 67, 1003, 958, 960, 52, 67, 961, 1000, 1002, 58, 67, 1003, 692, 1000, 1002, 58, 67, 1003, 688, 687, 1000, 1002, 58, 67, 1003, 693] (by decide +kernel) (by decide +kernel)) (nest_places [] (by decide +kernel))
end
section
/-! ===== how a method is shown ===== -/
def ex (r0 : Option Value) (M0 : Mem) : Option Value → Mem → Prop := fun r M' => r = r0 ∧ M' = M0
noncomputable def bv (p : Prop) : Int32 := @ite _ p (Classical.propDecidable p) 1 0
theorem bv_T {p : Prop} (h : p) : bv p = 1 := by unfold bv; rw [if_pos h]
theorem bv_F {p : Prop} (h : ¬ p) : bv p = 0 := by unfold bv; rw [if_neg h]
theorem bv_01 (p : Prop) : (bv p = 0 ∨ bv p = 1) = True := by
  by_cases h : p
  · rw [bv_T h]; simp
  · rw [bv_F h]; simp
theorem bv_0 (p : Prop) : (bv p = 0) = ¬ p := by
  by_cases h : p
  · rw [bv_T h]; simp [h]
  · rw [bv_F h]; simp [h]
theorem bv_i (p : Prop) [Decidable p] : (if p then (1 : Int32) else 0) = bv p := by
  by_cases h : p
  · rw [bv_T h, if_pos h]
  · rw [bv_F h, if_neg h]
theorem bv_c {p q : Prop} (h : p ↔ q) : bv p = bv q := by rw [propext h]
theorem Gm_run {Z : Zt} {d : Nat} {sg : Sig} {av : List Value} {M : Mem} {Q : Option Value → Mem → Prop} {C : List (Nat × Ent)} {S : List Nat} {P r : List PI} {x : Ins} (lv : List (Option Value)) (f : Nat) (hP : okP sg P) (hC : ∀ q ∈ C, okE Z d q.1 q.2) (hQ : ∀ r M', Q r M' → mN M' = mN M)
    (h : run Z (mN M) C S (fun pc lv st M' => X Z (d + 1) sg (mN M) (mN M) Q pc lv st M') Q f P lv [] M) (hx : P = (0, x) :: r := by rfl) (hy : plainName sg.1.cls = true := by decide) (hl : lv = argL av ++ List.replicate (sg.2.2.1 - (argL av).length) none := by rfl) (hn : Nat.ble (argL av).length sg.2.2.1 = true := by rfl) : Gm Z (d + 1) sg av M Q := by
  refine Gm_of hy hl (Nat.le_of_ble_eq_true hn) (Nat.le_refl _) hQ ?_
  exact run_X hC f P lv [] M hP h (0, x) r hx
theorem X_run {Z : Zt} {d : Nat} {sg : Sig} {n0 nF : Nat} {M : Mem} {Q : Option Value → Mem → Prop} {C : List (Nat × Ent)} {S : List Nat} {P r : List PI} {x : Ins} {lv : List (Option Value)} {st : List Value} {pc : Nat} (f : Nat) (hP : okP sg P) (hC : ∀ q ∈ C, okE Z d q.1 q.2)
    (h : run Z nF C S (fun pc lv st M' => X Z (d + 1) sg n0 nF Q pc lv st M') Q f (seek pc P) lv st M) (hx : seek pc P = (pc, x) :: r := by rfl) : X Z (d + 1) sg n0 nF Q pc lv st M := by
  exact run_X hC f _ lv st M (okP_seek pc P hP) h (pc, x) r hx
theorem ex_n {r0 : Option Value} {M0 M : Mem} (h : mN M0 = mN M) : ∀ r M', ex r0 M0 r M' → mN M' = mN M := fun _ _ q => by rw [q.2]; exact h
theorem ex_i (r0 : Option Value) (M0 : Mem) : ex r0 M0 r0 M0 := ⟨rfl, rfl⟩
theorem ex_iff (r0 : Option Value) (M0 : Mem) (r : Option Value) (M : Mem) : ex r0 M0 r M = (r = r0 ∧ M = M0) := rfl
theorem pcall_ex {e : Ent} {av : List Value} {M M0 : Mem} {K : Option Value → Mem → Prop} {r0 : Option Value} (h1 : e.1 av M) (h2 : e.2 av M = ex r0 M0) : pcall e av M K = K r0 M0 := by
  unfold pcall
  rw [h2]
  exact propext ⟨fun h => h.2 r0 M0 ⟨rfl, rfl⟩, fun h => ⟨h1, fun r M' q => by rw [q.1, q.2]; exact h⟩⟩
theorem okE_nil {Z : Zt} {d : Nat} : ∀ q ∈ ([] : List (Nat × Ent)), okE Z d q.1 q.2 := fun _ h => absurd h List.not_mem_nil
theorem okE_cons {Z : Zt} {d : Nat} {k : Nat} {e : Ent} {C : List (Nat × Ent)} (h : okE Z d k e) (hC : ∀ q ∈ C, okE Z d q.1 q.2) : ∀ q ∈ (k, e) :: C, okE Z d q.1 q.2 := List.forall_mem_cons.mpr ⟨h, hC⟩
/-! the memory's numbers changed as a whole -/
def mW (M : Mem) (f : Nat → Nat → Int32) : Mem := (M.1, f, M.2.2.1, M.2.2.2)
theorem mR_stI (M : Mem) (a k : Nat) (v : Int32) : mR (stI M a k v) = mR M := rfl
theorem mN_stI (M : Mem) (a k : Nat) (v : Int32) : mN (stI M a k v) = mN M := rfl
theorem isO_stI (M : Mem) (a k : Nat) (v : Int32) : isO (stI M a k v) = isO M := rfl
theorem isA_stI (M : Mem) (a k : Nat) (v : Int32) : isA (stI M a k v) = isA M := rfl
theorem mI_stI (M : Mem) (a k : Nat) (v : Int32) : mI (stI M a k v) = u2 (mI M) a k v := rfl
theorem mR_mW (M : Mem) (f : Nat → Nat → Int32) : mR (mW M f) = mR M := rfl
theorem mL_mW (M : Mem) (f : Nat → Nat → Int32) : mL (mW M f) = mL M := rfl
theorem mN_mW (M : Mem) (f : Nat → Nat → Int32) : mN (mW M f) = mN M := rfl
theorem isO_mW (M : Mem) (f : Nat → Nat → Int32) : isO (mW M f) = isO M := rfl
theorem isA_mW (M : Mem) (f : Nat → Nat → Int32) : isA (mW M f) = isA M := rfl
theorem mI_mW (M : Mem) (f : Nat → Nat → Int32) : mI (mW M f) = f := rfl
theorem mW_mW (M : Mem) (f g : Nat → Nat → Int32) : mW (mW M f) g = mW M g := rfl
theorem stI_mW (M : Mem) (a k : Nat) (v : Int32) : stI M a k v = mW M (u2 (mI M) a k v) := rfl
theorem mW_self (M : Mem) : mW M (mI M) = M := rfl
theorem cpI_mW (M : Mem) (a sp b dp n : Nat) : cpI M a sp b dp n = mW M (fun x y => if x = b ∧ dp ≤ y ∧ y < dp + n then mI M a (sp + (y - dp)) else mI M x y) := rfl
theorem u2_at {α : Type} (f : Nat → Nat → α) (a k : Nat) (v : α) (x y : Nat) : u2 f a k v x y = if x = a ∧ y = k then v else f x y := rfl
theorem u2_ne {α : Type} {f : Nat → Nat → α} {a k : Nat} {v : α} {x y : Nat} (h : x ≠ a) : u2 f a k v x y = f x y := by unfold u2; rw [if_neg (fun q => h q.1)]
theorem u2_ne2 {α : Type} {f : Nat → Nat → α} {a k : Nat} {v : α} {x y : Nat} (h : y ≠ k) : u2 f a k v x y = f x y := by unfold u2; rw [if_neg (fun q => h q.2)]
theorem u2_eq {α : Type} {f : Nat → Nat → α} {a k : Nat} {v : α} : u2 f a k v a k = v := by unfold u2; rw [if_pos ⟨rfl, rfl⟩]
/-! small numbers -/
theorem nI_L (n : Nat) : (OfNat.ofNat n : Int32) = nI n := rfl
theorem nI_addL (a n : Nat) : nI a + (no_index (OfNat.ofNat n : Int32)) = nI (a + (OfNat.ofNat n : Nat)) := nI_add a n
theorem nI_Ladd (a n : Nat) : (no_index (OfNat.ofNat n : Int32)) + nI a = nI ((OfNat.ofNat n : Nat) + a) := nI_add n a
theorem nI_mulL (a n : Nat) : nI a * (no_index (OfNat.ofNat n : Int32)) = nI (a * (OfNat.ofNat n : Nat)) := pk_mul a n
theorem nI_Lmul (a n : Nat) : (no_index (OfNat.ofNat n : Int32)) * nI a = nI ((OfNat.ofNat n : Nat) * a) := pk_mul n a
theorem nI_subL {a n : Nat} (h : (OfNat.ofNat n : Nat) ≤ a) : nI a - (no_index (OfNat.ofNat n : Int32)) = nI (a - (OfNat.ofNat n : Nat)) := pk_sub h
theorem nI_ltL {a n : Nat} (ha : a < 2 ^ 31) (hn : (OfNat.ofNat n : Nat) < 2 ^ 31) : (nI a < (no_index (OfNat.ofNat n : Int32))) = (a < (OfNat.ofNat n : Nat)) := propext (nI_ltI ha hn)
theorem nI_leL {a n : Nat} (ha : a < 2 ^ 31) (hn : (OfNat.ofNat n : Nat) < 2 ^ 31) : (nI a ≤ (no_index (OfNat.ofNat n : Int32))) = (a ≤ (OfNat.ofNat n : Nat)) := propext (nI_leI ha hn)
theorem nI_Llt {a n : Nat} (ha : a < 2 ^ 31) (hn : (OfNat.ofNat n : Nat) < 2 ^ 31) : ((no_index (OfNat.ofNat n : Int32)) < nI a) = ((OfNat.ofNat n : Nat) < a) := propext (nI_ltI hn ha)
theorem nI_Lle {a n : Nat} (ha : a < 2 ^ 31) (hn : (OfNat.ofNat n : Nat) < 2 ^ 31) : ((no_index (OfNat.ofNat n : Int32)) ≤ nI a) = ((OfNat.ofNat n : Nat) ≤ a) := propext (nI_leI hn ha)
theorem nI_eqL {a n : Nat} (ha : a < 2 ^ 31) (hn : (OfNat.ofNat n : Nat) < 2 ^ 31) : (nI a = (no_index (OfNat.ofNat n : Int32))) = (a = (OfNat.ofNat n : Nat)) := propext (nI_eq ha hn)
theorem nI_Leq {a n : Nat} (ha : a < 2 ^ 31) (hn : (OfNat.ofNat n : Nat) < 2 ^ 31) : ((no_index (OfNat.ofNat n : Int32)) = nI a) = ((OfNat.ofNat n : Nat) = a) := propext (nI_eq hn ha)
theorem vpi {k N : Nat} (h : k < N) (hN : N < 2 ^ 31) : vp_in (nI k) N = True := eq_true (vp_in_nI h hN)
theorem nI_toN {k : Nat} (h : k < 2 ^ 31) : (nI k).toNatClampNeg = k := nI_clamp h
theorem litN (n : Nat) (h : (OfNat.ofNat n : Nat) < 2 ^ 31) : ((no_index (OfNat.ofNat n : Int32))).toNatClampNeg = (OfNat.ofNat n : Nat) := nI_clamp h
theorem fa_lt' (a b : Int32) : (a < b) = (a.toInt < b.toInt) := propext Int32.lt_iff_toInt_lt
theorem fa_le' (a b : Int32) : (a ≤ b) = (a.toInt ≤ b.toInt) := propext Int32.le_iff_toInt_le
theorem fa_eq' (a b : Int32) : (a = b) = (a.toInt = b.toInt) := propext Int32.toInt_inj.symm
theorem nI_neg1 {k : Nat} (h : k < 2 ^ 31) : (nI k < -1) = False := by
  apply eq_false
  rw [fa_lt', nI_toInt h]
  have : (-1 : Int32).toInt = -1 := by decide
  omega
end
section
/-! ===== the bank's static methods ===== -/
def e_B_within : Ent := (fun av M => ∃ (a : Int32) (b : Int32) (c : Int32), av = [.int a, .int b, .int c] ∧ (True), fun av M r_ M_ => ∀ (a : Int32) (b : Int32) (c : Int32), av = [.int a, .int b, .int c] → r_ = (some (.int (bv (b ≤ a ∧ a ≤ c)))) ∧ M_ = (M))
theorem pc_B_within {a : Int32} {b : Int32} {c : Int32} {M : Mem} {K : Option Value → Mem → Prop} (hp : True) : pcall e_B_within [.int a, .int b, .int c] M K = K (some (.int (bv (b ≤ a ∧ a ≤ c)))) (M) := propext ⟨fun h => h.2 _ _ (fun a' b' c' e => by simp only [List.cons.injEq, Value.ref.injEq, Value.int.injEq, Value.long.injEq, and_true] at e; obtain ⟨q0, q1, q2⟩ := e; obtain rfl := q0; obtain rfl := q1; obtain rfl := q2; exact ⟨rfl, rfl⟩), fun h => ⟨⟨a, b, c, rfl, hp⟩, fun r_ M_ q => by obtain ⟨rfl, rfl⟩ := q _ _ _ rfl; exact h⟩⟩
theorem mk_B_within {Z : Zt} {d : Nat} (h : ∀ (a : Int32) (b : Int32) (c : Int32) (M : Mem), (True) → Gm Z d s_B_within [.int a, .int b, .int c] M (ex (some (.int (bv (b ≤ a ∧ a ≤ c)))) (M))) : okE Z d i_B_within e_B_within := by
  rintro av M ⟨a, b, c, rfl, hp⟩
  exact Gm.cons (h a b c M  hp) (fun r_ M_ q a' b' c' e => by simp only [List.cons.injEq, Value.ref.injEq, Value.int.injEq, Value.long.injEq, and_true] at e; obtain ⟨q0, q1, q2⟩ := e; obtain rfl := q0; obtain rfl := q1; obtain rfl := q2; exact q)
set_option maxRecDepth 100000 in
set_option maxHeartbeats 4000000 in
theorem ok_B_within (Z : Zt) (d : Nat) : okE Z (d + 1) i_B_within e_B_within := mk_B_within fun a b c M hp => by
  refine Gm_run (C := []) (S := []) [some (.int a), some (.int b), some (.int c)] 100 k_B_within okE_nil (ex_n rfl) ?_
  simp only [run, go, jmp, seek, inS, e0, e1, e2, e3, e4, e5, tsw, e7, e8, e9, e10, e11, e12, splitA, rcv, clook, lget, lset, lset2, lkill, Option.toList, List.nil_append, List.cons_append, wsum, List.map_cons, List.map_nil, List.sum_cons, List.sum_nil, Value.category, Nat.reduceAdd, List.getD_cons_zero, List.getD_cons_succ, ↓reduceIte, if_true, if_false, Bool.false_eq_true, Nat.reduceLeDiff, Nat.reduceEqDiff, true_or, or_true, true_and, and_true, and_self, or_self, not_true, not_false_iff, mR_stI, mN_stI, isO_stI, isA_stI, mI_stI, mR_mW, mN_mW, isO_mW, isA_mW, mI_mW, mW_mW, stI_mW, p_B_within]
  split
  · next h => exact ⟨by rw [bv_F (fun q => absurd q.1 (Int32.not_le.mpr h))], rfl⟩
  · next h =>
    split
    · next h2 => exact ⟨by rw [bv_F (fun q => absurd q.2 (Int32.not_le.mpr h2))], rfl⟩
    · next h2 => exact ⟨by rw [bv_T ⟨Int32.not_lt.mp h, Int32.not_lt.mp h2⟩], rfl⟩
def e_B_isResource : Ent := (fun av M => ∃ (r : Int32), av = [.int r] ∧ (True), fun av M r_ M_ => ∀ (r : Int32), av = [.int r] → r_ = (some (.int (bv (0 ≤ r ∧ r < 4)))) ∧ M_ = (M))
theorem pc_B_isResource {r : Int32} {M : Mem} {K : Option Value → Mem → Prop} (hp : True) : pcall e_B_isResource [.int r] M K = K (some (.int (bv (0 ≤ r ∧ r < 4)))) (M) := propext ⟨fun h => h.2 _ _ (fun r' e => by simp only [List.cons.injEq, Value.ref.injEq, Value.int.injEq, Value.long.injEq, and_true] at e; have q0 := e; obtain rfl := q0; exact ⟨rfl, rfl⟩), fun h => ⟨⟨r, rfl, hp⟩, fun r_ M_ q => by obtain ⟨rfl, rfl⟩ := q _ rfl; exact h⟩⟩
theorem mk_B_isResource {Z : Zt} {d : Nat} (h : ∀ (r : Int32) (M : Mem), (True) → Gm Z d s_B_isResource [.int r] M (ex (some (.int (bv (0 ≤ r ∧ r < 4)))) (M))) : okE Z d i_B_isResource e_B_isResource := by
  rintro av M ⟨r, rfl, hp⟩
  exact Gm.cons (h r M  hp) (fun r_ M_ q r' e => by simp only [List.cons.injEq, Value.ref.injEq, Value.int.injEq, Value.long.injEq, and_true] at e; have q0 := e; obtain rfl := q0; exact q)
set_option maxRecDepth 100000 in
set_option maxHeartbeats 4000000 in
theorem ok_B_isResource (Z : Zt) (d : Nat) : okE Z (d + 1) i_B_isResource e_B_isResource := mk_B_isResource fun r M hp => by
  refine Gm_run (C := []) (S := []) [some (.int r)] 100 k_B_isResource okE_nil (ex_n rfl) ?_
  simp only [run, go, jmp, seek, inS, e0, e1, e2, e3, e4, e5, tsw, e7, e8, e9, e10, e11, e12, splitA, rcv, clook, lget, lset, lset2, lkill, Option.toList, List.nil_append, List.cons_append, wsum, List.map_cons, List.map_nil, List.sum_cons, List.sum_nil, Value.category, Nat.reduceAdd, List.getD_cons_zero, List.getD_cons_succ, ↓reduceIte, if_true, if_false, Bool.false_eq_true, Nat.reduceLeDiff, Nat.reduceEqDiff, true_or, or_true, true_and, and_true, and_self, or_self, not_true, not_false_iff, mR_stI, mN_stI, isO_stI, isA_stI, mI_stI, mR_mW, mN_mW, isO_mW, isA_mW, mI_mW, mW_mW, stI_mW, p_B_isResource]
  split
  · next h => exact ⟨by rw [bv_F (fun q => absurd q.1 (Int32.not_le.mpr h))], rfl⟩
  · next h =>
    split
    · next h2 => exact ⟨by rw [bv_F (fun q => absurd q.2 (Int32.not_lt.mpr h2))], rfl⟩
    · next h2 => exact ⟨by rw [bv_T ⟨Int32.not_lt.mp h, Int32.not_le.mp h2⟩], rfl⟩
def e_B_slot : Ent := (fun av M => ∃ (t : Nat) (r : Nat), av = [.int (nI t), .int (nI r)] ∧ t < 2 ^ 31 ∧ r < 2 ^ 31 ∧ (True), fun av M r_ M_ => ∀ (t : Nat) (r : Nat), t < 2 ^ 31 → r < 2 ^ 31 → av = [.int (nI t), .int (nI r)] → r_ = (some (.int (nI (t * 4 + r)))) ∧ M_ = (M))
theorem pc_B_slot {t : Nat} {r : Nat} {M : Mem} {K : Option Value → Mem → Prop} (hp : True) (h_t : t < 2 ^ 31) (h_r : r < 2 ^ 31) : pcall e_B_slot [.int (nI t), .int (nI r)] M K = K (some (.int (nI (t * 4 + r)))) (M) := propext ⟨fun h => h.2 _ _ (fun t' r' h_t' h_r' e => by simp only [List.cons.injEq, Value.ref.injEq, Value.int.injEq, Value.long.injEq, and_true] at e; obtain ⟨q0, q1⟩ := e; obtain rfl := (nI_eq h_t h_t').mp q0; obtain rfl := (nI_eq h_r h_r').mp q1; exact ⟨rfl, rfl⟩), fun h => ⟨⟨t, r, rfl, h_t, h_r, hp⟩, fun r_ M_ q => by obtain ⟨rfl, rfl⟩ := q _ _ h_t h_r rfl; exact h⟩⟩
theorem mk_B_slot {Z : Zt} {d : Nat} (h : ∀ (t : Nat) (r : Nat) (M : Mem), t < 2 ^ 31 → r < 2 ^ 31 → (True) → Gm Z d s_B_slot [.int (nI t), .int (nI r)] M (ex (some (.int (nI (t * 4 + r)))) (M))) : okE Z d i_B_slot e_B_slot := by
  rintro av M ⟨t, r, rfl, h_t, h_r, hp⟩
  exact Gm.cons (h t r M h_t h_r hp) (fun r_ M_ q t' r' h_t' h_r' e => by simp only [List.cons.injEq, Value.ref.injEq, Value.int.injEq, Value.long.injEq, and_true] at e; obtain ⟨q0, q1⟩ := e; obtain rfl := (nI_eq h_t h_t').mp q0; obtain rfl := (nI_eq h_r h_r').mp q1; exact q)
set_option maxRecDepth 100000 in
set_option maxHeartbeats 4000000 in
theorem ok_B_slot (Z : Zt) (d : Nat) : okE Z (d + 1) i_B_slot e_B_slot := mk_B_slot fun t r M h1 h2 hp => by
  refine Gm_run (C := []) (S := []) [some (.int (nI t)), some (.int (nI r))] 100 k_B_slot okE_nil (ex_n rfl) ?_
  simp (disch := omega) only [run, go, jmp, seek, inS, e0, e1, e2, e3, e4, e5, tsw, e7, e8, e9, e10, e11, e12, splitA, rcv, clook, lget, lset, lset2, lkill, Option.toList, List.nil_append, List.cons_append, wsum, List.map_cons, List.map_nil, List.sum_cons, List.sum_nil, Value.category, Nat.reduceAdd, List.getD_cons_zero, List.getD_cons_succ, ↓reduceIte, if_true, if_false, Bool.false_eq_true, Nat.reduceLeDiff, Nat.reduceEqDiff, true_or, or_true, true_and, and_true, and_self, or_self, not_true, not_false_iff, mR_stI, mN_stI, isO_stI, isA_stI, mI_stI, mR_mW, mN_mW, isO_mW, isA_mW, mI_mW, mW_mW, stI_mW, nI_addL, nI_mulL, nI_subL, nI_ltL, nI_leL, nI_Llt, nI_Lle, nI_eqL, nI_Leq, nI_add, pk_mul, nI_ltI, nI_leI, nI_eq, vpi, nI_clamp, nI_toN, p_B_slot]
  exact ⟨rfl, rfl⟩
def convF (u p q : Int32) : Int32 := if q < 1 then 0 else u * p / q
def e_B_converted : Ent := (fun av M => ∃ (u : Int32) (p : Int32) (q : Int32), av = [.int u, .int p, .int q] ∧ (True), fun av M r_ M_ => ∀ (u : Int32) (p : Int32) (q : Int32), av = [.int u, .int p, .int q] → r_ = (some (.int (convF u p q))) ∧ M_ = (M))
theorem pc_B_converted {u : Int32} {p : Int32} {q : Int32} {M : Mem} {K : Option Value → Mem → Prop} (hp : True) : pcall e_B_converted [.int u, .int p, .int q] M K = K (some (.int (convF u p q))) (M) := propext ⟨fun h => h.2 _ _ (fun u' p' q' e => by simp only [List.cons.injEq, Value.ref.injEq, Value.int.injEq, Value.long.injEq, and_true] at e; obtain ⟨q0, q1, q2⟩ := e; obtain rfl := q0; obtain rfl := q1; obtain rfl := q2; exact ⟨rfl, rfl⟩), fun h => ⟨⟨u, p, q, rfl, hp⟩, fun r_ M_ q => by obtain ⟨rfl, rfl⟩ := q _ _ _ rfl; exact h⟩⟩
theorem mk_B_converted {Z : Zt} {d : Nat} (h : ∀ (u : Int32) (p : Int32) (q : Int32) (M : Mem), (True) → Gm Z d s_B_converted [.int u, .int p, .int q] M (ex (some (.int (convF u p q))) (M))) : okE Z d i_B_converted e_B_converted := by
  rintro av M ⟨u, p, q, rfl, hp⟩
  exact Gm.cons (h u p q M  hp) (fun r_ M_ q u' p' q' e => by simp only [List.cons.injEq, Value.ref.injEq, Value.int.injEq, Value.long.injEq, and_true] at e; obtain ⟨q0, q1, q2⟩ := e; obtain rfl := q0; obtain rfl := q1; obtain rfl := q2; exact q)
set_option maxRecDepth 100000 in
set_option maxHeartbeats 4000000 in
theorem ok_B_converted (Z : Zt) (d : Nat) : okE Z (d + 1) i_B_converted e_B_converted := mk_B_converted fun u p q M hp => by
  refine Gm_run (C := []) (S := []) [some (.int u), some (.int p), some (.int q)] 100 k_B_converted okE_nil (ex_n rfl) ?_
  simp only [run, go, jmp, seek, inS, e0, e1, e2, e3, e4, e5, tsw, e7, e8, e9, e10, e11, e12, splitA, rcv, clook, lget, lset, lset2, lkill, Option.toList, List.nil_append, List.cons_append, wsum, List.map_cons, List.map_nil, List.sum_cons, List.sum_nil, Value.category, Nat.reduceAdd, List.getD_cons_zero, List.getD_cons_succ, ↓reduceIte, if_true, if_false, Bool.false_eq_true, Nat.reduceLeDiff, Nat.reduceEqDiff, true_or, or_true, true_and, and_true, and_self, or_self, not_true, not_false_iff, mR_stI, mN_stI, isO_stI, isA_stI, mI_stI, mR_mW, mN_mW, isO_mW, isA_mW, mI_mW, mW_mW, stI_mW, p_B_converted]
  split
  · next h =>
    refine ⟨fun z => ?_, ?_⟩
    · subst z
      revert h
      decide
    · exact ⟨by rw [convF, if_neg (Int32.not_lt.mpr h)], rfl⟩
  · next h => exact ⟨by rw [convF, if_pos (Int32.not_le.mp h)], rfl⟩
/-- copying the whole of one array over another of the same length -/
def cpA (f : Nat → Nat → Int32) (a b n : Nat) : Nat → Nat → Int32 := fun x y => if x = b ∧ y < n then f a y else f x y
def e_B_copy : Ent := (fun av M => ∃ (a : Nat) (b : Nat), av = [.ref a, .ref b] ∧ (a < mN M ∧ b < mN M ∧ (kd a).1 = 1 ∧ kd b = kd a ∧ (kd a).2 < 100000), fun av M r_ M_ => ∀ (a : Nat) (b : Nat), av = [.ref a, .ref b] → r_ = (none) ∧ M_ = (mW M (cpA (mI M) a b (kd a).2)))
theorem pc_B_copy {a : Nat} {b : Nat} {M : Mem} {K : Option Value → Mem → Prop} (hp : a < mN M ∧ b < mN M ∧ (kd a).1 = 1 ∧ kd b = kd a ∧ (kd a).2 < 100000) : pcall e_B_copy [.ref a, .ref b] M K = K (none) (mW M (cpA (mI M) a b (kd a).2)) := propext ⟨fun h => h.2 _ _ (fun a' b' e => by simp only [List.cons.injEq, Value.ref.injEq, Value.int.injEq, Value.long.injEq, and_true] at e; obtain ⟨q0, q1⟩ := e; obtain rfl := q0; obtain rfl := q1; exact ⟨rfl, rfl⟩), fun h => ⟨⟨a, b, rfl, hp⟩, fun r_ M_ q => by obtain ⟨rfl, rfl⟩ := q _ _ rfl; exact h⟩⟩
theorem mk_B_copy {Z : Zt} {d : Nat} (h : ∀ (a : Nat) (b : Nat) (M : Mem), (a < mN M ∧ b < mN M ∧ (kd a).1 = 1 ∧ kd b = kd a ∧ (kd a).2 < 100000) → Gm Z d s_B_copy [.ref a, .ref b] M (ex (none) (mW M (cpA (mI M) a b (kd a).2)))) : okE Z d i_B_copy e_B_copy := by
  rintro av M ⟨a, b, rfl, hp⟩
  exact Gm.cons (h a b M  hp) (fun r_ M_ q a' b' e => by simp only [List.cons.injEq, Value.ref.injEq, Value.int.injEq, Value.long.injEq, and_true] at e; obtain ⟨q0, q1⟩ := e; obtain rfl := q0; obtain rfl := q1; exact q)
set_option maxRecDepth 100000 in
set_option maxHeartbeats 4000000 in
theorem ok_B_copy (Z : Zt) (d : Nat) : okE Z (d + 1) i_B_copy e_B_copy := mk_B_copy fun a b M hp => by
  obtain ⟨h1, h2, h3, h4, h5⟩ := hp
  refine Gm_run (C := []) (S := []) [some (.ref a), some (.ref b)] 100 k_B_copy okE_nil (ex_n rfl) ?_
  simp only [run, go, jmp, seek, inS, e0, e1, e2, e3, e4, e5, tsw, e7, e8, e9, e10, e11, e12, splitA, rcv, clook, lget, lset, lset2, lkill, Option.toList, List.nil_append, List.cons_append, wsum, List.map_cons, List.map_nil, List.sum_cons, List.sum_nil, Value.category, Nat.reduceAdd, List.getD_cons_zero, List.getD_cons_succ, ↓reduceIte, if_true, if_false, Bool.false_eq_true, Nat.reduceLeDiff, Nat.reduceEqDiff, true_or, or_true, true_and, and_true, and_self, or_self, not_true, not_false_iff, mR_stI, mN_stI, isO_stI, isA_stI, mI_stI, mR_mW, mN_mW, isO_mW, isA_mW, mI_mW, mW_mW, stI_mW, p_B_copy, h1, h2, h3, h4]
  refine ⟨(kd a).2, 0, 0, ?_, rfl, ?_⟩
  · simp
    exact ⟨rfl, by omega⟩
  · rw [cpI_mW]
    congr 1
    funext x y
    simp [cpA]
end
section
/-! ===== claims: rows of six numbers; c its number, c + 1 that of its cells ===== -/
def ccap (c : Nat) : Nat := (kd (c + 1)).2 / 6
def csz (f : Nat → Nat → Int32) (c : Nat) : Nat := (f c 2).toNatClampNeg
def ClOk (M : Mem) (c : Nat) : Prop := isO M c 0 ∧ c + 1 < mN M ∧ (kd (c + 1)).1 = 1 ∧ (kd (c + 1)).2 = ccap c * 6 ∧ ccap c ≤ 40 ∧ mR M c 0 = c + 1 ∧ mR M c 1 = ccap c ∧ mI M c 2 = nI (csz (mI M) c) ∧ csz (mI M) c ≤ ccap c
theorem cl_o {M : Mem} {c : Nat} (h : ClOk M c) : isO M c 0 = True := eq_true h.1
theorem cl_r0 {M : Mem} {c : Nat} (h : ClOk M c) : mR M c 0 = c + 1 := h.2.2.2.2.2.1
theorem cl_r1 {M : Mem} {c : Nat} (h : ClOk M c) : mR M c 1 = ccap c := h.2.2.2.2.2.2.1
theorem cl_s {M : Mem} {c : Nat} (h : ClOk M c) : mI M c 2 = nI (csz (mI M) c) := h.2.2.2.2.2.2.2.1
theorem cl_le {M : Mem} {c : Nat} (h : ClOk M c) : csz (mI M) c ≤ ccap c := h.2.2.2.2.2.2.2.2
theorem cl_40 {M : Mem} {c : Nat} (h : ClOk M c) : ccap c ≤ 40 := h.2.2.2.2.1
theorem cl_a {M : Mem} {c : Nat} (h : ClOk M c) {k : Nat} (hk : k < ccap c * 6) : isA M (c + 1) (nI k) = True := by
  have h40 := cl_40 h
  exact eq_true ⟨h.2.1, h.2.2.1, by rw [h.2.2.2.1]; exact vp_in_nI hk (by omega)⟩
def e_C_isFull : Ent := (fun av M => ∃ (c : Nat), av = [.ref c] ∧ (ClOk M c), fun av M r_ M_ => ∀ (c : Nat), av = [.ref c] → r_ = (some (.int (bv (ccap c ≤ csz (mI M) c)))) ∧ M_ = (M))
theorem pc_C_isFull {c : Nat} {M : Mem} {K : Option Value → Mem → Prop} (hp : ClOk M c) : pcall e_C_isFull [.ref c] M K = K (some (.int (bv (ccap c ≤ csz (mI M) c)))) (M) := propext ⟨fun h => h.2 _ _ (fun c' e => by simp only [List.cons.injEq, Value.ref.injEq, Value.int.injEq, Value.long.injEq, and_true] at e; have q0 := e; obtain rfl := q0; exact ⟨rfl, rfl⟩), fun h => ⟨⟨c, rfl, hp⟩, fun r_ M_ q => by obtain ⟨rfl, rfl⟩ := q _ rfl; exact h⟩⟩
theorem mk_C_isFull {Z : Zt} {d : Nat} (h : ∀ (c : Nat) (M : Mem), (ClOk M c) → Gm Z d s_C_isFull [.ref c] M (ex (some (.int (bv (ccap c ≤ csz (mI M) c)))) (M))) : okE Z d i_C_isFull e_C_isFull := by
  rintro av M ⟨c, rfl, hp⟩
  exact Gm.cons (h c M  hp) (fun r_ M_ q c' e => by simp only [List.cons.injEq, Value.ref.injEq, Value.int.injEq, Value.long.injEq, and_true] at e; have q0 := e; obtain rfl := q0; exact q)
set_option maxRecDepth 100000 in
set_option maxHeartbeats 4000000 in
theorem ok_C_isFull (Z : Zt) (d : Nat) : okE Z (d + 1) i_C_isFull e_C_isFull := mk_C_isFull fun c M hp => by
  have h1 := cl_le hp
  have h2 := cl_40 hp
  refine Gm_run (C := []) (S := []) [some (.ref c)] 100 k_C_isFull okE_nil (ex_n rfl) ?_
  simp (disch := omega) only [run, go, jmp, seek, inS, e0, e1, e2, e3, e4, e5, tsw, e7, e8, e9, e10, e11, e12, splitA, rcv, clook, lget, lset, lset2, lkill, Option.toList, List.nil_append, List.cons_append, wsum, List.map_cons, List.map_nil, List.sum_cons, List.sum_nil, Value.category, Nat.reduceAdd, List.getD_cons_zero, List.getD_cons_succ, ↓reduceIte, if_true, if_false, Bool.false_eq_true, Nat.reduceLeDiff, Nat.reduceEqDiff, true_or, or_true, true_and, and_true, and_self, or_self, not_true, not_false_iff, mR_stI, mN_stI, isO_stI, isA_stI, mI_stI, mR_mW, mN_mW, isO_mW, isA_mW, mI_mW, mW_mW, stI_mW, nI_addL, nI_mulL, nI_subL, nI_ltL, nI_leL, nI_Llt, nI_Lle, nI_eqL, nI_Leq, nI_add, pk_mul, nI_ltI, nI_leI, nI_eq, vpi, nI_clamp, nI_toN, p_C_isFull, cl_o hp, cl_s hp, cl_r1 hp]
  split
  · next h => exact ⟨by rw [bv_F (by omega)], rfl⟩
  · next h => exact ⟨by rw [bv_T (by omega)], rfl⟩
/-- the number at a row and a column; none outside -/
def cellF (f : Nat → Nat → Int32) (c : Nat) (row col : Int32) : Int32 := if (0 ≤ row ∧ row < f c 2) ∧ 0 ≤ col ∧ col ≤ 5 then f (c + 1) (row.toNatClampNeg * 6 + col.toNatClampNeg) else -1000003
theorem le_pred (a : Int32) {s : Nat} (hs : s < 2 ^ 31) : (a ≤ nI s - 1) = (a < nI s) := by
  cases s with
  | zero =>
    have e1 : (nI 0 - 1 : Int32).toInt = -1 := by decide
    have e2 : (nI 0).toInt = 0 := by decide
    rw [fa_le', fa_lt', e1, e2]
    exact propext ⟨fun q => by omega, fun q => by omega⟩
  | succ k =>
    rw [nI_pred, fa_le', fa_lt', nI_toInt (by omega), nI_toInt hs]
    exact propext ⟨fun q => by omega, fun q => by omega⟩
def e_C_cell : Ent := (fun av M => ∃ (c : Nat) (row : Int32) (col : Int32), av = [.ref c, .int row, .int col] ∧ (ClOk M c), fun av M r_ M_ => ∀ (c : Nat) (row : Int32) (col : Int32), av = [.ref c, .int row, .int col] → r_ = (some (.int (cellF (mI M) c row col))) ∧ M_ = (M))
theorem pc_C_cell {c : Nat} {row : Int32} {col : Int32} {M : Mem} {K : Option Value → Mem → Prop} (hp : ClOk M c) : pcall e_C_cell [.ref c, .int row, .int col] M K = K (some (.int (cellF (mI M) c row col))) (M) := propext ⟨fun h => h.2 _ _ (fun c' row' col' e => by simp only [List.cons.injEq, Value.ref.injEq, Value.int.injEq, Value.long.injEq, and_true] at e; obtain ⟨q0, q1, q2⟩ := e; obtain rfl := q0; obtain rfl := q1; obtain rfl := q2; exact ⟨rfl, rfl⟩), fun h => ⟨⟨c, row, col, rfl, hp⟩, fun r_ M_ q => by obtain ⟨rfl, rfl⟩ := q _ _ _ rfl; exact h⟩⟩
theorem mk_C_cell {Z : Zt} {d : Nat} (h : ∀ (c : Nat) (row : Int32) (col : Int32) (M : Mem), (ClOk M c) → Gm Z d s_C_cell [.ref c, .int row, .int col] M (ex (some (.int (cellF (mI M) c row col))) (M))) : okE Z d i_C_cell e_C_cell := by
  rintro av M ⟨c, row, col, rfl, hp⟩
  exact Gm.cons (h c row col M  hp) (fun r_ M_ q c' row' col' e => by simp only [List.cons.injEq, Value.ref.injEq, Value.int.injEq, Value.long.injEq, and_true] at e; obtain ⟨q0, q1, q2⟩ := e; obtain rfl := q0; obtain rfl := q1; obtain rfl := q2; exact q)
set_option maxRecDepth 100000 in
set_option maxHeartbeats 4000000 in
theorem ok_C_cell (Z : Zt) (d : Nat) : okE Z (d + 2) i_C_cell e_C_cell := mk_C_cell fun c row col M hp => by
  have h1 := cl_le hp
  have h2 := cl_40 hp
  refine Gm_run (C := [(i_B_within, e_B_within)]) (S := []) [some (.ref c), some (.int row), some (.int col)] 100 k_C_cell (okE_cons (ok_B_within Z d) okE_nil) (ex_n rfl) ?_
  simp (disch := first | trivial | omega) only [run, go, jmp, seek, inS, e0, e1, e2, e3, e4, e5, tsw, e7, e8, e9, e10, e11, e12, splitA, rcv, clook, lget, lset, lset2, lkill, Option.toList, List.nil_append, List.cons_append, wsum, List.map_cons, List.map_nil, List.sum_cons, List.sum_nil, Value.category, Nat.reduceAdd, List.getD_cons_zero, List.getD_cons_succ, ↓reduceIte, if_true, if_false, Bool.false_eq_true, Nat.reduceLeDiff, Nat.reduceEqDiff, true_or, or_true, true_and, and_true, and_self, or_self, not_true, not_false_iff, mR_stI, mN_stI, isO_stI, isA_stI, mI_stI, mR_mW, mN_mW, isO_mW, isA_mW, mI_mW, mW_mW, stI_mW, p_C_cell, cl_o hp, cl_r0 hp, pc_B_within, i_B_within, bv_0]
  have hs := cl_s hp
  have e1 := le_pred row (s := csz (mI M) c) (by omega)
  rw [← hs] at e1
  simp only [e1]
  split
  · next h => exact ⟨by rw [cellF, if_neg (fun q => h q.1)], rfl⟩
  · next h =>
    split
    · next h2 => exact ⟨by rw [cellF, if_neg (fun q => h2 q.2)], rfl⟩
    · next h2 =>
      have h := Decidable.not_not.mp h
      have h2 := Decidable.not_not.mp h2
      obtain ⟨k, hk, rfl⟩ := nI_of (Int32.not_lt.mpr h.1)
      obtain ⟨j, hj, rfl⟩ := nI_of (Int32.not_lt.mpr h2.1)
      have g1 : k < csz (mI M) c := by
        have := h.2
        rw [hs] at this
        exact (nI_ltI hk (by omega)).mp this
      have g2 : j ≤ 5 := (nI_leI hj (by omega)).mp h2.2
      have e2 : nI k * 6 + nI j = nI (k * 6 + j) := by rw [nI_mulL, nI_add]
      rw [e2]
      refine ⟨of_eq_true (cl_a hp (by omega)), ?_, rfl⟩
      rw [cellF, if_pos ⟨h, h2⟩, nI_clamp (by omega), nI_clamp (by omega), nI_clamp (by omega)]
theorem cellF_at {M : Mem} {c k j : Nat} (hc : ClOk M c) (hk : k < csz (mI M) c) (hj : j < 6) : cellF (mI M) c (nI k) (nI j) = mI M (c + 1) (k * 6 + j) := by
  have h1 := cl_le hc
  have h2 := cl_40 hc
  have hs := cl_s hc
  rw [cellF, if_pos, nI_clamp (by omega), nI_clamp (by omega)]
  rw [hs]
  exact ⟨⟨nI_pos' (by omega), nI_lt hk (by omega)⟩, nI_pos' (by omega), (nI_leI (a := j) (b := 5) (by omega) (by omega)).mpr (by omega)⟩
/-- the first place with a property, from i on; -1 -/
def fwR (p : Nat → Prop) [DecidablePred p] : Nat → Nat → Int32
  | 0, _ => -1
  | n + 1, i => if p i then nI i else fwR p n (i + 1)
def fwF (f : Nat → Nat → Int32) (c : Nat) (col val : Int32) : Int32 := fwR (fun k => cellF f c (nI k) col = val) (csz f c) 0
def e_C_firstWith : Ent := (fun av M => ∃ (c : Nat) (col : Int32) (val : Int32), av = [.ref c, .int col, .int val] ∧ (ClOk M c), fun av M r_ M_ => ∀ (c : Nat) (col : Int32) (val : Int32), av = [.ref c, .int col, .int val] → r_ = (some (.int (fwF (mI M) c col val))) ∧ M_ = (M))
theorem pc_C_firstWith {c : Nat} {col : Int32} {val : Int32} {M : Mem} {K : Option Value → Mem → Prop} (hp : ClOk M c) : pcall e_C_firstWith [.ref c, .int col, .int val] M K = K (some (.int (fwF (mI M) c col val))) (M) := propext ⟨fun h => h.2 _ _ (fun c' col' val' e => by simp only [List.cons.injEq, Value.ref.injEq, Value.int.injEq, Value.long.injEq, and_true] at e; obtain ⟨q0, q1, q2⟩ := e; obtain rfl := q0; obtain rfl := q1; obtain rfl := q2; exact ⟨rfl, rfl⟩), fun h => ⟨⟨c, col, val, rfl, hp⟩, fun r_ M_ q => by obtain ⟨rfl, rfl⟩ := q _ _ _ rfl; exact h⟩⟩
theorem mk_C_firstWith {Z : Zt} {d : Nat} (h : ∀ (c : Nat) (col : Int32) (val : Int32) (M : Mem), (ClOk M c) → Gm Z d s_C_firstWith [.ref c, .int col, .int val] M (ex (some (.int (fwF (mI M) c col val))) (M))) : okE Z d i_C_firstWith e_C_firstWith := by
  rintro av M ⟨c, col, val, rfl, hp⟩
  exact Gm.cons (h c col val M  hp) (fun r_ M_ q c' col' val' e => by simp only [List.cons.injEq, Value.ref.injEq, Value.int.injEq, Value.long.injEq, and_true] at e; obtain ⟨q0, q1, q2⟩ := e; obtain rfl := q0; obtain rfl := q1; obtain rfl := q2; exact q)
set_option maxRecDepth 100000 in
set_option maxHeartbeats 4000000 in
theorem lp_C_firstWith (Z : Zt) (d : Nat) {c : Nat} {col val R0 : Int32} {M : Mem} (hp : ClOk M c) : ∀ n i, i + n = csz (mI M) c → fwR (fun k => cellF (mI M) c (nI k) col = val) n i = R0 → X Z (d + 3) s_C_firstWith (mN M) (mN M) (ex (some (.int R0)) M) 2 [some (.ref c), some (.int col), some (.int val), some (.int (nI i))] [] M := by
  have h1 := cl_le hp
  have h2 := cl_40 hp
  have hs := cl_s hp
  intro n
  induction n with
  | zero =>
    intro i hi hr
    refine X_run (C := [(i_C_cell, e_C_cell)]) (S := [2]) 100 k_C_firstWith (okE_cons (ok_C_cell Z d) okE_nil) ?_
    simp (disch := first | trivial | assumption | omega) only [run, go, jmp, seek, inS, e0, e1, e2, e3, e4, e5, tsw, e7, e8, e9, e10, e11, e12, splitA, rcv, clook, lget, lset, lset2, lkill, Option.toList, List.nil_append, List.cons_append, wsum, List.map_cons, List.map_nil, List.sum_cons, List.sum_nil, Value.category, Nat.reduceAdd, List.getD_cons_zero, List.getD_cons_succ, ↓reduceIte, if_true, if_false, Bool.false_eq_true, Nat.reduceLeDiff, Nat.reduceEqDiff, true_or, or_true, true_and, and_true, and_self, or_self, not_true, not_false_iff, mR_stI, mN_stI, isO_stI, isA_stI, mI_stI, mR_mW, mN_mW, isO_mW, isA_mW, mI_mW, mW_mW, stI_mW, nI_addL, nI_mulL, nI_subL, nI_ltL, nI_leL, nI_Llt, nI_Lle, nI_eqL, nI_Leq, nI_add, pk_mul, nI_ltI, nI_leI, nI_eq, vpi, nI_clamp, nI_toN, p_C_firstWith, cl_o hp, hs, pc_C_cell, i_C_cell]
    rw [if_pos (by omega)]
    exact ⟨by rw [← hr]; rfl, rfl⟩
  | succ n ih =>
    intro i hi hr
    refine X_run (C := [(i_C_cell, e_C_cell)]) (S := [2]) 100 k_C_firstWith (okE_cons (ok_C_cell Z d) okE_nil) ?_
    simp (disch := first | trivial | assumption | omega) only [run, go, jmp, seek, inS, e0, e1, e2, e3, e4, e5, tsw, e7, e8, e9, e10, e11, e12, splitA, rcv, clook, lget, lset, lset2, lkill, Option.toList, List.nil_append, List.cons_append, wsum, List.map_cons, List.map_nil, List.sum_cons, List.sum_nil, Value.category, Nat.reduceAdd, List.getD_cons_zero, List.getD_cons_succ, ↓reduceIte, if_true, if_false, Bool.false_eq_true, Nat.reduceLeDiff, Nat.reduceEqDiff, true_or, or_true, true_and, and_true, and_self, or_self, not_true, not_false_iff, mR_stI, mN_stI, isO_stI, isA_stI, mI_stI, mR_mW, mN_mW, isO_mW, isA_mW, mI_mW, mW_mW, stI_mW, nI_addL, nI_mulL, nI_subL, nI_ltL, nI_leL, nI_Llt, nI_Lle, nI_eqL, nI_Leq, nI_add, pk_mul, nI_ltI, nI_leI, nI_eq, vpi, nI_clamp, nI_toN, p_C_firstWith, cl_o hp, hs, pc_C_cell, i_C_cell]
    rw [if_neg (by omega)]
    rw [fwR] at hr
    split
    · next h =>
      rw [if_pos h] at hr
      exact ⟨by rw [← hr], rfl⟩
    · next h =>
      rw [if_neg h] at hr
      exact ih (i + 1) (by omega) hr
set_option maxRecDepth 100000 in
set_option maxHeartbeats 4000000 in
theorem ok_C_firstWith (Z : Zt) (d : Nat) : okE Z (d + 3) i_C_firstWith e_C_firstWith := mk_C_firstWith fun c col val M hp => by
  refine Gm_run (C := []) (S := [2]) [some (.ref c), some (.int col), some (.int val), none] 100 k_C_firstWith okE_nil (ex_n rfl) ?_
  simp only [run, go, jmp, seek, inS, e0, e1, e2, e3, e4, e5, tsw, e7, e8, e9, e10, e11, e12, splitA, rcv, clook, lget, lset, lset2, lkill, Option.toList, List.nil_append, List.cons_append, wsum, List.map_cons, List.map_nil, List.sum_cons, List.sum_nil, Value.category, Nat.reduceAdd, List.getD_cons_zero, List.getD_cons_succ, ↓reduceIte, if_true, if_false, Bool.false_eq_true, Nat.reduceLeDiff, Nat.reduceEqDiff, true_or, or_true, true_and, and_true, and_self, or_self, not_true, not_false_iff, mR_stI, mN_stI, isO_stI, isA_stI, mI_stI, mR_mW, mN_mW, isO_mW, isA_mW, mI_mW, mW_mW, stI_mW, p_C_firstWith]
  exact lp_C_firstWith Z d hp (csz (mI M) c) 0 (by omega) rfl
end
section
theorem cl_mW {M : Mem} {c s : Nat} {f : Nat → Nat → Int32} (h : ClOk M c) (hf : f c 2 = nI s) (hs : s ≤ ccap c) : ClOk (mW M f) c := by
  have h40 := cl_40 h
  have e : csz f c = s := by unfold csz; rw [hf, nI_clamp (by omega)]
  exact ⟨h.1, h.2.1, h.2.2.1, h.2.2.2.1, h.2.2.2.2.1, h.2.2.2.2.2.1, h.2.2.2.2.2.2.1, by show f c 2 = nI (csz f c); rw [e, hf], by show csz f c ≤ ccap c; rw [e]; exact hs⟩
theorem csz_of {f : Nat → Nat → Int32} {c s : Nat} (hf : f c 2 = nI s) (hs : s < 2 ^ 31) : csz f c = s := by unfold csz; rw [hf, nI_clamp hs]
/-- how many of the first n -/
def fcnt (p : Nat → Prop) [DecidablePred p] : Nat → Nat
  | 0 => 0
  | n + 1 => if p n then fcnt p n + 1 else fcnt p n
theorem fcnt_le (p : Nat → Prop) [DecidablePred p] : ∀ n, fcnt p n ≤ n
  | 0 => Nat.le_refl _
  | n + 1 => by
    have := fcnt_le p n
    unfold fcnt
    split <;> omega
def ctF (f : Nat → Nat → Int32) (c : Nat) (t : Int32) : Nat := fcnt (fun k => cellF f c (nI k) 4 = t) (csz f c)
def e_C_countOf : Ent := (fun av M => ∃ (c : Nat) (t : Int32), av = [.ref c, .int t] ∧ (ClOk M c), fun av M r_ M_ => ∀ (c : Nat) (t : Int32), av = [.ref c, .int t] → r_ = (some (.int (nI (ctF (mI M) c t)))) ∧ M_ = (M))
theorem pc_C_countOf {c : Nat} {t : Int32} {M : Mem} {K : Option Value → Mem → Prop} (hp : ClOk M c) : pcall e_C_countOf [.ref c, .int t] M K = K (some (.int (nI (ctF (mI M) c t)))) (M) := propext ⟨fun h => h.2 _ _ (fun c' t' e => by simp only [List.cons.injEq, Value.ref.injEq, Value.int.injEq, Value.long.injEq, and_true] at e; obtain ⟨q0, q1⟩ := e; obtain rfl := q0; obtain rfl := q1; exact ⟨rfl, rfl⟩), fun h => ⟨⟨c, t, rfl, hp⟩, fun r_ M_ q => by obtain ⟨rfl, rfl⟩ := q _ _ rfl; exact h⟩⟩
theorem mk_C_countOf {Z : Zt} {d : Nat} (h : ∀ (c : Nat) (t : Int32) (M : Mem), (ClOk M c) → Gm Z d s_C_countOf [.ref c, .int t] M (ex (some (.int (nI (ctF (mI M) c t)))) (M))) : okE Z d i_C_countOf e_C_countOf := by
  rintro av M ⟨c, t, rfl, hp⟩
  exact Gm.cons (h c t M  hp) (fun r_ M_ q c' t' e => by simp only [List.cons.injEq, Value.ref.injEq, Value.int.injEq, Value.long.injEq, and_true] at e; obtain ⟨q0, q1⟩ := e; obtain rfl := q0; obtain rfl := q1; exact q)
set_option maxRecDepth 100000 in
set_option maxHeartbeats 4000000 in
theorem lp_C_countOf (Z : Zt) (d : Nat) {c : Nat} {t : Int32} {M : Mem} (hp : ClOk M c) : ∀ n i, i + n = csz (mI M) c → X Z (d + 3) s_C_countOf (mN M) (mN M) (ex (some (.int (nI (ctF (mI M) c t)))) M) 4 [some (.ref c), some (.int t), some (.int (nI (fcnt (fun k => cellF (mI M) c (nI k) 4 = t) i))), some (.int (nI i))] [] M := by
  have h1 := cl_le hp
  have h2 := cl_40 hp
  have hs := cl_s hp
  intro n
  induction n with
  | zero =>
    intro i hi
    refine X_run (C := [(i_C_cell, e_C_cell)]) (S := [4]) 100 k_C_countOf (okE_cons (ok_C_cell Z d) okE_nil) ?_
    simp (disch := first | trivial | assumption | omega) only [run, go, jmp, seek, inS, e0, e1, e2, e3, e4, e5, tsw, e7, e8, e9, e10, e11, e12, splitA, rcv, clook, lget, lset, lset2, lkill, Option.toList, List.nil_append, List.cons_append, wsum, List.map_cons, List.map_nil, List.sum_cons, List.sum_nil, Value.category, Nat.reduceAdd, List.getD_cons_zero, List.getD_cons_succ, ↓reduceIte, if_true, if_false, Bool.false_eq_true, Nat.reduceLeDiff, Nat.reduceEqDiff, true_or, or_true, true_and, and_true, and_self, or_self, not_true, not_false_iff, mR_stI, mN_stI, isO_stI, isA_stI, mI_stI, mR_mW, mN_mW, isO_mW, isA_mW, mI_mW, mW_mW, stI_mW, nI_addL, nI_mulL, nI_subL, nI_ltL, nI_leL, nI_Llt, nI_Lle, nI_eqL, nI_Leq, nI_add, pk_mul, nI_ltI, nI_leI, nI_eq, vpi, nI_clamp, nI_toN, p_C_countOf, cl_o hp, hs, pc_C_cell, i_C_cell]
    rw [if_pos (by omega)]
    have : i = csz (mI M) c := by omega
    subst this
    exact ⟨rfl, rfl⟩
  | succ n ih =>
    intro i hi
    have hc := fcnt_le (fun k => cellF (mI M) c (nI k) 4 = t) i
    have := ih (i + 1) (by omega)
    refine X_run (C := [(i_C_cell, e_C_cell)]) (S := [4]) 100 k_C_countOf (okE_cons (ok_C_cell Z d) okE_nil) ?_
    simp (disch := first | trivial | assumption | omega) only [run, go, jmp, seek, inS, e0, e1, e2, e3, e4, e5, tsw, e7, e8, e9, e10, e11, e12, splitA, rcv, clook, lget, lset, lset2, lkill, Option.toList, List.nil_append, List.cons_append, wsum, List.map_cons, List.map_nil, List.sum_cons, List.sum_nil, Value.category, Nat.reduceAdd, List.getD_cons_zero, List.getD_cons_succ, ↓reduceIte, if_true, if_false, Bool.false_eq_true, Nat.reduceLeDiff, Nat.reduceEqDiff, true_or, or_true, true_and, and_true, and_self, or_self, not_true, not_false_iff, mR_stI, mN_stI, isO_stI, isA_stI, mI_stI, mR_mW, mN_mW, isO_mW, isA_mW, mI_mW, mW_mW, stI_mW, nI_addL, nI_mulL, nI_subL, nI_ltL, nI_leL, nI_Llt, nI_Lle, nI_eqL, nI_Leq, nI_add, pk_mul, nI_ltI, nI_leI, nI_eq, vpi, nI_clamp, nI_toN, p_C_countOf, cl_o hp, hs, pc_C_cell, i_C_cell]
    rw [if_neg (by omega)]
    rw [fcnt] at this
    split
    · next h => rw [if_pos h] at this; exact this
    · next h => rw [if_neg h] at this; exact this
set_option maxRecDepth 100000 in
set_option maxHeartbeats 4000000 in
theorem ok_C_countOf (Z : Zt) (d : Nat) : okE Z (d + 3) i_C_countOf e_C_countOf := mk_C_countOf fun c t M hp => by
  refine Gm_run (C := []) (S := [4]) [some (.ref c), some (.int t), none, none] 100 k_C_countOf okE_nil (ex_n rfl) ?_
  simp (disch := first | trivial | assumption | omega) only [run, go, jmp, seek, inS, e0, e1, e2, e3, e4, e5, tsw, e7, e8, e9, e10, e11, e12, splitA, rcv, clook, lget, lset, lset2, lkill, Option.toList, List.nil_append, List.cons_append, wsum, List.map_cons, List.map_nil, List.sum_cons, List.sum_nil, Value.category, Nat.reduceAdd, List.getD_cons_zero, List.getD_cons_succ, ↓reduceIte, if_true, if_false, Bool.false_eq_true, Nat.reduceLeDiff, Nat.reduceEqDiff, true_or, or_true, true_and, and_true, and_self, or_self, not_true, not_false_iff, mR_stI, mN_stI, isO_stI, isA_stI, mI_stI, mR_mW, mN_mW, isO_mW, isA_mW, mI_mW, mW_mW, stI_mW, nI_addL, nI_mulL, nI_subL, nI_ltL, nI_leL, nI_Llt, nI_Lle, nI_eqL, nI_Leq, nI_add, pk_mul, nI_ltI, nI_leI, nI_eq, vpi, nI_clamp, nI_toN, p_C_countOf]
  exact lp_C_countOf Z d hp (csz (mI M) c) 0 (by omega)
def rowF (f : Nat → Nat → Int32) (c : Nat) (n : Int32) : Int32 := if n < 0 then -1 else fwF f c 5 n
def e_C_rowOf : Ent := (fun av M => ∃ (c : Nat) (n : Int32), av = [.ref c, .int n] ∧ (ClOk M c), fun av M r_ M_ => ∀ (c : Nat) (n : Int32), av = [.ref c, .int n] → r_ = (some (.int (rowF (mI M) c n))) ∧ M_ = (M))
theorem pc_C_rowOf {c : Nat} {n : Int32} {M : Mem} {K : Option Value → Mem → Prop} (hp : ClOk M c) : pcall e_C_rowOf [.ref c, .int n] M K = K (some (.int (rowF (mI M) c n))) (M) := propext ⟨fun h => h.2 _ _ (fun c' n' e => by simp only [List.cons.injEq, Value.ref.injEq, Value.int.injEq, Value.long.injEq, and_true] at e; obtain ⟨q0, q1⟩ := e; obtain rfl := q0; obtain rfl := q1; exact ⟨rfl, rfl⟩), fun h => ⟨⟨c, n, rfl, hp⟩, fun r_ M_ q => by obtain ⟨rfl, rfl⟩ := q _ _ rfl; exact h⟩⟩
theorem mk_C_rowOf {Z : Zt} {d : Nat} (h : ∀ (c : Nat) (n : Int32) (M : Mem), (ClOk M c) → Gm Z d s_C_rowOf [.ref c, .int n] M (ex (some (.int (rowF (mI M) c n))) (M))) : okE Z d i_C_rowOf e_C_rowOf := by
  rintro av M ⟨c, n, rfl, hp⟩
  exact Gm.cons (h c n M  hp) (fun r_ M_ q c' n' e => by simp only [List.cons.injEq, Value.ref.injEq, Value.int.injEq, Value.long.injEq, and_true] at e; obtain ⟨q0, q1⟩ := e; obtain rfl := q0; obtain rfl := q1; exact q)
set_option maxRecDepth 100000 in
set_option maxHeartbeats 4000000 in
theorem ok_C_rowOf (Z : Zt) (d : Nat) : okE Z (d + 4) i_C_rowOf e_C_rowOf := mk_C_rowOf fun c n M hp => by
  refine Gm_run (C := [(i_C_firstWith, e_C_firstWith)]) (S := []) [some (.ref c), some (.int n)] 100 k_C_rowOf (okE_cons (ok_C_firstWith Z d) okE_nil) (ex_n rfl) ?_
  simp (disch := first | trivial | assumption | omega) only [run, go, jmp, seek, inS, e0, e1, e2, e3, e4, e5, tsw, e7, e8, e9, e10, e11, e12, splitA, rcv, clook, lget, lset, lset2, lkill, Option.toList, List.nil_append, List.cons_append, wsum, List.map_cons, List.map_nil, List.sum_cons, List.sum_nil, Value.category, Nat.reduceAdd, List.getD_cons_zero, List.getD_cons_succ, ↓reduceIte, if_true, if_false, Bool.false_eq_true, Nat.reduceLeDiff, Nat.reduceEqDiff, true_or, or_true, true_and, and_true, and_self, or_self, not_true, not_false_iff, mR_stI, mN_stI, isO_stI, isA_stI, mI_stI, mR_mW, mN_mW, isO_mW, isA_mW, mI_mW, mW_mW, stI_mW, nI_addL, nI_mulL, nI_subL, nI_ltL, nI_leL, nI_Llt, nI_Lle, nI_eqL, nI_Leq, nI_add, pk_mul, nI_ltI, nI_leI, nI_eq, vpi, nI_clamp, nI_toN, p_C_rowOf, cl_o hp, pc_C_firstWith, i_C_firstWith]
  split
  · next h => exact ⟨by rw [rowF, if_neg (Int32.not_lt.mpr h)], rfl⟩
  · next h => exact ⟨by rw [rowF, if_pos (Int32.not_le.mp h)], rfl⟩
/-- a row goes; i: up to where the later ones have come down -/
def rmP (f : Nat → Nat → Int32) (c k i : Nat) : Nat → Nat → Int32 := fun x y => if x = c ∧ y = 2 then nI (csz f c - 1) else if x = c + 1 ∧ k * 6 ≤ y ∧ y < i then f (c + 1) (y + 6) else f x y
def rmF (f : Nat → Nat → Int32) (c k : Nat) : Nat → Nat → Int32 := rmP f c k ((csz f c - 1) * 6)
theorem rmP_s (f : Nat → Nat → Int32) (c k i : Nat) : rmP f c k i c 2 = nI (csz f c - 1) := by simp [rmP]
theorem rmP_hi {f : Nat → Nat → Int32} {c k i y : Nat} (h : i ≤ y) : rmP f c k i (c + 1) y = f (c + 1) y := by
  unfold rmP
  rw [if_neg (by omega), if_neg (by omega)]
theorem rmP_0 (f : Nat → Nat → Int32) (c k : Nat) : u2 f c 2 (nI (csz f c - 1)) = rmP f c k (k * 6) := by
  funext x y
  simp only [rmP, u2_at]
  split
  · rfl
  · rw [if_neg (by omega)]
theorem rmP_1 {f : Nat → Nat → Int32} {c k i : Nat} (h : k * 6 ≤ i) : u2 (rmP f c k i) (c + 1) i (f (c + 1) (i + 6)) = rmP f c k (i + 1) := by
  funext x y
  simp only [rmP, u2_at]
  by_cases h1 : x = c + 1 ∧ y = i
  · rw [if_pos h1, if_neg (by omega), if_pos (by omega), h1.2]
  · rw [if_neg h1]
    by_cases h2 : x = c ∧ y = 2
    · rw [if_pos h2, if_pos h2]
    · rw [if_neg h2, if_neg h2]
      by_cases h3 : x = c + 1 ∧ k * 6 ≤ y ∧ y < i
      · rw [if_pos h3, if_pos (by omega)]
      · rw [if_neg h3, if_neg (by omega)]
def e_C_remove : Ent := (fun av M => ∃ (c : Nat) (k : Nat), av = [.ref c, .int (nI k)] ∧ k < 2 ^ 31 ∧ (ClOk M c ∧ k < csz (mI M) c), fun av M r_ M_ => ∀ (c : Nat) (k : Nat), k < 2 ^ 31 → av = [.ref c, .int (nI k)] → r_ = (none) ∧ M_ = (mW M (rmF (mI M) c k)))
theorem pc_C_remove {c : Nat} {k : Nat} {M : Mem} {K : Option Value → Mem → Prop} (hp : ClOk M c ∧ k < csz (mI M) c) (h_k : k < 2 ^ 31) : pcall e_C_remove [.ref c, .int (nI k)] M K = K (none) (mW M (rmF (mI M) c k)) := propext ⟨fun h => h.2 _ _ (fun c' k' h_k' e => by simp only [List.cons.injEq, Value.ref.injEq, Value.int.injEq, Value.long.injEq, and_true] at e; obtain ⟨q0, q1⟩ := e; obtain rfl := q0; obtain rfl := (nI_eq h_k h_k').mp q1; exact ⟨rfl, rfl⟩), fun h => ⟨⟨c, k, rfl, h_k, hp⟩, fun r_ M_ q => by obtain ⟨rfl, rfl⟩ := q _ _ h_k rfl; exact h⟩⟩
theorem mk_C_remove {Z : Zt} {d : Nat} (h : ∀ (c : Nat) (k : Nat) (M : Mem), k < 2 ^ 31 → (ClOk M c ∧ k < csz (mI M) c) → Gm Z d s_C_remove [.ref c, .int (nI k)] M (ex (none) (mW M (rmF (mI M) c k)))) : okE Z d i_C_remove e_C_remove := by
  rintro av M ⟨c, k, rfl, h_k, hp⟩
  exact Gm.cons (h c k M h_k hp) (fun r_ M_ q c' k' h_k' e => by simp only [List.cons.injEq, Value.ref.injEq, Value.int.injEq, Value.long.injEq, and_true] at e; obtain ⟨q0, q1⟩ := e; obtain rfl := q0; obtain rfl := (nI_eq h_k h_k').mp q1; exact q)
set_option maxRecDepth 100000 in
set_option maxHeartbeats 4000000 in
theorem lp_C_remove (Z : Zt) (d : Nat) {c k : Nat} {M : Mem} (hp : ClOk M c) (hk : k < csz (mI M) c) : ∀ n i, i + n = (csz (mI M) c - 1) * 6 → k * 6 ≤ i → X Z (d + 2) s_C_remove (mN M) (mN M) (ex none (mW M (rmF (mI M) c k))) 30 [some (.ref c), some (.int (nI k)), some (.int (nI i))] [] (mW M (rmP (mI M) c k i)) := by
  have h1 := cl_le hp
  have h2 := cl_40 hp
  intro n
  induction n with
  | zero =>
    intro i hi hki
    refine X_run (C := []) (S := [30]) 100 k_C_remove okE_nil ?_
    simp (disch := first | trivial | assumption | omega) only [run, go, jmp, seek, inS, e0, e1, e2, e3, e4, e5, tsw, e7, e8, e9, e10, e11, e12, splitA, rcv, clook, lget, lset, lset2, lkill, Option.toList, List.nil_append, List.cons_append, wsum, List.map_cons, List.map_nil, List.sum_cons, List.sum_nil, Value.category, Nat.reduceAdd, List.getD_cons_zero, List.getD_cons_succ, ↓reduceIte, if_true, if_false, Bool.false_eq_true, Nat.reduceLeDiff, Nat.reduceEqDiff, true_or, or_true, true_and, and_true, and_self, or_self, not_true, not_false_iff, mR_stI, mN_stI, isO_stI, isA_stI, mI_stI, mR_mW, mN_mW, isO_mW, isA_mW, mI_mW, mW_mW, stI_mW, nI_addL, nI_mulL, nI_subL, nI_ltL, nI_leL, nI_Llt, nI_Lle, nI_eqL, nI_Leq, nI_add, pk_mul, nI_ltI, nI_leI, nI_eq, vpi, nI_clamp, nI_toN, p_C_remove, cl_o hp, rmP_s]
    rw [if_pos (by omega)]
    have : i = (csz (mI M) c - 1) * 6 := by omega
    subst this
    exact ⟨rfl, rfl⟩
  | succ n ih =>
    intro i hi hki
    refine X_run (C := []) (S := [30]) 100 k_C_remove okE_nil ?_
    simp (disch := first | trivial | assumption | omega) only [run, go, jmp, seek, inS, e0, e1, e2, e3, e4, e5, tsw, e7, e8, e9, e10, e11, e12, splitA, rcv, clook, lget, lset, lset2, lkill, Option.toList, List.nil_append, List.cons_append, wsum, List.map_cons, List.map_nil, List.sum_cons, List.sum_nil, Value.category, Nat.reduceAdd, List.getD_cons_zero, List.getD_cons_succ, ↓reduceIte, if_true, if_false, Bool.false_eq_true, Nat.reduceLeDiff, Nat.reduceEqDiff, true_or, or_true, true_and, and_true, and_self, or_self, not_true, not_false_iff, mR_stI, mN_stI, isO_stI, isA_stI, mI_stI, mR_mW, mN_mW, isO_mW, isA_mW, mI_mW, mW_mW, stI_mW, nI_addL, nI_mulL, nI_subL, nI_ltL, nI_leL, nI_Llt, nI_Lle, nI_eqL, nI_Leq, nI_add, pk_mul, nI_ltI, nI_leI, nI_eq, vpi, nI_clamp, nI_toN, p_C_remove, cl_o hp, cl_r0 hp, cl_a hp, rmP_s, rmP_hi, rmP_1]
    rw [if_neg (by omega)]
    exact ih (i + 1) (by omega) (by omega)
set_option maxRecDepth 100000 in
set_option maxHeartbeats 4000000 in
theorem ok_C_remove (Z : Zt) (d : Nat) : okE Z (d + 2) i_C_remove e_C_remove := mk_C_remove fun c k M hk0 hp => by
  obtain ⟨hp, hk⟩ := hp
  have h1 := cl_le hp
  have h2 := cl_40 hp
  have hs := cl_s hp
  refine Gm_run (C := [(i_B_within, e_B_within)]) (S := [30]) [some (.ref c), some (.int (nI k)), none] 100 k_C_remove (okE_cons (ok_B_within Z d) okE_nil) (ex_n rfl) ?_
  simp (disch := first | trivial | assumption | omega) only [run, go, jmp, seek, inS, e0, e1, e2, e3, e4, e5, tsw, e7, e8, e9, e10, e11, e12, splitA, rcv, clook, lget, lset, lset2, lkill, Option.toList, List.nil_append, List.cons_append, wsum, List.map_cons, List.map_nil, List.sum_cons, List.sum_nil, Value.category, Nat.reduceAdd, List.getD_cons_zero, List.getD_cons_succ, ↓reduceIte, if_true, if_false, Bool.false_eq_true, Nat.reduceLeDiff, Nat.reduceEqDiff, true_or, or_true, true_and, and_true, and_self, or_self, not_true, not_false_iff, mR_stI, mN_stI, isO_stI, isA_stI, mI_stI, mR_mW, mN_mW, isO_mW, isA_mW, mI_mW, mW_mW, stI_mW, nI_addL, nI_mulL, nI_subL, nI_ltL, nI_leL, nI_Llt, nI_Lle, nI_eqL, nI_Leq, nI_add, pk_mul, nI_ltI, nI_leI, nI_eq, vpi, nI_clamp, nI_toN, p_C_remove, cl_o hp, hs, pc_B_within, i_B_within, bv_0]
  rw [if_neg (by omega), rmP_0 _ _ k]
  exact lp_C_remove Z d hp hk _ (k * 6) (Nat.add_sub_cancel' (by omega)) (Nat.le_refl _)
end
section
theorem nI_dec (r : Nat) : nI r + (-1) = nI r - 1 := by
  rw [Int32.sub_eq_add_neg]
theorem nI_pneg (r : Nat) (h : r < 2 ^ 31) : (nI r - 1 < 0) = (r = 0) := by
  cases r with
  | zero => exact propext ⟨fun _ => rfl, fun _ => by decide⟩
  | succ k =>
    rw [nI_pred]
    exact propext ⟨fun q => absurd q (nI_pos (by omega)), fun q => by omega⟩
theorem rmF_s (f : Nat → Nat → Int32) (c k : Nat) : rmF f c k c 2 = nI (csz f c - 1) := rmP_s f c k _
/-- all rows of an owner go, from the last one of the first r on -/
def raF (f : Nat → Nat → Int32) (c : Nat) (t : Int32) : Nat → Nat → Nat → Int32
  | 0 => f
  | r + 1 => raF (if cellF f c (nI r) 4 = t then rmF f c r else f) c t r
def e_C_removeAllOf : Ent := (fun av M => ∃ (c : Nat) (t : Int32), av = [.ref c, .int t] ∧ (ClOk M c), fun av M r_ M_ => ∀ (c : Nat) (t : Int32), av = [.ref c, .int t] → r_ = (none) ∧ M_ = (mW M (raF (mI M) c t (csz (mI M) c))))
theorem pc_C_removeAllOf {c : Nat} {t : Int32} {M : Mem} {K : Option Value → Mem → Prop} (hp : ClOk M c) : pcall e_C_removeAllOf [.ref c, .int t] M K = K (none) (mW M (raF (mI M) c t (csz (mI M) c))) := propext ⟨fun h => h.2 _ _ (fun c' t' e => by simp only [List.cons.injEq, Value.ref.injEq, Value.int.injEq, Value.long.injEq, and_true] at e; obtain ⟨q0, q1⟩ := e; obtain rfl := q0; obtain rfl := q1; exact ⟨rfl, rfl⟩), fun h => ⟨⟨c, t, rfl, hp⟩, fun r_ M_ q => by obtain ⟨rfl, rfl⟩ := q _ _ rfl; exact h⟩⟩
theorem mk_C_removeAllOf {Z : Zt} {d : Nat} (h : ∀ (c : Nat) (t : Int32) (M : Mem), (ClOk M c) → Gm Z d s_C_removeAllOf [.ref c, .int t] M (ex (none) (mW M (raF (mI M) c t (csz (mI M) c))))) : okE Z d i_C_removeAllOf e_C_removeAllOf := by
  rintro av M ⟨c, t, rfl, hp⟩
  exact Gm.cons (h c t M  hp) (fun r_ M_ q c' t' e => by simp only [List.cons.injEq, Value.ref.injEq, Value.int.injEq, Value.long.injEq, and_true] at e; obtain ⟨q0, q1⟩ := e; obtain rfl := q0; obtain rfl := q1; exact q)
set_option maxRecDepth 100000 in
set_option maxHeartbeats 4000000 in
theorem lp_C_removeAllOf (Z : Zt) (d : Nat) {c : Nat} {t : Int32} {M : Mem} {g : Nat → Nat → Int32} : ∀ r f, ClOk (mW M f) c → r ≤ csz f c → raF f c t r = g → X Z (d + 3) s_C_removeAllOf (mN M) (mN M) (ex none (mW M g)) 7 [some (.ref c), some (.int t), some (.int (nI r - 1))] [] (mW M f) := by
  intro r
  induction r with
  | zero =>
    intro f hp hr hg
    refine X_run (C := []) (S := [7]) 100 k_C_removeAllOf okE_nil ?_
    simp (disch := first | trivial | assumption | omega) only [run, go, jmp, seek, inS, e0, e1, e2, e3, e4, e5, tsw, e7, e8, e9, e10, e11, e12, splitA, rcv, clook, lget, lset, lset2, lkill, Option.toList, List.nil_append, List.cons_append, wsum, List.map_cons, List.map_nil, List.sum_cons, List.sum_nil, Value.category, Nat.reduceAdd, List.getD_cons_zero, List.getD_cons_succ, ↓reduceIte, if_true, if_false, Bool.false_eq_true, Nat.reduceLeDiff, Nat.reduceEqDiff, true_or, or_true, true_and, and_true, and_self, or_self, not_true, not_false_iff, mR_stI, mN_stI, isO_stI, isA_stI, mI_stI, mR_mW, mN_mW, isO_mW, isA_mW, mI_mW, mW_mW, stI_mW, nI_addL, nI_mulL, nI_subL, nI_ltL, nI_leL, nI_Llt, nI_Lle, nI_eqL, nI_Leq, nI_add, pk_mul, nI_ltI, nI_leI, nI_eq, vpi, nI_clamp, nI_toN, p_C_removeAllOf, nI_pneg]
    rw [← hg]
    exact ⟨rfl, rfl⟩
  | succ r ih =>
    intro f hp hr hg
    have h1 := cl_le hp
    have h2 := cl_40 hp
    have hs := cl_s hp
    change csz f c ≤ ccap c at h1
    change f c 2 = nI (csz f c) at hs
    have ho : isO M c 0 = True := eq_true hp.1
    refine X_run (C := [(i_C_cell, e_C_cell), (i_C_remove, e_C_remove)]) (S := [7]) 100 k_C_removeAllOf (okE_cons (ok_C_cell Z d) (okE_cons (ok_C_remove Z d) okE_nil)) ?_
    simp (disch := first | trivial | exact ⟨hp, hr⟩ | assumption | omega) only [run, go, jmp, seek, inS, e0, e1, e2, e3, e4, e5, tsw, e7, e8, e9, e10, e11, e12, splitA, rcv, clook, lget, lset, lset2, lkill, Option.toList, List.nil_append, List.cons_append, wsum, List.map_cons, List.map_nil, List.sum_cons, List.sum_nil, Value.category, Nat.reduceAdd, List.getD_cons_zero, List.getD_cons_succ, ↓reduceIte, if_true, if_false, Bool.false_eq_true, Nat.reduceLeDiff, Nat.reduceEqDiff, true_or, or_true, true_and, and_true, and_self, or_self, not_true, not_false_iff, mR_stI, mN_stI, isO_stI, isA_stI, mI_stI, mR_mW, mN_mW, isO_mW, isA_mW, mI_mW, mW_mW, stI_mW, p_C_removeAllOf, nI_ltL, Nat.not_lt_zero, pc_C_cell, i_C_cell, pc_C_remove (c := c) (k := r) (M := mW M f) ⟨hp, hr⟩, i_C_remove, nI_pred, nI_dec, ho]
    rw [raF] at hg
    split
    · next h =>
      rw [if_pos h] at hg
      have e : csz (rmF f c r) c = csz f c - 1 := csz_of (rmF_s f c r) (by omega)
      exact ih _ (cl_mW (M := mW M f) hp (rmF_s f c r) (by omega)) (by rw [e]; omega) hg
    · next h =>
      rw [if_neg h] at hg
      exact ih f hp (by omega) hg
set_option maxRecDepth 100000 in
set_option maxHeartbeats 4000000 in
theorem ok_C_removeAllOf (Z : Zt) (d : Nat) : okE Z (d + 3) i_C_removeAllOf e_C_removeAllOf := mk_C_removeAllOf fun c t M hp => by
  refine Gm_run (C := []) (S := [7]) [some (.ref c), some (.int t), none] 100 k_C_removeAllOf okE_nil (ex_n rfl) ?_
  simp only [run, go, jmp, seek, inS, e0, e1, e2, e3, e4, e5, tsw, e7, e8, e9, e10, e11, e12, splitA, rcv, clook, lget, lset, lset2, lkill, Option.toList, List.nil_append, List.cons_append, wsum, List.map_cons, List.map_nil, List.sum_cons, List.sum_nil, Value.category, Nat.reduceAdd, List.getD_cons_zero, List.getD_cons_succ, ↓reduceIte, if_true, if_false, Bool.false_eq_true, Nat.reduceLeDiff, Nat.reduceEqDiff, true_or, or_true, true_and, and_true, and_self, or_self, not_true, not_false_iff, mR_stI, mN_stI, isO_stI, isA_stI, mI_stI, mR_mW, mN_mW, isO_mW, isA_mW, mI_mW, mW_mW, stI_mW, p_C_removeAllOf, cl_o hp, cl_s hp]
  exact lp_C_removeAllOf Z d (M := M) (csz (mI M) c) (mI M) hp (Nat.le_refl _) rfl
/-- a new row: n units of it put down -/
def addP (f g : Nat → Nat → Int32) (c u n : Nat) : Nat → Nat → Int32 := fun x y => if x = c + 1 ∧ csz f c * 6 ≤ y ∧ y < csz f c * 6 + n then g u (y - csz f c * 6) else f x y
def addF (f : Nat → Nat → Int32) (c u : Nat) (o n : Int32) : Nat → Nat → Int32 := u2 (u2 (u2 (addP f f c u 4) (c + 1) (csz f c * 6 + 4) o) (c + 1) (csz f c * 6 + 5) n) c 2 (nI (csz f c + 1))
theorem addP_0 (f g : Nat → Nat → Int32) (c u : Nat) : addP f g c u 0 = f := by
  funext x y
  simp only [addP]
  rw [if_neg (by omega)]
theorem addP_1 {f g : Nat → Nat → Int32} {c u n : Nat} : u2 (addP f g c u n) (c + 1) (csz f c * 6 + n) (g u n) = addP f g c u (n + 1) := by
  funext x y
  simp only [addP, u2_at]
  by_cases h1 : x = c + 1 ∧ y = csz f c * 6 + n
  · rw [if_pos h1, if_pos (by omega), h1.2, Nat.add_sub_cancel_left]
  · rw [if_neg h1]
    by_cases h3 : x = c + 1 ∧ csz f c * 6 ≤ y ∧ y < csz f c * 6 + n
    · rw [if_pos h3, if_pos (by omega)]
    · rw [if_neg h3, if_neg (by omega)]
theorem addP_ne {f g : Nat → Nat → Int32} {c u n x y : Nat} (h : x ≠ c + 1) : addP f g c u n x y = f x y := by
  unfold addP
  rw [if_neg (fun q => h q.1)]
def e_C_add : Ent := (fun av M => ∃ (c : Nat) (u : Nat) (o : Int32), av = [.ref c, .ref u, .int o] ∧ (ClOk M c ∧ csz (mI M) c < ccap c ∧ u < mN M ∧ kd u = (1, 4)), fun av M r_ M_ => ∀ (c : Nat) (u : Nat) (o : Int32), av = [.ref c, .ref u, .int o] → r_ = (none) ∧ M_ = (mW M (addF (mI M) c u o (-1000003))))
theorem pc_C_add {c : Nat} {u : Nat} {o : Int32} {M : Mem} {K : Option Value → Mem → Prop} (hp : ClOk M c ∧ csz (mI M) c < ccap c ∧ u < mN M ∧ kd u = (1, 4)) : pcall e_C_add [.ref c, .ref u, .int o] M K = K (none) (mW M (addF (mI M) c u o (-1000003))) := propext ⟨fun h => h.2 _ _ (fun c' u' o' e => by simp only [List.cons.injEq, Value.ref.injEq, Value.int.injEq, Value.long.injEq, and_true] at e; obtain ⟨q0, q1, q2⟩ := e; obtain rfl := q0; obtain rfl := q1; obtain rfl := q2; exact ⟨rfl, rfl⟩), fun h => ⟨⟨c, u, o, rfl, hp⟩, fun r_ M_ q => by obtain ⟨rfl, rfl⟩ := q _ _ _ rfl; exact h⟩⟩
theorem mk_C_add {Z : Zt} {d : Nat} (h : ∀ (c : Nat) (u : Nat) (o : Int32) (M : Mem), (ClOk M c ∧ csz (mI M) c < ccap c ∧ u < mN M ∧ kd u = (1, 4)) → Gm Z d s_C_add [.ref c, .ref u, .int o] M (ex (none) (mW M (addF (mI M) c u o (-1000003))))) : okE Z d i_C_add e_C_add := by
  rintro av M ⟨c, u, o, rfl, hp⟩
  exact Gm.cons (h c u o M  hp) (fun r_ M_ q c' u' o' e => by simp only [List.cons.injEq, Value.ref.injEq, Value.int.injEq, Value.long.injEq, and_true] at e; obtain ⟨q0, q1, q2⟩ := e; obtain rfl := q0; obtain rfl := q1; obtain rfl := q2; exact q)
set_option maxRecDepth 100000 in
set_option maxHeartbeats 4000000 in
theorem lp_C_add (Z : Zt) (d : Nat) {c u : Nat} {o : Int32} {M : Mem} (hp : ClOk M c) (hk : csz (mI M) c < ccap c) (hu : u < mN M) (hk2 : kd u = (1, 4)) : ∀ n i, i + n = 4 → X Z (d + 2) s_C_add (mN M) (mN M) (ex none (mW M (addF (mI M) c u o (-1000003)))) 19 [some (.ref c), some (.ref u), some (.int o), some (.int (nI (csz (mI M) c * 6))), some (.int (nI i))] [] (mW M (addP (mI M) (mI M) c u i)) := by
  have h2 := cl_40 hp
  have hs := cl_s hp
  have hne : u ≠ c + 1 := by
    intro e
    have := hp.2.2.2.1
    rw [← e, hk2] at this
    simp at this
    omega
  have hA : ∀ {k}, k < 4 → isA M u (nI k) = True := fun {k} h => eq_true ⟨hu, by rw [hk2], by rw [hk2]; exact vp_in_nI h (by decide)⟩
  have hcs : ∀ n, addP (mI M) (mI M) c u n c 2 = nI (csz (mI M) c) := fun n => by rw [addP_ne (by omega), hs]
  intro n
  induction n with
  | zero =>
    intro i hi
    obtain rfl : i = 4 := by omega
    refine X_run (C := []) (S := [19]) 100 k_C_add okE_nil ?_
    simp (disch := first | trivial | assumption | omega) only [run, go, jmp, seek, inS, e0, e1, e2, e3, e4, e5, tsw, e7, e8, e9, e10, e11, e12, splitA, rcv, clook, lget, lset, lset2, lkill, Option.toList, List.nil_append, List.cons_append, wsum, List.map_cons, List.map_nil, List.sum_cons, List.sum_nil, Value.category, Nat.reduceAdd, List.getD_cons_zero, List.getD_cons_succ, ↓reduceIte, if_true, if_false, Bool.false_eq_true, Nat.reduceLeDiff, Nat.reduceEqDiff, true_or, or_true, true_and, and_true, and_self, or_self, not_true, not_false_iff, mR_stI, mN_stI, isO_stI, isA_stI, mI_stI, mR_mW, mN_mW, isO_mW, isA_mW, mI_mW, mW_mW, stI_mW, nI_addL, nI_mulL, nI_subL, nI_ltL, nI_leL, nI_Llt, nI_Lle, nI_eqL, nI_Leq, nI_add, pk_mul, nI_ltI, nI_leI, nI_eq, vpi, nI_clamp, nI_toN, p_C_add, cl_o hp, cl_r0 hp, cl_a hp, hcs, u2_ne, addP_ne]
    simp [ex, addF]
  | succ n ih =>
    intro i hi
    refine X_run (C := []) (S := [19]) 100 k_C_add okE_nil ?_
    simp (disch := first | trivial | assumption | omega) only [run, go, jmp, seek, inS, e0, e1, e2, e3, e4, e5, tsw, e7, e8, e9, e10, e11, e12, splitA, rcv, clook, lget, lset, lset2, lkill, Option.toList, List.nil_append, List.cons_append, wsum, List.map_cons, List.map_nil, List.sum_cons, List.sum_nil, Value.category, Nat.reduceAdd, List.getD_cons_zero, List.getD_cons_succ, ↓reduceIte, if_true, if_false, Bool.false_eq_true, Nat.reduceLeDiff, Nat.reduceEqDiff, true_or, or_true, true_and, and_true, and_self, or_self, not_true, not_false_iff, mR_stI, mN_stI, isO_stI, isA_stI, mI_stI, mR_mW, mN_mW, isO_mW, isA_mW, mI_mW, mW_mW, stI_mW, nI_addL, nI_mulL, nI_subL, nI_ltL, nI_leL, nI_Llt, nI_Lle, nI_eqL, nI_Leq, nI_add, pk_mul, nI_ltI, nI_leI, nI_eq, vpi, nI_clamp, nI_toN, p_C_add, cl_o hp, cl_r0 hp, cl_a hp, hA, hk2, hu, addP_ne, addP_1]
    rw [if_neg (by omega), if_neg (by omega)]
    exact ih (i + 1) (by omega)
set_option maxRecDepth 100000 in
set_option maxHeartbeats 4000000 in
theorem ok_C_add (Z : Zt) (d : Nat) : okE Z (d + 2) i_C_add e_C_add := mk_C_add fun c u o M hp => by
  obtain ⟨hp, hk, hu, hk2⟩ := hp
  have h2 := cl_40 hp
  have hs := cl_s hp
  refine Gm_run (C := [(i_C_isFull, e_C_isFull)]) (S := [19]) [some (.ref c), some (.ref u), some (.int o), none, none] 100 k_C_add (okE_cons (ok_C_isFull Z d) okE_nil) (ex_n rfl) ?_
  simp (disch := first | trivial | assumption | omega) only [run, go, jmp, seek, inS, e0, e1, e2, e3, e4, e5, tsw, e7, e8, e9, e10, e11, e12, splitA, rcv, clook, lget, lset, lset2, lkill, Option.toList, List.nil_append, List.cons_append, wsum, List.map_cons, List.map_nil, List.sum_cons, List.sum_nil, Value.category, Nat.reduceAdd, List.getD_cons_zero, List.getD_cons_succ, ↓reduceIte, if_true, if_false, Bool.false_eq_true, Nat.reduceLeDiff, Nat.reduceEqDiff, true_or, or_true, true_and, and_true, and_self, or_self, not_true, not_false_iff, mR_stI, mN_stI, isO_stI, isA_stI, mI_stI, mR_mW, mN_mW, isO_mW, isA_mW, mI_mW, mW_mW, stI_mW, nI_addL, nI_mulL, nI_subL, nI_ltL, nI_leL, nI_Llt, nI_Lle, nI_eqL, nI_Leq, nI_add, pk_mul, nI_ltI, nI_leI, nI_eq, vpi, nI_clamp, nI_toN, p_C_add, cl_o hp, cl_r0 hp, hs, pc_C_isFull, i_C_isFull, bv_0]
  rw [if_pos (by omega)]
  have := lp_C_add Z d (o := o) hp hk hu hk2 4 0 rfl
  rw [addP_0] at this
  exact this
end
section
/-- a row of another's: n numbers of it put down -/
def arP (f : Nat → Nat → Int32) (c o k n : Nat) : Nat → Nat → Int32 := fun x y => if x = c + 1 ∧ csz f c * 6 ≤ y ∧ y < csz f c * 6 + n then f (o + 1) (k * 6 + (y - csz f c * 6)) else f x y
def arF (f : Nat → Nat → Int32) (c o k : Nat) (n : Int32) : Nat → Nat → Int32 := u2 (u2 (arP f c o k 5) (c + 1) (csz f c * 6 + 5) n) c 2 (nI (csz f c + 1))
theorem arP_0 (f : Nat → Nat → Int32) (c o k : Nat) : arP f c o k 0 = f := by
  funext x y
  simp only [arP]
  rw [if_neg (by omega)]
theorem arP_1 {f : Nat → Nat → Int32} {c o k n : Nat} : u2 (arP f c o k n) (c + 1) (csz f c * 6 + n) (f (o + 1) (k * 6 + n)) = arP f c o k (n + 1) := by
  funext x y
  simp only [arP, u2_at]
  by_cases h1 : x = c + 1 ∧ y = csz f c * 6 + n
  · rw [if_pos h1, if_pos (by omega), h1.2, Nat.add_sub_cancel_left]
  · rw [if_neg h1]
    by_cases h3 : x = c + 1 ∧ csz f c * 6 ≤ y ∧ y < csz f c * 6 + n
    · rw [if_pos h3, if_pos (by omega)]
    · rw [if_neg h3, if_neg (by omega)]
theorem arP_ne {f : Nat → Nat → Int32} {c o k n x y : Nat} (h : x ≠ c + 1) : arP f c o k n x y = f x y := by
  unfold arP
  rw [if_neg (fun q => h q.1)]
theorem cl_ne1 {M : Mem} {c o : Nat} (h : ClOk M c) (h2 : ClOk M o) : o ≠ c + 1 := by
  intro e
  have h3 := h.2.2.1
  have h4 := h2.1.2.1
  rw [e] at h4
  omega
def e_C_addRowOf : Ent := (fun av M => ∃ (c : Nat) (o : Nat) (k : Nat) (n : Int32), av = [.ref c, .ref o, .int (nI k), .int n] ∧ k < 2 ^ 31 ∧ (ClOk M c ∧ ClOk M o ∧ csz (mI M) c < ccap c ∧ k < csz (mI M) o ∧ c ≠ o), fun av M r_ M_ => ∀ (c : Nat) (o : Nat) (k : Nat) (n : Int32), k < 2 ^ 31 → av = [.ref c, .ref o, .int (nI k), .int n] → r_ = (none) ∧ M_ = (mW M (arF (mI M) c o k n)))
theorem pc_C_addRowOf {c : Nat} {o : Nat} {k : Nat} {n : Int32} {M : Mem} {K : Option Value → Mem → Prop} (hp : ClOk M c ∧ ClOk M o ∧ csz (mI M) c < ccap c ∧ k < csz (mI M) o ∧ c ≠ o) (h_k : k < 2 ^ 31) : pcall e_C_addRowOf [.ref c, .ref o, .int (nI k), .int n] M K = K (none) (mW M (arF (mI M) c o k n)) := propext ⟨fun h => h.2 _ _ (fun c' o' k' n' h_k' e => by simp only [List.cons.injEq, Value.ref.injEq, Value.int.injEq, Value.long.injEq, and_true] at e; obtain ⟨q0, q1, q2, q3⟩ := e; obtain rfl := q0; obtain rfl := q1; obtain rfl := (nI_eq h_k h_k').mp q2; obtain rfl := q3; exact ⟨rfl, rfl⟩), fun h => ⟨⟨c, o, k, n, rfl, h_k, hp⟩, fun r_ M_ q => by obtain ⟨rfl, rfl⟩ := q _ _ _ _ h_k rfl; exact h⟩⟩
theorem mk_C_addRowOf {Z : Zt} {d : Nat} (h : ∀ (c : Nat) (o : Nat) (k : Nat) (n : Int32) (M : Mem), k < 2 ^ 31 → (ClOk M c ∧ ClOk M o ∧ csz (mI M) c < ccap c ∧ k < csz (mI M) o ∧ c ≠ o) → Gm Z d s_C_addRowOf [.ref c, .ref o, .int (nI k), .int n] M (ex (none) (mW M (arF (mI M) c o k n)))) : okE Z d i_C_addRowOf e_C_addRowOf := by
  rintro av M ⟨c, o, k, n, rfl, h_k, hp⟩
  exact Gm.cons (h c o k n M h_k hp) (fun r_ M_ q c' o' k' n' h_k' e => by simp only [List.cons.injEq, Value.ref.injEq, Value.int.injEq, Value.long.injEq, and_true] at e; obtain ⟨q0, q1, q2, q3⟩ := e; obtain rfl := q0; obtain rfl := q1; obtain rfl := (nI_eq h_k h_k').mp q2; obtain rfl := q3; exact q)
set_option maxRecDepth 100000 in
set_option maxHeartbeats 4000000 in
theorem lp_C_addRowOf (Z : Zt) (d : Nat) {c o k : Nat} {nn : Int32} {M : Mem} (hp : ClOk M c) (hp2 : ClOk M o) (hc : csz (mI M) c < ccap c) (hk : k < csz (mI M) o) (hne : c ≠ o) : ∀ n i, i + n = 5 → X Z (d + 3) s_C_addRowOf (mN M) (mN M) (ex none (mW M (arF (mI M) c o k nn))) 20 [some (.ref c), some (.ref o), some (.int (nI k)), some (.int nn), some (.int (nI (csz (mI M) c * 6))), some (.int (nI i))] [] (mW M (arP (mI M) c o k i)) := by
  have h2 := cl_40 hp
  have h3 := cl_40 hp2
  have h4 := cl_le hp2
  have hs := cl_s hp
  have hn1 := cl_ne1 hp hp2
  have hcs : ∀ n, arP (mI M) c o k n c 2 = nI (csz (mI M) c) := fun n => by rw [arP_ne (by omega), hs]
  intro n
  induction n with
  | zero =>
    intro i hi
    obtain rfl : i = 5 := by omega
    refine X_run (C := []) (S := [20]) 100 k_C_addRowOf okE_nil ?_
    simp (disch := first | trivial | assumption | omega) only [run, go, jmp, seek, inS, e0, e1, e2, e3, e4, e5, tsw, e7, e8, e9, e10, e11, e12, splitA, rcv, clook, lget, lset, lset2, lkill, Option.toList, List.nil_append, List.cons_append, wsum, List.map_cons, List.map_nil, List.sum_cons, List.sum_nil, Value.category, Nat.reduceAdd, List.getD_cons_zero, List.getD_cons_succ, ↓reduceIte, if_true, if_false, Bool.false_eq_true, Nat.reduceLeDiff, Nat.reduceEqDiff, true_or, or_true, true_and, and_true, and_self, or_self, not_true, not_false_iff, mR_stI, mN_stI, isO_stI, isA_stI, mI_stI, mR_mW, mN_mW, isO_mW, isA_mW, mI_mW, mW_mW, stI_mW, nI_addL, nI_mulL, nI_subL, nI_ltL, nI_leL, nI_Llt, nI_Lle, nI_eqL, nI_Leq, nI_add, pk_mul, nI_ltI, nI_leI, nI_eq, vpi, nI_clamp, nI_toN, p_C_addRowOf, cl_o hp, cl_r0 hp, cl_a hp, hcs, u2_ne, arP_ne]
    simp [ex, arF]
  | succ n ih =>
    intro i hi
    have he : csz (arP (mI M) c o k i) o = csz (mI M) o := by
      unfold csz
      rw [arP_ne (by omega)]
    have ho : ClOk (mW M (arP (mI M) c o k i)) o := cl_mW hp2 (s := csz (mI M) o) (by rw [arP_ne (by omega)]; exact cl_s hp2) h4
    have hcell : cellF (arP (mI M) c o k i) o (nI k) (nI i) = mI M (o + 1) (k * 6 + i) := by
      have := cellF_at (j := i) ho (k := k) (by show k < csz (arP (mI M) c o k i) o; rw [he]; exact hk) (by omega)
      rw [mI_mW] at this
      rw [this, arP_ne (by omega)]
    refine X_run (C := [(i_C_cell, e_C_cell)]) (S := [20]) 100 k_C_addRowOf (okE_cons (ok_C_cell Z d) okE_nil) ?_
    simp (disch := first | trivial | assumption | omega) only [run, go, jmp, seek, inS, e0, e1, e2, e3, e4, e5, tsw, e7, e8, e9, e10, e11, e12, splitA, rcv, clook, lget, lset, lset2, lkill, Option.toList, List.nil_append, List.cons_append, wsum, List.map_cons, List.map_nil, List.sum_cons, List.sum_nil, Value.category, Nat.reduceAdd, List.getD_cons_zero, List.getD_cons_succ, ↓reduceIte, if_true, if_false, Bool.false_eq_true, Nat.reduceLeDiff, Nat.reduceEqDiff, true_or, or_true, true_and, and_true, and_self, or_self, not_true, not_false_iff, mR_stI, mN_stI, isO_stI, isA_stI, mI_stI, mR_mW, mN_mW, isO_mW, isA_mW, mI_mW, mW_mW, stI_mW, nI_addL, nI_mulL, nI_subL, nI_ltL, nI_leL, nI_Llt, nI_Lle, nI_eqL, nI_Leq, nI_add, pk_mul, nI_ltI, nI_leI, nI_eq, vpi, nI_clamp, nI_toN, p_C_addRowOf, cl_o hp, cl_o hp2, cl_r0 hp, cl_a hp, pc_C_cell ho, i_C_cell, hcell, arP_1]
    rw [if_neg (by omega)]
    exact ih (i + 1) (by omega)
set_option maxRecDepth 100000 in
set_option maxHeartbeats 4000000 in
theorem ok_C_addRowOf (Z : Zt) (d : Nat) : okE Z (d + 3) i_C_addRowOf e_C_addRowOf := mk_C_addRowOf fun c o k nn M hkk hp => by
  obtain ⟨hp, hp2, hc, hk, hne⟩ := hp
  have h2 := cl_40 hp
  have hs := cl_s hp
  refine Gm_run (C := [(i_C_isFull, e_C_isFull)]) (S := [20]) [some (.ref c), some (.ref o), some (.int (nI k)), some (.int nn), none, none] 100 k_C_addRowOf (okE_cons (ok_C_isFull Z (d + 1)) okE_nil) (ex_n rfl) ?_
  simp (disch := first | trivial | assumption | omega) only [run, go, jmp, seek, inS, e0, e1, e2, e3, e4, e5, tsw, e7, e8, e9, e10, e11, e12, splitA, rcv, clook, lget, lset, lset2, lkill, Option.toList, List.nil_append, List.cons_append, wsum, List.map_cons, List.map_nil, List.sum_cons, List.sum_nil, Value.category, Nat.reduceAdd, List.getD_cons_zero, List.getD_cons_succ, ↓reduceIte, if_true, if_false, Bool.false_eq_true, Nat.reduceLeDiff, Nat.reduceEqDiff, true_or, or_true, true_and, and_true, and_self, or_self, not_true, not_false_iff, mR_stI, mN_stI, isO_stI, isA_stI, mI_stI, mR_mW, mN_mW, isO_mW, isA_mW, mI_mW, mW_mW, stI_mW, nI_addL, nI_mulL, nI_subL, nI_ltL, nI_leL, nI_Llt, nI_Lle, nI_eqL, nI_Leq, nI_add, pk_mul, nI_ltI, nI_leI, nI_eq, vpi, nI_clamp, nI_toN, p_C_addRowOf, cl_o hp, cl_r0 hp, hs, pc_C_isFull, i_C_isFull, bv_0]
  rw [if_pos (by omega)]
  have := lp_C_addRowOf Z d (nn := nn) hp hp2 hc hk hne 5 0 rfl
  rw [arP_0] at this
  exact this
def crF (f : Nat → Nat → Int32) (c o n : Nat) : Nat → Nat → Int32 := u2 (cpA f (o + 1) (c + 1) n) c 2 (f o 2)
def e_C_copyRows : Ent := (fun av M => ∃ (c : Nat) (o : Nat), av = [.ref c, .ref o] ∧ (ClOk M c ∧ ClOk M o ∧ ccap c = ccap o), fun av M r_ M_ => ∀ (c : Nat) (o : Nat), av = [.ref c, .ref o] → r_ = (none) ∧ M_ = (mW M (crF (mI M) c o (ccap c * 6))))
theorem pc_C_copyRows {c : Nat} {o : Nat} {M : Mem} {K : Option Value → Mem → Prop} (hp : ClOk M c ∧ ClOk M o ∧ ccap c = ccap o) : pcall e_C_copyRows [.ref c, .ref o] M K = K (none) (mW M (crF (mI M) c o (ccap c * 6))) := propext ⟨fun h => h.2 _ _ (fun c' o' e => by simp only [List.cons.injEq, Value.ref.injEq, Value.int.injEq, Value.long.injEq, and_true] at e; obtain ⟨q0, q1⟩ := e; obtain rfl := q0; obtain rfl := q1; exact ⟨rfl, rfl⟩), fun h => ⟨⟨c, o, rfl, hp⟩, fun r_ M_ q => by obtain ⟨rfl, rfl⟩ := q _ _ rfl; exact h⟩⟩
theorem mk_C_copyRows {Z : Zt} {d : Nat} (h : ∀ (c : Nat) (o : Nat) (M : Mem), (ClOk M c ∧ ClOk M o ∧ ccap c = ccap o) → Gm Z d s_C_copyRows [.ref c, .ref o] M (ex (none) (mW M (crF (mI M) c o (ccap c * 6))))) : okE Z d i_C_copyRows e_C_copyRows := by
  rintro av M ⟨c, o, rfl, hp⟩
  exact Gm.cons (h c o M  hp) (fun r_ M_ q c' o' e => by simp only [List.cons.injEq, Value.ref.injEq, Value.int.injEq, Value.long.injEq, and_true] at e; obtain ⟨q0, q1⟩ := e; obtain rfl := q0; obtain rfl := q1; exact q)
set_option maxRecDepth 100000 in
set_option maxHeartbeats 4000000 in
theorem ok_C_copyRows (Z : Zt) (d : Nat) : okE Z (d + 2) i_C_copyRows e_C_copyRows := mk_C_copyRows fun c o M hp => by
  obtain ⟨hp, hp2, hc⟩ := hp
  have h2 := cl_40 hp
  have hne := cl_ne1 hp hp2
  have hk1 : kd (c + 1) = (1, ccap c * 6) := Prod.ext hp.2.2.1 hp.2.2.2.1
  have hk2 : kd (o + 1) = (1, ccap c * 6) := by rw [hc]; exact Prod.ext hp2.2.2.1 hp2.2.2.2.1
  have hl1 := hp.2.1
  have hl2 := hp2.2.1
  refine Gm_run (C := [(i_B_copy, e_B_copy)]) (S := []) [some (.ref c), some (.ref o)] 100 k_C_copyRows (okE_cons (ok_B_copy Z d) okE_nil) (ex_n rfl) ?_
  simp only [run, go, jmp, seek, inS, e0, e1, e2, e3, e4, e5, tsw, e7, e8, e9, e10, e11, e12, splitA, rcv, clook, lget, lset, lset2, lkill, Option.toList, List.nil_append, List.cons_append, wsum, List.map_cons, List.map_nil, List.sum_cons, List.sum_nil, Value.category, Nat.reduceAdd, List.getD_cons_zero, List.getD_cons_succ, ↓reduceIte, if_true, if_false, Bool.false_eq_true, Nat.reduceLeDiff, Nat.reduceEqDiff, true_or, or_true, true_and, and_true, and_self, or_self, not_true, not_false_iff, mR_stI, mN_stI, isO_stI, isA_stI, mI_stI, mR_mW, mN_mW, isO_mW, isA_mW, mI_mW, mW_mW, stI_mW, p_C_copyRows, cl_o hp, cl_o hp2, cl_r0 hp, cl_r0 hp2, i_B_copy, pc_B_copy (a := o + 1) (b := c + 1) (M := M) ⟨hl2, hl1, by rw [hk2], by rw [hk1, hk2], by rw [hk2]; omega⟩]
  refine ⟨rfl, ?_⟩
  rw [hk2]
  have : cpA (mI M) (o + 1) (c + 1) (ccap c * 6) o 2 = mI M o 2 := by
    unfold cpA
    rw [if_neg (fun q => hne q.1)]
  rw [this]
  rfl
/-! ===== a ledger: fifteen cells from b on ===== -/
def lnT (f : Nat → Nat → Int32) (b : Nat) : Nat := (f b 13).toNatClampNeg
def lnB (f : Nat → Nat → Int32) (b : Nat) : Nat := (f b 12).toNatClampNeg
def LedS (M : Mem) (b : Nat) : Prop := b + 14 < mN M ∧ (∀ j, j < 15 → kd (b + j) = ledK.getD j (0, 0)) ∧ (∀ j, j < 9 → mR M b j = b + 1 + j) ∧ mR M b 9 = b + 10 ∧ mR M b 10 = b + 12 ∧ mR M b 11 = b + 14 ∧ mR M (b + 10) 0 = b + 11 ∧ mR M (b + 10) 1 = 40 ∧ mR M (b + 12) 0 = b + 13 ∧ mR M (b + 12) 1 = 24
def LedD (f : Nat → Nat → Int32) (b : Nat) : Prop := f (b + 10) 2 = nI (csz f (b + 10)) ∧ csz f (b + 10) ≤ 40 ∧ f (b + 12) 2 = nI (csz f (b + 12)) ∧ csz f (b + 12) ≤ 24 ∧ f b 13 = nI (lnT f b) ∧ lnT f b ≤ 6 ∧ f b 12 = nI (lnB f b) ∧ lnB f b ≤ 6
theorem ld_o {M : Mem} {b : Nat} (h : LedS M b) : isO M b 2 = True := eq_true ⟨by have := h.1; omega, by have := h.2.1 0 (by omega); rw [Nat.add_zero] at this; rw [this]; rfl, by have := h.2.1 0 (by omega); rw [Nat.add_zero] at this; rw [this]; rfl⟩
theorem ld_og {M : Mem} {b : Nat} (h : LedS M b) : isO M (b + 10) 0 = True := eq_true ⟨by have := h.1; omega, by rw [h.2.1 10 (by omega)]; rfl, by rw [h.2.1 10 (by omega)]; rfl⟩
theorem ld_od {M : Mem} {b : Nat} (h : LedS M b) : isO M (b + 12) 0 = True := eq_true ⟨by have := h.1; omega, by rw [h.2.1 12 (by omega)]; rfl, by rw [h.2.1 12 (by omega)]; rfl⟩
theorem ld_r9 {M : Mem} {b : Nat} (h : LedS M b) : mR M b 9 = b + 10 := h.2.2.2.1
theorem ld_r10 {M : Mem} {b : Nat} (h : LedS M b) : mR M b 10 = b + 12 := h.2.2.2.2.1
theorem ld_r11 {M : Mem} {b : Nat} (h : LedS M b) : mR M b 11 = b + 14 := h.2.2.2.2.2.1
theorem ld_r0 {M : Mem} {b : Nat} (h : LedS M b) : mR M b 0 = b + 1 := by rw [h.2.2.1 0 (by omega)]
theorem ld_r1 {M : Mem} {b : Nat} (h : LedS M b) : mR M b 1 = b + 2 := by rw [h.2.2.1 1 (by omega)]
theorem ld_r2 {M : Mem} {b : Nat} (h : LedS M b) : mR M b 2 = b + 3 := by rw [h.2.2.1 2 (by omega)]
theorem ld_r3 {M : Mem} {b : Nat} (h : LedS M b) : mR M b 3 = b + 4 := by rw [h.2.2.1 3 (by omega)]
theorem ld_r4 {M : Mem} {b : Nat} (h : LedS M b) : mR M b 4 = b + 5 := by rw [h.2.2.1 4 (by omega)]
theorem ld_r5 {M : Mem} {b : Nat} (h : LedS M b) : mR M b 5 = b + 6 := by rw [h.2.2.1 5 (by omega)]
theorem ld_r6 {M : Mem} {b : Nat} (h : LedS M b) : mR M b 6 = b + 7 := by rw [h.2.2.1 6 (by omega)]
theorem ld_r7 {M : Mem} {b : Nat} (h : LedS M b) : mR M b 7 = b + 8 := by rw [h.2.2.1 7 (by omega)]
theorem ld_r8 {M : Mem} {b : Nat} (h : LedS M b) : mR M b 8 = b + 9 := by rw [h.2.2.1 8 (by omega)]
theorem ld_k1 {M : Mem} {b : Nat} (h : LedS M b) : kd (b + 1) = (1, 4) := h.2.1 1 (by omega)
theorem ld_l1 {M : Mem} {b : Nat} (h : LedS M b) : (b + 1 < mN M) = True := eq_true (by have := h.1; omega)
theorem ld_a1 {M : Mem} {b k : Nat} (h : LedS M b) (hk : k < 4) : isA M (b + 1) (nI k) = True := eq_true ⟨by have := h.1; omega, by rw [ld_k1 h], by rw [ld_k1 h]; exact vp_in_nI hk (by omega)⟩
theorem ld_k2 {M : Mem} {b : Nat} (h : LedS M b) : kd (b + 2) = (1, 4) := h.2.1 2 (by omega)
theorem ld_l2 {M : Mem} {b : Nat} (h : LedS M b) : (b + 2 < mN M) = True := eq_true (by have := h.1; omega)
theorem ld_a2 {M : Mem} {b k : Nat} (h : LedS M b) (hk : k < 4) : isA M (b + 2) (nI k) = True := eq_true ⟨by have := h.1; omega, by rw [ld_k2 h], by rw [ld_k2 h]; exact vp_in_nI hk (by omega)⟩
theorem ld_k3 {M : Mem} {b : Nat} (h : LedS M b) : kd (b + 3) = (1, 4) := h.2.1 3 (by omega)
theorem ld_l3 {M : Mem} {b : Nat} (h : LedS M b) : (b + 3 < mN M) = True := eq_true (by have := h.1; omega)
theorem ld_a3 {M : Mem} {b k : Nat} (h : LedS M b) (hk : k < 4) : isA M (b + 3) (nI k) = True := eq_true ⟨by have := h.1; omega, by rw [ld_k3 h], by rw [ld_k3 h]; exact vp_in_nI hk (by omega)⟩
theorem ld_k4 {M : Mem} {b : Nat} (h : LedS M b) : kd (b + 4) = (1, 6) := h.2.1 4 (by omega)
theorem ld_l4 {M : Mem} {b : Nat} (h : LedS M b) : (b + 4 < mN M) = True := eq_true (by have := h.1; omega)
theorem ld_a4 {M : Mem} {b k : Nat} (h : LedS M b) (hk : k < 6) : isA M (b + 4) (nI k) = True := eq_true ⟨by have := h.1; omega, by rw [ld_k4 h], by rw [ld_k4 h]; exact vp_in_nI hk (by omega)⟩
theorem ld_k5 {M : Mem} {b : Nat} (h : LedS M b) : kd (b + 5) = (1, 6) := h.2.1 5 (by omega)
theorem ld_l5 {M : Mem} {b : Nat} (h : LedS M b) : (b + 5 < mN M) = True := eq_true (by have := h.1; omega)
theorem ld_a5 {M : Mem} {b k : Nat} (h : LedS M b) (hk : k < 6) : isA M (b + 5) (nI k) = True := eq_true ⟨by have := h.1; omega, by rw [ld_k5 h], by rw [ld_k5 h]; exact vp_in_nI hk (by omega)⟩
theorem ld_k6 {M : Mem} {b : Nat} (h : LedS M b) : kd (b + 6) = (1, 6) := h.2.1 6 (by omega)
theorem ld_l6 {M : Mem} {b : Nat} (h : LedS M b) : (b + 6 < mN M) = True := eq_true (by have := h.1; omega)
theorem ld_a6 {M : Mem} {b k : Nat} (h : LedS M b) (hk : k < 6) : isA M (b + 6) (nI k) = True := eq_true ⟨by have := h.1; omega, by rw [ld_k6 h], by rw [ld_k6 h]; exact vp_in_nI hk (by omega)⟩
theorem ld_k7 {M : Mem} {b : Nat} (h : LedS M b) : kd (b + 7) = (1, 24) := h.2.1 7 (by omega)
theorem ld_l7 {M : Mem} {b : Nat} (h : LedS M b) : (b + 7 < mN M) = True := eq_true (by have := h.1; omega)
theorem ld_a7 {M : Mem} {b k : Nat} (h : LedS M b) (hk : k < 24) : isA M (b + 7) (nI k) = True := eq_true ⟨by have := h.1; omega, by rw [ld_k7 h], by rw [ld_k7 h]; exact vp_in_nI hk (by omega)⟩
theorem ld_k8 {M : Mem} {b : Nat} (h : LedS M b) : kd (b + 8) = (1, 24) := h.2.1 8 (by omega)
theorem ld_l8 {M : Mem} {b : Nat} (h : LedS M b) : (b + 8 < mN M) = True := eq_true (by have := h.1; omega)
theorem ld_a8 {M : Mem} {b k : Nat} (h : LedS M b) (hk : k < 24) : isA M (b + 8) (nI k) = True := eq_true ⟨by have := h.1; omega, by rw [ld_k8 h], by rw [ld_k8 h]; exact vp_in_nI hk (by omega)⟩
theorem ld_k9 {M : Mem} {b : Nat} (h : LedS M b) : kd (b + 9) = (1, 24) := h.2.1 9 (by omega)
theorem ld_l9 {M : Mem} {b : Nat} (h : LedS M b) : (b + 9 < mN M) = True := eq_true (by have := h.1; omega)
theorem ld_a9 {M : Mem} {b k : Nat} (h : LedS M b) (hk : k < 24) : isA M (b + 9) (nI k) = True := eq_true ⟨by have := h.1; omega, by rw [ld_k9 h], by rw [ld_k9 h]; exact vp_in_nI hk (by omega)⟩
theorem ld_k11 {M : Mem} {b : Nat} (h : LedS M b) : kd (b + 11) = (1, 240) := h.2.1 11 (by omega)
theorem ld_l11 {M : Mem} {b : Nat} (h : LedS M b) : (b + 11 < mN M) = True := eq_true (by have := h.1; omega)
theorem ld_a11 {M : Mem} {b k : Nat} (h : LedS M b) (hk : k < 240) : isA M (b + 11) (nI k) = True := eq_true ⟨by have := h.1; omega, by rw [ld_k11 h], by rw [ld_k11 h]; exact vp_in_nI hk (by omega)⟩
theorem ld_k13 {M : Mem} {b : Nat} (h : LedS M b) : kd (b + 13) = (1, 144) := h.2.1 13 (by omega)
theorem ld_l13 {M : Mem} {b : Nat} (h : LedS M b) : (b + 13 < mN M) = True := eq_true (by have := h.1; omega)
theorem ld_a13 {M : Mem} {b k : Nat} (h : LedS M b) (hk : k < 144) : isA M (b + 13) (nI k) = True := eq_true ⟨by have := h.1; omega, by rw [ld_k13 h], by rw [ld_k13 h]; exact vp_in_nI hk (by omega)⟩
theorem ld_k14 {M : Mem} {b : Nat} (h : LedS M b) : kd (b + 14) = (1, 6) := h.2.1 14 (by omega)
theorem ld_l14 {M : Mem} {b : Nat} (h : LedS M b) : (b + 14 < mN M) = True := eq_true (by have := h.1; omega)
theorem ld_a14 {M : Mem} {b k : Nat} (h : LedS M b) (hk : k < 6) : isA M (b + 14) (nI k) = True := eq_true ⟨by have := h.1; omega, by rw [ld_k14 h], by rw [ld_k14 h]; exact vp_in_nI hk (by omega)⟩
theorem ccap_g {M : Mem} {b : Nat} (h : LedS M b) : ccap (b + 10) = 40 := by
  unfold ccap
  rw [ld_k11 h]
  rfl
theorem ccap_d {M : Mem} {b : Nat} (h : LedS M b) : ccap (b + 12) = 24 := by
  unfold ccap
  rw [ld_k13 h]
  rfl
theorem ld_cg {M : Mem} {b : Nat} (h : LedS M b) (h2 : LedD (mI M) b) : ClOk M (b + 10) := by
  have e := ccap_g h
  exact ⟨of_eq_true (ld_og h), of_eq_true (ld_l11 h), by rw [ld_k11 h], by rw [ld_k11 h, e], by omega, h.2.2.2.2.2.2.1, by rw [e]; exact h.2.2.2.2.2.2.2.1, h2.1, by rw [e]; exact h2.2.1⟩
theorem ld_cd {M : Mem} {b : Nat} (h : LedS M b) (h2 : LedD (mI M) b) : ClOk M (b + 12) := by
  have e := ccap_d h
  exact ⟨of_eq_true (ld_od h), of_eq_true (ld_l13 h), by rw [ld_k13 h], by rw [ld_k13 h, e], by omega, h.2.2.2.2.2.2.2.2.1, by rw [e]; exact h.2.2.2.2.2.2.2.2.2, h2.2.2.1, by rw [e]; exact h2.2.2.2.1⟩
def LedOk (M : Mem) (b : Nat) : Prop := LedS M b ∧ LedD (mI M) b
theorem ld_t {M : Mem} {b : Nat} (h : LedD (mI M) b) : mI M b 13 = nI (lnT (mI M) b) := h.2.2.2.2.1
theorem ld_t6 {M : Mem} {b : Nat} (h : LedD (mI M) b) : lnT (mI M) b ≤ 6 := h.2.2.2.2.2.1
theorem ld_b {M : Mem} {b : Nat} (h : LedD (mI M) b) : mI M b 12 = nI (lnB (mI M) b) := h.2.2.2.2.2.2.1
theorem ld_b6 {M : Mem} {b : Nat} (h : LedD (mI M) b) : lnB (mI M) b ≤ 6 := h.2.2.2.2.2.2.2
end
section
theorem bv_of {p : Prop} {v : Int32} (h : v = 1 ∧ p ∨ v = 0 ∧ ¬ p) : v = bv p := by
  rcases h with ⟨rfl, h⟩ | ⟨rfl, h⟩
  · rw [bv_T h]
  · rw [bv_F h]
def e_L_hasTenant : Ent := (fun av M => ∃ (b : Nat) (t : Int32), av = [.ref b, .int t] ∧ (LedOk M b), fun av M r_ M_ => ∀ (b : Nat) (t : Int32), av = [.ref b, .int t] → r_ = (some (.int (bv (0 ≤ t ∧ t < nI (lnT (mI M) b))))) ∧ M_ = (M))
theorem pc_L_hasTenant {b : Nat} {t : Int32} {M : Mem} {K : Option Value → Mem → Prop} (hp : LedOk M b) : pcall e_L_hasTenant [.ref b, .int t] M K = K (some (.int (bv (0 ≤ t ∧ t < nI (lnT (mI M) b))))) (M) := propext ⟨fun h => h.2 _ _ (fun b' t' e => by simp only [List.cons.injEq, Value.ref.injEq, Value.int.injEq, Value.long.injEq, and_true] at e; obtain ⟨q0, q1⟩ := e; obtain rfl := q0; obtain rfl := q1; exact ⟨rfl, rfl⟩), fun h => ⟨⟨b, t, rfl, hp⟩, fun r_ M_ q => by obtain ⟨rfl, rfl⟩ := q _ _ rfl; exact h⟩⟩
theorem mk_L_hasTenant {Z : Zt} {d : Nat} (h : ∀ (b : Nat) (t : Int32) (M : Mem), (LedOk M b) → Gm Z d s_L_hasTenant [.ref b, .int t] M (ex (some (.int (bv (0 ≤ t ∧ t < nI (lnT (mI M) b))))) (M))) : okE Z d i_L_hasTenant e_L_hasTenant := by
  rintro av M ⟨b, t, rfl, hp⟩
  exact Gm.cons (h b t M  hp) (fun r_ M_ q b' t' e => by simp only [List.cons.injEq, Value.ref.injEq, Value.int.injEq, Value.long.injEq, and_true] at e; obtain ⟨q0, q1⟩ := e; obtain rfl := q0; obtain rfl := q1; exact q)
set_option maxRecDepth 100000 in
set_option maxHeartbeats 4000000 in
theorem ok_L_hasTenant (Z : Zt) (d : Nat) : okE Z (d + 1) i_L_hasTenant e_L_hasTenant := mk_L_hasTenant fun b t M hp => by
  obtain ⟨hL, hD⟩ := hp
  have h6 := ld_t6 hD
  refine Gm_run (C := []) (S := []) [some (.ref b), some (.int t)] 100 k_L_hasTenant okE_nil (ex_n rfl) ?_
  simp only [run, go, jmp, seek, inS, e0, e1, e2, e3, e4, e5, tsw, e7, e8, e9, e10, e11, e12, splitA, rcv, clook, lget, lset, lset2, lkill, Option.toList, List.nil_append, List.cons_append, wsum, List.map_cons, List.map_nil, List.sum_cons, List.sum_nil, Value.category, Nat.reduceAdd, List.getD_cons_zero, List.getD_cons_succ, ↓reduceIte, if_true, if_false, Bool.false_eq_true, Nat.reduceLeDiff, Nat.reduceEqDiff, true_or, or_true, true_and, and_true, and_self, or_self, not_true, not_false_iff, mR_stI, mN_stI, isO_stI, isA_stI, mI_stI, mR_mW, mN_mW, isO_mW, isA_mW, mI_mW, mW_mW, stI_mW, p_L_hasTenant, ld_o hL, ld_t hD]
  split
  · next h => exact ⟨by rw [bv_F (fun q => absurd q.1 (Int32.not_le.mpr h))], rfl⟩
  · next h =>
    split
    · next h2 => exact ⟨by rw [bv_F (fun q => absurd q.2 (Int32.not_lt.mpr h2))], rfl⟩
    · next h2 =>
      split
      · next h3 =>
        exfalso
        obtain ⟨k, hk, rfl⟩ := nI_of h
        have g1 := (nI_ltI hk (by omega)).mp (Int32.not_le.mp h2)
        have g2 := (nI_leI (a := 6) (by omega) hk).mp h3
        omega
      · next h3 => exact ⟨by rw [bv_T ⟨Int32.not_lt.mp h, Int32.not_le.mp h2⟩], rfl⟩
/-- the price of a resource -/
def prF (f : Nat → Nat → Int32) (b r : Nat) : Int32 := if f (b + 1) r < 1 then 10 else 1 + 9 * f (b + 3) r / f (b + 1) r
theorem ne0_of_1le {x : Int32} (h : 1 ≤ x) : ¬ x = 0 := by
  rintro rfl
  revert h
  decide
def e_L_priceOf : Ent := (fun av M => ∃ (b : Nat) (r : Nat), av = [.ref b, .int (nI r)] ∧ r < 2 ^ 31 ∧ (LedOk M b ∧ r < 4), fun av M r_ M_ => ∀ (b : Nat) (r : Nat), r < 2 ^ 31 → av = [.ref b, .int (nI r)] → r_ = (some (.int (prF (mI M) b r))) ∧ M_ = (M))
theorem pc_L_priceOf {b : Nat} {r : Nat} {M : Mem} {K : Option Value → Mem → Prop} (hp : LedOk M b ∧ r < 4) (h_r : r < 2 ^ 31) : pcall e_L_priceOf [.ref b, .int (nI r)] M K = K (some (.int (prF (mI M) b r))) (M) := propext ⟨fun h => h.2 _ _ (fun b' r' h_r' e => by simp only [List.cons.injEq, Value.ref.injEq, Value.int.injEq, Value.long.injEq, and_true] at e; obtain ⟨q0, q1⟩ := e; obtain rfl := q0; obtain rfl := (nI_eq h_r h_r').mp q1; exact ⟨rfl, rfl⟩), fun h => ⟨⟨b, r, rfl, h_r, hp⟩, fun r_ M_ q => by obtain ⟨rfl, rfl⟩ := q _ _ h_r rfl; exact h⟩⟩
theorem mk_L_priceOf {Z : Zt} {d : Nat} (h : ∀ (b : Nat) (r : Nat) (M : Mem), r < 2 ^ 31 → (LedOk M b ∧ r < 4) → Gm Z d s_L_priceOf [.ref b, .int (nI r)] M (ex (some (.int (prF (mI M) b r))) (M))) : okE Z d i_L_priceOf e_L_priceOf := by
  rintro av M ⟨b, r, rfl, h_r, hp⟩
  exact Gm.cons (h b r M h_r hp) (fun r_ M_ q b' r' h_r' e => by simp only [List.cons.injEq, Value.ref.injEq, Value.int.injEq, Value.long.injEq, and_true] at e; obtain ⟨q0, q1⟩ := e; obtain rfl := q0; obtain rfl := (nI_eq h_r h_r').mp q1; exact q)
set_option maxRecDepth 100000 in
set_option maxHeartbeats 4000000 in
theorem ok_L_priceOf (Z : Zt) (d : Nat) : okE Z (d + 2) i_L_priceOf e_L_priceOf := mk_L_priceOf fun b r M hr0 hp => by
  obtain ⟨⟨hL, hD⟩, hr⟩ := hp
  refine Gm_run (C := [(i_B_isResource, e_B_isResource)]) (S := []) [some (.ref b), some (.int (nI r))] 100 k_L_priceOf (okE_cons (ok_B_isResource Z d) okE_nil) (ex_n rfl) ?_
  simp (disch := first | trivial | assumption | omega) only [run, go, jmp, seek, inS, e0, e1, e2, e3, e4, e5, tsw, e7, e8, e9, e10, e11, e12, splitA, rcv, clook, lget, lset, lset2, lkill, Option.toList, List.nil_append, List.cons_append, wsum, List.map_cons, List.map_nil, List.sum_cons, List.sum_nil, Value.category, Nat.reduceAdd, List.getD_cons_zero, List.getD_cons_succ, ↓reduceIte, if_true, if_false, Bool.false_eq_true, Nat.reduceLeDiff, Nat.reduceEqDiff, true_or, or_true, true_and, and_true, and_self, or_self, not_true, not_false_iff, mR_stI, mN_stI, isO_stI, isA_stI, mI_stI, mR_mW, mN_mW, isO_mW, isA_mW, mI_mW, mW_mW, stI_mW, nI_addL, nI_mulL, nI_subL, nI_ltL, nI_leL, nI_Llt, nI_Lle, nI_eqL, nI_Leq, nI_add, pk_mul, nI_ltI, nI_leI, nI_eq, vpi, nI_clamp, nI_toN, p_L_priceOf, ld_o hL, ld_og hL, ld_od hL, ld_r0 hL, ld_r1 hL, ld_r2 hL, ld_r3 hL, ld_r4 hL, ld_r5 hL, ld_r6 hL, ld_r7 hL, ld_r8 hL, ld_r9 hL, ld_r10 hL, ld_r11 hL, ld_a1 hL, ld_a2 hL, ld_a3 hL, ld_a4 hL, ld_a5 hL, ld_a6 hL, ld_a7 hL, ld_a8 hL, ld_a9 hL, ld_a11 hL, ld_a13 hL, ld_a14 hL, ld_t hD, ld_b hD, pc_B_isResource, i_B_isResource, bv_0]
  rw [if_neg (by omega)]
  split
  · next h => exact ⟨ne0_of_1le h, by rw [prF, if_neg (Int32.not_lt.mpr h)], rfl⟩
  · next h => exact ⟨by rw [prF, if_pos (Int32.not_le.mp h)], rfl⟩
/-- the dominant share, of the first n resources -/
def shP (f : Nat → Nat → Int32) (b t : Nat) : Nat → Int32
  | 0 => 0
  | r + 1 => if 0 < f (b + 1) r * f (b + 4) t then (if shP f b t r < 10000 * f (b + 9) (t * 4 + r) / (f (b + 1) r * f (b + 4) t) then 10000 * f (b + 9) (t * 4 + r) / (f (b + 1) r * f (b + 4) t) else shP f b t r) else shP f b t r
def e_L_shareOf : Ent := (fun av M => ∃ (b : Nat) (t : Nat), av = [.ref b, .int (nI t)] ∧ t < 2 ^ 31 ∧ (LedOk M b ∧ t < lnT (mI M) b), fun av M r_ M_ => ∀ (b : Nat) (t : Nat), t < 2 ^ 31 → av = [.ref b, .int (nI t)] → r_ = (some (.int (shP (mI M) b t 4))) ∧ M_ = (M))
theorem pc_L_shareOf {b : Nat} {t : Nat} {M : Mem} {K : Option Value → Mem → Prop} (hp : LedOk M b ∧ t < lnT (mI M) b) (h_t : t < 2 ^ 31) : pcall e_L_shareOf [.ref b, .int (nI t)] M K = K (some (.int (shP (mI M) b t 4))) (M) := propext ⟨fun h => h.2 _ _ (fun b' t' h_t' e => by simp only [List.cons.injEq, Value.ref.injEq, Value.int.injEq, Value.long.injEq, and_true] at e; obtain ⟨q0, q1⟩ := e; obtain rfl := q0; obtain rfl := (nI_eq h_t h_t').mp q1; exact ⟨rfl, rfl⟩), fun h => ⟨⟨b, t, rfl, h_t, hp⟩, fun r_ M_ q => by obtain ⟨rfl, rfl⟩ := q _ _ h_t rfl; exact h⟩⟩
theorem mk_L_shareOf {Z : Zt} {d : Nat} (h : ∀ (b : Nat) (t : Nat) (M : Mem), t < 2 ^ 31 → (LedOk M b ∧ t < lnT (mI M) b) → Gm Z d s_L_shareOf [.ref b, .int (nI t)] M (ex (some (.int (shP (mI M) b t 4))) (M))) : okE Z d i_L_shareOf e_L_shareOf := by
  rintro av M ⟨b, t, rfl, h_t, hp⟩
  exact Gm.cons (h b t M h_t hp) (fun r_ M_ q b' t' h_t' e => by simp only [List.cons.injEq, Value.ref.injEq, Value.int.injEq, Value.long.injEq, and_true] at e; obtain ⟨q0, q1⟩ := e; obtain rfl := q0; obtain rfl := (nI_eq h_t h_t').mp q1; exact q)
theorem ne0_of_pos {x : Int32} (h : 0 < x) : ¬ x = 0 := by
  rintro rfl
  revert h
  decide
set_option maxRecDepth 100000 in
set_option maxHeartbeats 4000000 in
theorem lp_L_shareOf (Z : Zt) (d : Nat) {b t : Nat} {w : Option Value} {M : Mem} (hL : LedS M b) (hD : LedD (mI M) b) (ht : t < lnT (mI M) b) : ∀ n i w, i + n = 4 → X Z (d + 2) s_L_shareOf (mN M) (mN M) (ex (some (.int (shP (mI M) b t 4))) M) 14 [some (.ref b), some (.int (nI t)), some (.int (shP (mI M) b t i)), some (.int (nI i)), w] [] M := by
  have h6 := ld_t6 hD
  intro n
  induction n with
  | zero =>
    intro i w hi
    obtain rfl : i = 4 := by omega
    refine X_run (C := []) (S := [14]) 100 k_L_shareOf okE_nil ?_
    simp (disch := first | trivial | assumption | omega) only [run, go, jmp, seek, inS, e0, e1, e2, e3, e4, e5, tsw, e7, e8, e9, e10, e11, e12, splitA, rcv, clook, lget, lset, lset2, lkill, Option.toList, List.nil_append, List.cons_append, wsum, List.map_cons, List.map_nil, List.sum_cons, List.sum_nil, Value.category, Nat.reduceAdd, List.getD_cons_zero, List.getD_cons_succ, ↓reduceIte, if_true, if_false, Bool.false_eq_true, Nat.reduceLeDiff, Nat.reduceEqDiff, true_or, or_true, true_and, and_true, and_self, or_self, not_true, not_false_iff, mR_stI, mN_stI, isO_stI, isA_stI, mI_stI, mR_mW, mN_mW, isO_mW, isA_mW, mI_mW, mW_mW, stI_mW, nI_addL, nI_mulL, nI_subL, nI_ltL, nI_leL, nI_Llt, nI_Lle, nI_eqL, nI_Leq, nI_add, pk_mul, nI_ltI, nI_leI, nI_eq, vpi, nI_clamp, nI_toN, p_L_shareOf]
    exact ⟨rfl, rfl⟩
  | succ n ih =>
    intro i w hi
    have := fun w => ih (i + 1) w (by omega)
    refine X_run (C := [(i_B_slot, e_B_slot)]) (S := [14]) 100 k_L_shareOf (okE_cons (ok_B_slot Z d) okE_nil) ?_
    simp (disch := first | trivial | assumption | omega) only [run, go, jmp, seek, inS, e0, e1, e2, e3, e4, e5, tsw, e7, e8, e9, e10, e11, e12, splitA, rcv, clook, lget, lset, lset2, lkill, Option.toList, List.nil_append, List.cons_append, wsum, List.map_cons, List.map_nil, List.sum_cons, List.sum_nil, Value.category, Nat.reduceAdd, List.getD_cons_zero, List.getD_cons_succ, ↓reduceIte, if_true, if_false, Bool.false_eq_true, Nat.reduceLeDiff, Nat.reduceEqDiff, true_or, or_true, true_and, and_true, and_self, or_self, not_true, not_false_iff, mR_stI, mN_stI, isO_stI, isA_stI, mI_stI, mR_mW, mN_mW, isO_mW, isA_mW, mI_mW, mW_mW, stI_mW, nI_addL, nI_mulL, nI_subL, nI_ltL, nI_leL, nI_Llt, nI_Lle, nI_eqL, nI_Leq, nI_add, pk_mul, nI_ltI, nI_leI, nI_eq, vpi, nI_clamp, nI_toN, p_L_shareOf, ld_o hL, ld_og hL, ld_od hL, ld_r0 hL, ld_r1 hL, ld_r2 hL, ld_r3 hL, ld_r4 hL, ld_r5 hL, ld_r6 hL, ld_r7 hL, ld_r8 hL, ld_r9 hL, ld_r10 hL, ld_r11 hL, ld_a1 hL, ld_a2 hL, ld_a3 hL, ld_a4 hL, ld_a5 hL, ld_a6 hL, ld_a7 hL, ld_a8 hL, ld_a9 hL, ld_a11 hL, ld_a13 hL, ld_a14 hL, ld_t hD, ld_b hD, pc_B_slot, i_B_slot]
    rw [if_neg (by omega)]
    simp only [shP] at this
    split
    · next h =>
      rw [if_neg (Int32.not_lt.mpr h)] at this
      exact this _
    · next h =>
      rw [if_pos (Int32.not_le.mp h)] at this
      exact ⟨ne0_of_pos (Int32.not_le.mp h), this _⟩
set_option maxRecDepth 100000 in
set_option maxHeartbeats 4000000 in
theorem ok_L_shareOf (Z : Zt) (d : Nat) : okE Z (d + 2) i_L_shareOf e_L_shareOf := mk_L_shareOf fun b t M ht0 hp => by
  obtain ⟨hp, ht⟩ := hp
  have hL := hp.1
  have hD := hp.2
  have h6 := ld_t6 hD
  refine Gm_run (C := [(i_L_hasTenant, e_L_hasTenant)]) (S := [14]) [some (.ref b), some (.int (nI t)), none, none, none] 100 k_L_shareOf (okE_cons (ok_L_hasTenant Z d) okE_nil) (ex_n rfl) ?_
  simp (disch := first | trivial | assumption | omega) only [run, go, jmp, seek, inS, e0, e1, e2, e3, e4, e5, tsw, e7, e8, e9, e10, e11, e12, splitA, rcv, clook, lget, lset, lset2, lkill, Option.toList, List.nil_append, List.cons_append, wsum, List.map_cons, List.map_nil, List.sum_cons, List.sum_nil, Value.category, Nat.reduceAdd, List.getD_cons_zero, List.getD_cons_succ, ↓reduceIte, if_true, if_false, Bool.false_eq_true, Nat.reduceLeDiff, Nat.reduceEqDiff, true_or, or_true, true_and, and_true, and_self, or_self, not_true, not_false_iff, mR_stI, mN_stI, isO_stI, isA_stI, mI_stI, mR_mW, mN_mW, isO_mW, isA_mW, mI_mW, mW_mW, stI_mW, nI_addL, nI_mulL, nI_subL, nI_ltL, nI_leL, nI_Llt, nI_Lle, nI_eqL, nI_Leq, nI_add, pk_mul, nI_ltI, nI_leI, nI_eq, vpi, nI_clamp, nI_toN, p_L_shareOf, ld_o hL, ld_og hL, ld_od hL, ld_r0 hL, ld_r1 hL, ld_r2 hL, ld_r3 hL, ld_r4 hL, ld_r5 hL, ld_r6 hL, ld_r7 hL, ld_r8 hL, ld_r9 hL, ld_r10 hL, ld_r11 hL, ld_a1 hL, ld_a2 hL, ld_a3 hL, ld_a4 hL, ld_a5 hL, ld_a6 hL, ld_a7 hL, ld_a8 hL, ld_a9 hL, ld_a11 hL, ld_a13 hL, ld_a14 hL, ld_t hD, ld_b hD, pc_L_hasTenant, i_L_hasTenant, bv_0]
  rw [if_neg (by omega)]
  exact lp_L_shareOf Z d (w := none) hL hD ht 4 0 _ rfl
/-- a sum over the six tenants' numbers of a resource -/
def smP (f : Nat → Nat → Int32) (a r : Nat) : Nat → Int32
  | 0 => 0
  | t + 1 => smP f a r t + f a (t * 4 + r)
def e_L_sumOverTenants : Ent := (fun av M => ∃ (b : Nat) (a : Nat) (r : Nat), av = [.ref b, .ref a, .int (nI r)] ∧ r < 2 ^ 31 ∧ (a < mN M ∧ kd a = (1, 24) ∧ r < 4), fun av M r_ M_ => ∀ (b : Nat) (a : Nat) (r : Nat), r < 2 ^ 31 → av = [.ref b, .ref a, .int (nI r)] → r_ = (some (.int (smP (mI M) a r 6))) ∧ M_ = (M))
theorem pc_L_sumOverTenants {b : Nat} {a : Nat} {r : Nat} {M : Mem} {K : Option Value → Mem → Prop} (hp : a < mN M ∧ kd a = (1, 24) ∧ r < 4) (h_r : r < 2 ^ 31) : pcall e_L_sumOverTenants [.ref b, .ref a, .int (nI r)] M K = K (some (.int (smP (mI M) a r 6))) (M) := propext ⟨fun h => h.2 _ _ (fun b' a' r' h_r' e => by simp only [List.cons.injEq, Value.ref.injEq, Value.int.injEq, Value.long.injEq, and_true] at e; obtain ⟨q0, q1, q2⟩ := e; obtain rfl := q0; obtain rfl := q1; obtain rfl := (nI_eq h_r h_r').mp q2; exact ⟨rfl, rfl⟩), fun h => ⟨⟨b, a, r, rfl, h_r, hp⟩, fun r_ M_ q => by obtain ⟨rfl, rfl⟩ := q _ _ _ h_r rfl; exact h⟩⟩
theorem mk_L_sumOverTenants {Z : Zt} {d : Nat} (h : ∀ (b : Nat) (a : Nat) (r : Nat) (M : Mem), r < 2 ^ 31 → (a < mN M ∧ kd a = (1, 24) ∧ r < 4) → Gm Z d s_L_sumOverTenants [.ref b, .ref a, .int (nI r)] M (ex (some (.int (smP (mI M) a r 6))) (M))) : okE Z d i_L_sumOverTenants e_L_sumOverTenants := by
  rintro av M ⟨b, a, r, rfl, h_r, hp⟩
  exact Gm.cons (h b a r M h_r hp) (fun r_ M_ q b' a' r' h_r' e => by simp only [List.cons.injEq, Value.ref.injEq, Value.int.injEq, Value.long.injEq, and_true] at e; obtain ⟨q0, q1, q2⟩ := e; obtain rfl := q0; obtain rfl := q1; obtain rfl := (nI_eq h_r h_r').mp q2; exact q)
set_option maxRecDepth 100000 in
set_option maxHeartbeats 4000000 in
theorem lp_L_sumOverTenants (Z : Zt) (d : Nat) {b a r : Nat} {M : Mem} (ha : a < mN M) (hk : kd a = (1, 24)) (hr : r < 4) : ∀ n i, i + n = 6 → X Z (d + 1) s_L_sumOverTenants (mN M) (mN M) (ex (some (.int (smP (mI M) a r 6))) M) 9 [some (.ref b), some (.ref a), some (.int (nI r)), some (.int (smP (mI M) a r i)), some (.int (nI (i * 4 + r)))] [] M := by
  have hA : ∀ {k}, k < 24 → isA M a (nI k) = True := fun {k} h => eq_true ⟨ha, by rw [hk], by rw [hk]; exact vp_in_nI h (by decide)⟩
  intro n
  induction n with
  | zero =>
    intro i hi
    obtain rfl : i = 6 := by omega
    refine X_run (C := []) (S := [9]) 100 k_L_sumOverTenants okE_nil ?_
    simp (disch := first | trivial | assumption | omega) only [run, go, jmp, seek, inS, e0, e1, e2, e3, e4, e5, tsw, e7, e8, e9, e10, e11, e12, splitA, rcv, clook, lget, lset, lset2, lkill, Option.toList, List.nil_append, List.cons_append, wsum, List.map_cons, List.map_nil, List.sum_cons, List.sum_nil, Value.category, Nat.reduceAdd, List.getD_cons_zero, List.getD_cons_succ, ↓reduceIte, if_true, if_false, Bool.false_eq_true, Nat.reduceLeDiff, Nat.reduceEqDiff, true_or, or_true, true_and, and_true, and_self, or_self, not_true, not_false_iff, mR_stI, mN_stI, isO_stI, isA_stI, mI_stI, mR_mW, mN_mW, isO_mW, isA_mW, mI_mW, mW_mW, stI_mW, nI_addL, nI_mulL, nI_subL, nI_ltL, nI_leL, nI_Llt, nI_Lle, nI_eqL, nI_Leq, nI_add, pk_mul, nI_ltI, nI_leI, nI_eq, vpi, nI_clamp, nI_toN, p_L_sumOverTenants, hk, ha]
    rw [if_pos (by omega)]
    exact ⟨rfl, rfl⟩
  | succ n ih =>
    intro i hi
    have := ih (i + 1) (by omega)
    refine X_run (C := []) (S := [9]) 100 k_L_sumOverTenants okE_nil ?_
    simp (disch := first | trivial | assumption | omega) only [run, go, jmp, seek, inS, e0, e1, e2, e3, e4, e5, tsw, e7, e8, e9, e10, e11, e12, splitA, rcv, clook, lget, lset, lset2, lkill, Option.toList, List.nil_append, List.cons_append, wsum, List.map_cons, List.map_nil, List.sum_cons, List.sum_nil, Value.category, Nat.reduceAdd, List.getD_cons_zero, List.getD_cons_succ, ↓reduceIte, if_true, if_false, Bool.false_eq_true, Nat.reduceLeDiff, Nat.reduceEqDiff, true_or, or_true, true_and, and_true, and_self, or_self, not_true, not_false_iff, mR_stI, mN_stI, isO_stI, isA_stI, mI_stI, mR_mW, mN_mW, isO_mW, isA_mW, mI_mW, mW_mW, stI_mW, nI_addL, nI_mulL, nI_subL, nI_ltL, nI_leL, nI_Llt, nI_Lle, nI_eqL, nI_Leq, nI_add, pk_mul, nI_ltI, nI_leI, nI_eq, vpi, nI_clamp, nI_toN, p_L_sumOverTenants, hk, ha, hA]
    rw [if_neg (by omega)]
    rw [show i * 4 + r + 4 = (i + 1) * 4 + r by omega]
    exact this
set_option maxRecDepth 100000 in
set_option maxHeartbeats 4000000 in
theorem ok_L_sumOverTenants (Z : Zt) (d : Nat) : okE Z (d + 1) i_L_sumOverTenants e_L_sumOverTenants := mk_L_sumOverTenants fun b a r M hr0 hp => by
  obtain ⟨ha, hk, hr⟩ := hp
  refine Gm_run (C := []) (S := [9]) [some (.ref b), some (.ref a), some (.int (nI r)), none, none] 100 k_L_sumOverTenants okE_nil (ex_n rfl) ?_
  simp (disch := first | trivial | assumption | omega) only [run, go, jmp, seek, inS, e0, e1, e2, e3, e4, e5, tsw, e7, e8, e9, e10, e11, e12, splitA, rcv, clook, lget, lset, lset2, lkill, Option.toList, List.nil_append, List.cons_append, wsum, List.map_cons, List.map_nil, List.sum_cons, List.sum_nil, Value.category, Nat.reduceAdd, List.getD_cons_zero, List.getD_cons_succ, ↓reduceIte, if_true, if_false, Bool.false_eq_true, Nat.reduceLeDiff, Nat.reduceEqDiff, true_or, or_true, true_and, and_true, and_self, or_self, not_true, not_false_iff, mR_stI, mN_stI, isO_stI, isA_stI, mI_stI, mR_mW, mN_mW, isO_mW, isA_mW, mI_mW, mW_mW, stI_mW, nI_addL, nI_mulL, nI_subL, nI_ltL, nI_leL, nI_Llt, nI_Lle, nI_eqL, nI_Leq, nI_add, pk_mul, nI_ltI, nI_leI, nI_eq, vpi, nI_clamp, nI_toN, p_L_sumOverTenants, Nat.not_lt_zero]
  have := lp_L_sumOverTenants Z d (b := b) ha hk hr 6 0 rfl
  rw [Nat.zero_mul, Nat.zero_add] at this
  exact this
/-- the loans of a tenant, of the first n resources -/
def lnP (f : Nat → Nat → Int32) (b t : Nat) : Nat → Int32
  | 0 => 0
  | r + 1 => lnP f b t r + f (b + 8) (t * 4 + r)
def e_L_loansOf : Ent := (fun av M => ∃ (b : Nat) (t : Nat), av = [.ref b, .int (nI t)] ∧ t < 2 ^ 31 ∧ (LedOk M b ∧ t < lnT (mI M) b), fun av M r_ M_ => ∀ (b : Nat) (t : Nat), t < 2 ^ 31 → av = [.ref b, .int (nI t)] → r_ = (some (.int (lnP (mI M) b t 4))) ∧ M_ = (M))
theorem pc_L_loansOf {b : Nat} {t : Nat} {M : Mem} {K : Option Value → Mem → Prop} (hp : LedOk M b ∧ t < lnT (mI M) b) (h_t : t < 2 ^ 31) : pcall e_L_loansOf [.ref b, .int (nI t)] M K = K (some (.int (lnP (mI M) b t 4))) (M) := propext ⟨fun h => h.2 _ _ (fun b' t' h_t' e => by simp only [List.cons.injEq, Value.ref.injEq, Value.int.injEq, Value.long.injEq, and_true] at e; obtain ⟨q0, q1⟩ := e; obtain rfl := q0; obtain rfl := (nI_eq h_t h_t').mp q1; exact ⟨rfl, rfl⟩), fun h => ⟨⟨b, t, rfl, h_t, hp⟩, fun r_ M_ q => by obtain ⟨rfl, rfl⟩ := q _ _ h_t rfl; exact h⟩⟩
theorem mk_L_loansOf {Z : Zt} {d : Nat} (h : ∀ (b : Nat) (t : Nat) (M : Mem), t < 2 ^ 31 → (LedOk M b ∧ t < lnT (mI M) b) → Gm Z d s_L_loansOf [.ref b, .int (nI t)] M (ex (some (.int (lnP (mI M) b t 4))) (M))) : okE Z d i_L_loansOf e_L_loansOf := by
  rintro av M ⟨b, t, rfl, h_t, hp⟩
  exact Gm.cons (h b t M h_t hp) (fun r_ M_ q b' t' h_t' e => by simp only [List.cons.injEq, Value.ref.injEq, Value.int.injEq, Value.long.injEq, and_true] at e; obtain ⟨q0, q1⟩ := e; obtain rfl := q0; obtain rfl := (nI_eq h_t h_t').mp q1; exact q)
set_option maxRecDepth 100000 in
set_option maxHeartbeats 4000000 in
theorem lp_L_loansOf (Z : Zt) (d : Nat) {b t : Nat} {M : Mem} (hp : LedOk M b) (ht : t < lnT (mI M) b) : ∀ n i, i + n = 4 → X Z (d + 2) s_L_loansOf (mN M) (mN M) (ex (some (.int (lnP (mI M) b t 4))) M) 4 [some (.ref b), some (.int (nI t)), some (.int (lnP (mI M) b t i)), some (.int (nI i))] [] M := by
  have hL := hp.1
  have hD := hp.2
  have h6 := ld_t6 hD
  intro n
  induction n with
  | zero =>
    intro i hi
    obtain rfl : i = 4 := by omega
    refine X_run (C := []) (S := [4]) 100 k_L_loansOf okE_nil ?_
    simp (disch := first | trivial | assumption | omega) only [run, go, jmp, seek, inS, e0, e1, e2, e3, e4, e5, tsw, e7, e8, e9, e10, e11, e12, splitA, rcv, clook, lget, lset, lset2, lkill, Option.toList, List.nil_append, List.cons_append, wsum, List.map_cons, List.map_nil, List.sum_cons, List.sum_nil, Value.category, Nat.reduceAdd, List.getD_cons_zero, List.getD_cons_succ, ↓reduceIte, if_true, if_false, Bool.false_eq_true, Nat.reduceLeDiff, Nat.reduceEqDiff, true_or, or_true, true_and, and_true, and_self, or_self, not_true, not_false_iff, mR_stI, mN_stI, isO_stI, isA_stI, mI_stI, mR_mW, mN_mW, isO_mW, isA_mW, mI_mW, mW_mW, stI_mW, nI_addL, nI_mulL, nI_subL, nI_ltL, nI_leL, nI_Llt, nI_Lle, nI_eqL, nI_Leq, nI_add, pk_mul, nI_ltI, nI_leI, nI_eq, vpi, nI_clamp, nI_toN, p_L_loansOf]
    exact ⟨rfl, rfl⟩
  | succ n ih =>
    intro i hi
    have := ih (i + 1) (by omega)
    refine X_run (C := [(i_L_hasTenant, e_L_hasTenant), (i_B_slot, e_B_slot)]) (S := [4]) 100 k_L_loansOf (okE_cons (ok_L_hasTenant Z d) (okE_cons (ok_B_slot Z d) okE_nil)) ?_
    simp (disch := first | trivial | assumption | omega) only [run, go, jmp, seek, inS, e0, e1, e2, e3, e4, e5, tsw, e7, e8, e9, e10, e11, e12, splitA, rcv, clook, lget, lset, lset2, lkill, Option.toList, List.nil_append, List.cons_append, wsum, List.map_cons, List.map_nil, List.sum_cons, List.sum_nil, Value.category, Nat.reduceAdd, List.getD_cons_zero, List.getD_cons_succ, ↓reduceIte, if_true, if_false, Bool.false_eq_true, Nat.reduceLeDiff, Nat.reduceEqDiff, true_or, or_true, true_and, and_true, and_self, or_self, not_true, not_false_iff, mR_stI, mN_stI, isO_stI, isA_stI, mI_stI, mR_mW, mN_mW, isO_mW, isA_mW, mI_mW, mW_mW, stI_mW, nI_addL, nI_mulL, nI_subL, nI_ltL, nI_leL, nI_Llt, nI_Lle, nI_eqL, nI_Leq, nI_add, pk_mul, nI_ltI, nI_leI, nI_eq, vpi, nI_clamp, nI_toN, p_L_loansOf, ld_o hL, ld_og hL, ld_od hL, ld_r0 hL, ld_r1 hL, ld_r2 hL, ld_r3 hL, ld_r4 hL, ld_r5 hL, ld_r6 hL, ld_r7 hL, ld_r8 hL, ld_r9 hL, ld_r10 hL, ld_r11 hL, ld_a1 hL, ld_a2 hL, ld_a3 hL, ld_a4 hL, ld_a5 hL, ld_a6 hL, ld_a7 hL, ld_a8 hL, ld_a9 hL, ld_a11 hL, ld_a13 hL, ld_a14 hL, ld_t hD, ld_b hD, pc_L_hasTenant, i_L_hasTenant, pc_B_slot, i_B_slot, bv_0]
    rw [if_neg (by omega), if_neg (by omega)]
    exact this
set_option maxRecDepth 100000 in
set_option maxHeartbeats 4000000 in
theorem ok_L_loansOf (Z : Zt) (d : Nat) : okE Z (d + 2) i_L_loansOf e_L_loansOf := mk_L_loansOf fun b t M ht0 hp => by
  obtain ⟨hp, ht⟩ := hp
  refine Gm_run (C := []) (S := [4]) [some (.ref b), some (.int (nI t)), none, none] 100 k_L_loansOf okE_nil (ex_n rfl) ?_
  simp (disch := first | trivial | assumption | omega) only [run, go, jmp, seek, inS, e0, e1, e2, e3, e4, e5, tsw, e7, e8, e9, e10, e11, e12, splitA, rcv, clook, lget, lset, lset2, lkill, Option.toList, List.nil_append, List.cons_append, wsum, List.map_cons, List.map_nil, List.sum_cons, List.sum_nil, Value.category, Nat.reduceAdd, List.getD_cons_zero, List.getD_cons_succ, ↓reduceIte, if_true, if_false, Bool.false_eq_true, Nat.reduceLeDiff, Nat.reduceEqDiff, true_or, or_true, true_and, and_true, and_self, or_self, not_true, not_false_iff, mR_stI, mN_stI, isO_stI, isA_stI, mI_stI, mR_mW, mN_mW, isO_mW, isA_mW, mI_mW, mW_mW, stI_mW, nI_addL, nI_mulL, nI_subL, nI_ltL, nI_leL, nI_Llt, nI_Lle, nI_eqL, nI_Leq, nI_add, pk_mul, nI_ltI, nI_leI, nI_eq, vpi, nI_clamp, nI_toN, p_L_loansOf]
  exact lp_L_loansOf Z d hp ht 4 0 rfl
def e_L_freePart : Ent := (fun av M => ∃ (b : Nat) (t : Nat) (r : Nat), av = [.ref b, .int (nI t), .int (nI r)] ∧ t < 2 ^ 31 ∧ r < 2 ^ 31 ∧ (LedOk M b ∧ t < lnT (mI M) b ∧ r < 4), fun av M r_ M_ => ∀ (b : Nat) (t : Nat) (r : Nat), t < 2 ^ 31 → r < 2 ^ 31 → av = [.ref b, .int (nI t), .int (nI r)] → r_ = (some (.int (mI M (b + 7) (t * 4 + r) - mI M (b + 9) (t * 4 + r)))) ∧ M_ = (M))
theorem pc_L_freePart {b : Nat} {t : Nat} {r : Nat} {M : Mem} {K : Option Value → Mem → Prop} (hp : LedOk M b ∧ t < lnT (mI M) b ∧ r < 4) (h_t : t < 2 ^ 31) (h_r : r < 2 ^ 31) : pcall e_L_freePart [.ref b, .int (nI t), .int (nI r)] M K = K (some (.int (mI M (b + 7) (t * 4 + r) - mI M (b + 9) (t * 4 + r)))) (M) := propext ⟨fun h => h.2 _ _ (fun b' t' r' h_t' h_r' e => by simp only [List.cons.injEq, Value.ref.injEq, Value.int.injEq, Value.long.injEq, and_true] at e; obtain ⟨q0, q1, q2⟩ := e; obtain rfl := q0; obtain rfl := (nI_eq h_t h_t').mp q1; obtain rfl := (nI_eq h_r h_r').mp q2; exact ⟨rfl, rfl⟩), fun h => ⟨⟨b, t, r, rfl, h_t, h_r, hp⟩, fun r_ M_ q => by obtain ⟨rfl, rfl⟩ := q _ _ _ h_t h_r rfl; exact h⟩⟩
theorem mk_L_freePart {Z : Zt} {d : Nat} (h : ∀ (b : Nat) (t : Nat) (r : Nat) (M : Mem), t < 2 ^ 31 → r < 2 ^ 31 → (LedOk M b ∧ t < lnT (mI M) b ∧ r < 4) → Gm Z d s_L_freePart [.ref b, .int (nI t), .int (nI r)] M (ex (some (.int (mI M (b + 7) (t * 4 + r) - mI M (b + 9) (t * 4 + r)))) (M))) : okE Z d i_L_freePart e_L_freePart := by
  rintro av M ⟨b, t, r, rfl, h_t, h_r, hp⟩
  exact Gm.cons (h b t r M h_t h_r hp) (fun r_ M_ q b' t' r' h_t' h_r' e => by simp only [List.cons.injEq, Value.ref.injEq, Value.int.injEq, Value.long.injEq, and_true] at e; obtain ⟨q0, q1, q2⟩ := e; obtain rfl := q0; obtain rfl := (nI_eq h_t h_t').mp q1; obtain rfl := (nI_eq h_r h_r').mp q2; exact q)
set_option maxRecDepth 100000 in
set_option maxHeartbeats 4000000 in
theorem ok_L_freePart (Z : Zt) (d : Nat) : okE Z (d + 2) i_L_freePart e_L_freePart := mk_L_freePart fun b t r M ht0 hr0 hp => by
  obtain ⟨hp, ht, hr⟩ := hp
  have hL := hp.1
  have hD := hp.2
  have h6 := ld_t6 hD
  refine Gm_run (C := [(i_L_hasTenant, e_L_hasTenant), (i_B_isResource, e_B_isResource), (i_B_slot, e_B_slot)]) (S := []) [some (.ref b), some (.int (nI t)), some (.int (nI r)), none] 100 k_L_freePart (okE_cons (ok_L_hasTenant Z d) (okE_cons (ok_B_isResource Z d) (okE_cons (ok_B_slot Z d) okE_nil))) (ex_n rfl) ?_
  simp (disch := first | trivial | assumption | omega) only [run, go, jmp, seek, inS, e0, e1, e2, e3, e4, e5, tsw, e7, e8, e9, e10, e11, e12, splitA, rcv, clook, lget, lset, lset2, lkill, Option.toList, List.nil_append, List.cons_append, wsum, List.map_cons, List.map_nil, List.sum_cons, List.sum_nil, Value.category, Nat.reduceAdd, List.getD_cons_zero, List.getD_cons_succ, ↓reduceIte, if_true, if_false, Bool.false_eq_true, Nat.reduceLeDiff, Nat.reduceEqDiff, true_or, or_true, true_and, and_true, and_self, or_self, not_true, not_false_iff, mR_stI, mN_stI, isO_stI, isA_stI, mI_stI, mR_mW, mN_mW, isO_mW, isA_mW, mI_mW, mW_mW, stI_mW, nI_addL, nI_mulL, nI_subL, nI_ltL, nI_leL, nI_Llt, nI_Lle, nI_eqL, nI_Leq, nI_add, pk_mul, nI_ltI, nI_leI, nI_eq, vpi, nI_clamp, nI_toN, p_L_freePart, ld_o hL, ld_og hL, ld_od hL, ld_r0 hL, ld_r1 hL, ld_r2 hL, ld_r3 hL, ld_r4 hL, ld_r5 hL, ld_r6 hL, ld_r7 hL, ld_r8 hL, ld_r9 hL, ld_r10 hL, ld_r11 hL, ld_a1 hL, ld_a2 hL, ld_a3 hL, ld_a4 hL, ld_a5 hL, ld_a6 hL, ld_a7 hL, ld_a8 hL, ld_a9 hL, ld_a11 hL, ld_a13 hL, ld_a14 hL, ld_t hD, ld_b hD, pc_L_hasTenant, i_L_hasTenant, pc_B_slot, i_B_slot, pc_B_isResource, i_B_isResource, bv_0]
  rw [if_neg (by omega), if_neg (by omega)]
  exact ⟨rfl, rfl⟩
def minJ (x y : Int32) : Int32 := if y < x then y else x
def e_L_exchangeable : Ent := (fun av M => ∃ (b : Nat) (t : Nat) (r : Nat), av = [.ref b, .int (nI t), .int (nI r)] ∧ t < 2 ^ 31 ∧ r < 2 ^ 31 ∧ (LedOk M b ∧ t < lnT (mI M) b ∧ r < 4), fun av M r_ M_ => ∀ (b : Nat) (t : Nat) (r : Nat), t < 2 ^ 31 → r < 2 ^ 31 → av = [.ref b, .int (nI t), .int (nI r)] → r_ = (some (.int (minJ (mI M (b + 7) (t * 4 + r) - mI M (b + 9) (t * 4 + r)) (mI M (b + 7) (t * 4 + r) - mI M (b + 8) (t * 4 + r))))) ∧ M_ = (M))
theorem pc_L_exchangeable {b : Nat} {t : Nat} {r : Nat} {M : Mem} {K : Option Value → Mem → Prop} (hp : LedOk M b ∧ t < lnT (mI M) b ∧ r < 4) (h_t : t < 2 ^ 31) (h_r : r < 2 ^ 31) : pcall e_L_exchangeable [.ref b, .int (nI t), .int (nI r)] M K = K (some (.int (minJ (mI M (b + 7) (t * 4 + r) - mI M (b + 9) (t * 4 + r)) (mI M (b + 7) (t * 4 + r) - mI M (b + 8) (t * 4 + r))))) (M) := propext ⟨fun h => h.2 _ _ (fun b' t' r' h_t' h_r' e => by simp only [List.cons.injEq, Value.ref.injEq, Value.int.injEq, Value.long.injEq, and_true] at e; obtain ⟨q0, q1, q2⟩ := e; obtain rfl := q0; obtain rfl := (nI_eq h_t h_t').mp q1; obtain rfl := (nI_eq h_r h_r').mp q2; exact ⟨rfl, rfl⟩), fun h => ⟨⟨b, t, r, rfl, h_t, h_r, hp⟩, fun r_ M_ q => by obtain ⟨rfl, rfl⟩ := q _ _ _ h_t h_r rfl; exact h⟩⟩
theorem mk_L_exchangeable {Z : Zt} {d : Nat} (h : ∀ (b : Nat) (t : Nat) (r : Nat) (M : Mem), t < 2 ^ 31 → r < 2 ^ 31 → (LedOk M b ∧ t < lnT (mI M) b ∧ r < 4) → Gm Z d s_L_exchangeable [.ref b, .int (nI t), .int (nI r)] M (ex (some (.int (minJ (mI M (b + 7) (t * 4 + r) - mI M (b + 9) (t * 4 + r)) (mI M (b + 7) (t * 4 + r) - mI M (b + 8) (t * 4 + r))))) (M))) : okE Z d i_L_exchangeable e_L_exchangeable := by
  rintro av M ⟨b, t, r, rfl, h_t, h_r, hp⟩
  exact Gm.cons (h b t r M h_t h_r hp) (fun r_ M_ q b' t' r' h_t' h_r' e => by simp only [List.cons.injEq, Value.ref.injEq, Value.int.injEq, Value.long.injEq, and_true] at e; obtain ⟨q0, q1, q2⟩ := e; obtain rfl := q0; obtain rfl := (nI_eq h_t h_t').mp q1; obtain rfl := (nI_eq h_r h_r').mp q2; exact q)
set_option maxRecDepth 100000 in
set_option maxHeartbeats 4000000 in
theorem ok_L_exchangeable (Z : Zt) (d : Nat) : okE Z (d + 2) i_L_exchangeable e_L_exchangeable := mk_L_exchangeable fun b t r M ht0 hr0 hp => by
  obtain ⟨hp, ht, hr⟩ := hp
  have hL := hp.1
  have hD := hp.2
  have h6 := ld_t6 hD
  refine Gm_run (C := [(i_L_hasTenant, e_L_hasTenant), (i_B_isResource, e_B_isResource), (i_B_slot, e_B_slot)]) (S := []) [some (.ref b), some (.int (nI t)), some (.int (nI r)), none] 100 k_L_exchangeable (okE_cons (ok_L_hasTenant Z d) (okE_cons (ok_B_isResource Z d) (okE_cons (ok_B_slot Z d) okE_nil))) (ex_n rfl) ?_
  simp (disch := first | trivial | assumption | omega) only [run, go, jmp, seek, inS, e0, e1, e2, e3, e4, e5, tsw, e7, e8, e9, e10, e11, e12, splitA, rcv, clook, lget, lset, lset2, lkill, Option.toList, List.nil_append, List.cons_append, wsum, List.map_cons, List.map_nil, List.sum_cons, List.sum_nil, Value.category, Nat.reduceAdd, List.getD_cons_zero, List.getD_cons_succ, ↓reduceIte, if_true, if_false, Bool.false_eq_true, Nat.reduceLeDiff, Nat.reduceEqDiff, true_or, or_true, true_and, and_true, and_self, or_self, not_true, not_false_iff, mR_stI, mN_stI, isO_stI, isA_stI, mI_stI, mR_mW, mN_mW, isO_mW, isA_mW, mI_mW, mW_mW, stI_mW, nI_addL, nI_mulL, nI_subL, nI_ltL, nI_leL, nI_Llt, nI_Lle, nI_eqL, nI_Leq, nI_add, pk_mul, nI_ltI, nI_leI, nI_eq, vpi, nI_clamp, nI_toN, p_L_exchangeable, ld_o hL, ld_og hL, ld_od hL, ld_r0 hL, ld_r1 hL, ld_r2 hL, ld_r3 hL, ld_r4 hL, ld_r5 hL, ld_r6 hL, ld_r7 hL, ld_r8 hL, ld_r9 hL, ld_r10 hL, ld_r11 hL, ld_a1 hL, ld_a2 hL, ld_a3 hL, ld_a4 hL, ld_a5 hL, ld_a6 hL, ld_a7 hL, ld_a8 hL, ld_a9 hL, ld_a11 hL, ld_a13 hL, ld_a14 hL, ld_t hD, ld_b hD, pc_L_hasTenant, i_L_hasTenant, pc_B_slot, i_B_slot, pc_B_isResource, i_B_isResource, bv_0]
  rw [if_neg (by omega), if_neg (by omega)]
  exact ⟨rfl, rfl⟩
def afF (f : Nat → Nat → Int32) (b r : Nat) (n : Int32) : Nat → Nat → Int32 := u2 f (b + 2) r (minJ (f (b + 2) r + n) 999)
def e_L_addToFund : Ent := (fun av M => ∃ (b : Nat) (r : Nat) (n : Int32), av = [.ref b, .int (nI r), .int n] ∧ r < 2 ^ 31 ∧ (LedOk M b ∧ r < 4), fun av M r_ M_ => ∀ (b : Nat) (r : Nat) (n : Int32), r < 2 ^ 31 → av = [.ref b, .int (nI r), .int n] → r_ = (none) ∧ M_ = (mW M (afF (mI M) b r n)))
theorem pc_L_addToFund {b : Nat} {r : Nat} {n : Int32} {M : Mem} {K : Option Value → Mem → Prop} (hp : LedOk M b ∧ r < 4) (h_r : r < 2 ^ 31) : pcall e_L_addToFund [.ref b, .int (nI r), .int n] M K = K (none) (mW M (afF (mI M) b r n)) := propext ⟨fun h => h.2 _ _ (fun b' r' n' h_r' e => by simp only [List.cons.injEq, Value.ref.injEq, Value.int.injEq, Value.long.injEq, and_true] at e; obtain ⟨q0, q1, q2⟩ := e; obtain rfl := q0; obtain rfl := (nI_eq h_r h_r').mp q1; obtain rfl := q2; exact ⟨rfl, rfl⟩), fun h => ⟨⟨b, r, n, rfl, h_r, hp⟩, fun r_ M_ q => by obtain ⟨rfl, rfl⟩ := q _ _ _ h_r rfl; exact h⟩⟩
theorem mk_L_addToFund {Z : Zt} {d : Nat} (h : ∀ (b : Nat) (r : Nat) (n : Int32) (M : Mem), r < 2 ^ 31 → (LedOk M b ∧ r < 4) → Gm Z d s_L_addToFund [.ref b, .int (nI r), .int n] M (ex (none) (mW M (afF (mI M) b r n)))) : okE Z d i_L_addToFund e_L_addToFund := by
  rintro av M ⟨b, r, n, rfl, h_r, hp⟩
  exact Gm.cons (h b r n M h_r hp) (fun r_ M_ q b' r' n' h_r' e => by simp only [List.cons.injEq, Value.ref.injEq, Value.int.injEq, Value.long.injEq, and_true] at e; obtain ⟨q0, q1, q2⟩ := e; obtain rfl := q0; obtain rfl := (nI_eq h_r h_r').mp q1; obtain rfl := q2; exact q)
set_option maxRecDepth 100000 in
set_option maxHeartbeats 4000000 in
theorem ok_L_addToFund (Z : Zt) (d : Nat) : okE Z (d + 2) i_L_addToFund e_L_addToFund := mk_L_addToFund fun b r n M hr0 hp => by
  obtain ⟨⟨hL, hD⟩, hr⟩ := hp
  refine Gm_run (C := [(i_B_isResource, e_B_isResource)]) (S := []) [some (.ref b), some (.int (nI r)), some (.int n)] 100 k_L_addToFund (okE_cons (ok_B_isResource Z d) okE_nil) (ex_n rfl) ?_
  simp (disch := first | trivial | assumption | omega) only [run, go, jmp, seek, inS, e0, e1, e2, e3, e4, e5, tsw, e7, e8, e9, e10, e11, e12, splitA, rcv, clook, lget, lset, lset2, lkill, Option.toList, List.nil_append, List.cons_append, wsum, List.map_cons, List.map_nil, List.sum_cons, List.sum_nil, Value.category, Nat.reduceAdd, List.getD_cons_zero, List.getD_cons_succ, ↓reduceIte, if_true, if_false, Bool.false_eq_true, Nat.reduceLeDiff, Nat.reduceEqDiff, true_or, or_true, true_and, and_true, and_self, or_self, not_true, not_false_iff, mR_stI, mN_stI, isO_stI, isA_stI, mI_stI, mR_mW, mN_mW, isO_mW, isA_mW, mI_mW, mW_mW, stI_mW, nI_addL, nI_mulL, nI_subL, nI_ltL, nI_leL, nI_Llt, nI_Lle, nI_eqL, nI_Leq, nI_add, pk_mul, nI_ltI, nI_leI, nI_eq, vpi, nI_clamp, nI_toN, p_L_addToFund, ld_o hL, ld_og hL, ld_od hL, ld_r0 hL, ld_r1 hL, ld_r2 hL, ld_r3 hL, ld_r4 hL, ld_r5 hL, ld_r6 hL, ld_r7 hL, ld_r8 hL, ld_r9 hL, ld_r10 hL, ld_r11 hL, ld_a1 hL, ld_a2 hL, ld_a3 hL, ld_a4 hL, ld_a5 hL, ld_a6 hL, ld_a7 hL, ld_a8 hL, ld_a9 hL, ld_a11 hL, ld_a13 hL, ld_a14 hL, ld_t hD, ld_b hD, pc_B_isResource, i_B_isResource, bv_0]
  rw [if_neg (by omega)]
  exact ⟨rfl, rfl⟩
def plF (f : Nat → Nat → Int32) (b : Nat) (t : Int32) : Int32 := fwR (fun k => f (b + 14) k = t) (lnB f b) 0
def e_L_placeOf : Ent := (fun av M => ∃ (b : Nat) (t : Int32), av = [.ref b, .int t] ∧ (LedOk M b), fun av M r_ M_ => ∀ (b : Nat) (t : Int32), av = [.ref b, .int t] → r_ = (some (.int (plF (mI M) b t))) ∧ M_ = (M))
theorem pc_L_placeOf {b : Nat} {t : Int32} {M : Mem} {K : Option Value → Mem → Prop} (hp : LedOk M b) : pcall e_L_placeOf [.ref b, .int t] M K = K (some (.int (plF (mI M) b t))) (M) := propext ⟨fun h => h.2 _ _ (fun b' t' e => by simp only [List.cons.injEq, Value.ref.injEq, Value.int.injEq, Value.long.injEq, and_true] at e; obtain ⟨q0, q1⟩ := e; obtain rfl := q0; obtain rfl := q1; exact ⟨rfl, rfl⟩), fun h => ⟨⟨b, t, rfl, hp⟩, fun r_ M_ q => by obtain ⟨rfl, rfl⟩ := q _ _ rfl; exact h⟩⟩
theorem mk_L_placeOf {Z : Zt} {d : Nat} (h : ∀ (b : Nat) (t : Int32) (M : Mem), (LedOk M b) → Gm Z d s_L_placeOf [.ref b, .int t] M (ex (some (.int (plF (mI M) b t))) (M))) : okE Z d i_L_placeOf e_L_placeOf := by
  rintro av M ⟨b, t, rfl, hp⟩
  exact Gm.cons (h b t M  hp) (fun r_ M_ q b' t' e => by simp only [List.cons.injEq, Value.ref.injEq, Value.int.injEq, Value.long.injEq, and_true] at e; obtain ⟨q0, q1⟩ := e; obtain rfl := q0; obtain rfl := q1; exact q)
set_option maxRecDepth 100000 in
set_option maxHeartbeats 4000000 in
theorem lp_L_placeOf (Z : Zt) (d : Nat) {b : Nat} {t R0 : Int32} {M : Mem} (hp : LedOk M b) : ∀ n i, i + n = lnB (mI M) b → fwR (fun k => mI M (b + 14) k = t) n i = R0 → X Z (d + 1) s_L_placeOf (mN M) (mN M) (ex (some (.int R0)) M) 2 [some (.ref b), some (.int t), some (.int (nI i))] [] M := by
  have hL := hp.1
  have hD := hp.2
  have h6 := ld_b6 hD
  intro n
  induction n with
  | zero =>
    intro i hi hr
    refine X_run (C := []) (S := [2]) 100 k_L_placeOf okE_nil ?_
    simp (disch := first | trivial | assumption | omega) only [run, go, jmp, seek, inS, e0, e1, e2, e3, e4, e5, tsw, e7, e8, e9, e10, e11, e12, splitA, rcv, clook, lget, lset, lset2, lkill, Option.toList, List.nil_append, List.cons_append, wsum, List.map_cons, List.map_nil, List.sum_cons, List.sum_nil, Value.category, Nat.reduceAdd, List.getD_cons_zero, List.getD_cons_succ, ↓reduceIte, if_true, if_false, Bool.false_eq_true, Nat.reduceLeDiff, Nat.reduceEqDiff, true_or, or_true, true_and, and_true, and_self, or_self, not_true, not_false_iff, mR_stI, mN_stI, isO_stI, isA_stI, mI_stI, mR_mW, mN_mW, isO_mW, isA_mW, mI_mW, mW_mW, stI_mW, nI_addL, nI_mulL, nI_subL, nI_ltL, nI_leL, nI_Llt, nI_Lle, nI_eqL, nI_Leq, nI_add, pk_mul, nI_ltI, nI_leI, nI_eq, vpi, nI_clamp, nI_toN, p_L_placeOf, ld_o hL, ld_og hL, ld_od hL, ld_r0 hL, ld_r1 hL, ld_r2 hL, ld_r3 hL, ld_r4 hL, ld_r5 hL, ld_r6 hL, ld_r7 hL, ld_r8 hL, ld_r9 hL, ld_r10 hL, ld_r11 hL, ld_a1 hL, ld_a2 hL, ld_a3 hL, ld_a4 hL, ld_a5 hL, ld_a6 hL, ld_a7 hL, ld_a8 hL, ld_a9 hL, ld_a11 hL, ld_a13 hL, ld_a14 hL, ld_t hD, ld_b hD]
    rw [if_pos (by omega)]
    exact ⟨by rw [← hr]; rfl, rfl⟩
  | succ n ih =>
    intro i hi hr
    refine X_run (C := []) (S := [2]) 100 k_L_placeOf okE_nil ?_
    simp (disch := first | trivial | assumption | omega) only [run, go, jmp, seek, inS, e0, e1, e2, e3, e4, e5, tsw, e7, e8, e9, e10, e11, e12, splitA, rcv, clook, lget, lset, lset2, lkill, Option.toList, List.nil_append, List.cons_append, wsum, List.map_cons, List.map_nil, List.sum_cons, List.sum_nil, Value.category, Nat.reduceAdd, List.getD_cons_zero, List.getD_cons_succ, ↓reduceIte, if_true, if_false, Bool.false_eq_true, Nat.reduceLeDiff, Nat.reduceEqDiff, true_or, or_true, true_and, and_true, and_self, or_self, not_true, not_false_iff, mR_stI, mN_stI, isO_stI, isA_stI, mI_stI, mR_mW, mN_mW, isO_mW, isA_mW, mI_mW, mW_mW, stI_mW, nI_addL, nI_mulL, nI_subL, nI_ltL, nI_leL, nI_Llt, nI_Lle, nI_eqL, nI_Leq, nI_add, pk_mul, nI_ltI, nI_leI, nI_eq, vpi, nI_clamp, nI_toN, p_L_placeOf, ld_o hL, ld_og hL, ld_od hL, ld_r0 hL, ld_r1 hL, ld_r2 hL, ld_r3 hL, ld_r4 hL, ld_r5 hL, ld_r6 hL, ld_r7 hL, ld_r8 hL, ld_r9 hL, ld_r10 hL, ld_r11 hL, ld_a1 hL, ld_a2 hL, ld_a3 hL, ld_a4 hL, ld_a5 hL, ld_a6 hL, ld_a7 hL, ld_a8 hL, ld_a9 hL, ld_a11 hL, ld_a13 hL, ld_a14 hL, ld_t hD, ld_b hD]
    rw [if_neg (by omega), if_neg (by omega)]
    rw [fwR] at hr
    split
    · next h =>
      rw [if_pos h] at hr
      exact ⟨by rw [← hr], rfl⟩
    · next h =>
      rw [if_neg h] at hr
      exact ih (i + 1) (by omega) hr
set_option maxRecDepth 100000 in
set_option maxHeartbeats 4000000 in
theorem ok_L_placeOf (Z : Zt) (d : Nat) : okE Z (d + 1) i_L_placeOf e_L_placeOf := mk_L_placeOf fun b t M hp => by
  refine Gm_run (C := []) (S := [2]) [some (.ref b), some (.int t), none] 100 k_L_placeOf okE_nil (ex_n rfl) ?_
  simp only [run, go, jmp, seek, inS, e0, e1, e2, e3, e4, e5, tsw, e7, e8, e9, e10, e11, e12, splitA, rcv, clook, lget, lset, lset2, lkill, Option.toList, List.nil_append, List.cons_append, wsum, List.map_cons, List.map_nil, List.sum_cons, List.sum_nil, Value.category, Nat.reduceAdd, List.getD_cons_zero, List.getD_cons_succ, ↓reduceIte, if_true, if_false, Bool.false_eq_true, Nat.reduceLeDiff, Nat.reduceEqDiff, true_or, or_true, true_and, and_true, and_self, or_self, not_true, not_false_iff, mR_stI, mN_stI, isO_stI, isA_stI, mI_stI, mR_mW, mN_mW, isO_mW, isA_mW, mI_mW, mW_mW, stI_mW, p_L_placeOf]
  exact lp_L_placeOf Z d hp (lnB (mI M) b) 0 (by omega) rfl
/-- in the queue of bankrupts -/
abbrev isB (f : Nat → Nat → Int32) (b : Nat) (t : Int32) : Prop := 0 ≤ plF f b t
end
section
theorem fwR_cases (p : Nat → Prop) [DecidablePred p] : ∀ n i, fwR p n i = -1 ∨ ∃ k, i ≤ k ∧ k < i + n ∧ p k ∧ fwR p n i = nI k
  | 0, i => Or.inl rfl
  | n + 1, i => by
    unfold fwR
    by_cases h : p i
    · rw [if_pos h]
      exact Or.inr ⟨i, Nat.le_refl _, by omega, h, rfl⟩
    · rw [if_neg h]
      rcases fwR_cases p n (i + 1) with e | ⟨k, h1, h2, h3, h4⟩
      · exact Or.inl e
      · exact Or.inr ⟨k, by omega, by omega, h3, h4⟩
theorem m1_neg : ((-1 : Int32) < 0) = True := by decide
theorem m1_nn : ((0 : Int32) ≤ -1) = False := by decide
def e_L_isBankrupt : Ent := (fun av M => ∃ (b : Nat) (t : Int32), av = [.ref b, .int t] ∧ (LedOk M b), fun av M r_ M_ => ∀ (b : Nat) (t : Int32), av = [.ref b, .int t] → r_ = (some (.int (bv (isB (mI M) b t)))) ∧ M_ = (M))
theorem pc_L_isBankrupt {b : Nat} {t : Int32} {M : Mem} {K : Option Value → Mem → Prop} (hp : LedOk M b) : pcall e_L_isBankrupt [.ref b, .int t] M K = K (some (.int (bv (isB (mI M) b t)))) (M) := propext ⟨fun h => h.2 _ _ (fun b' t' e => by simp only [List.cons.injEq, Value.ref.injEq, Value.int.injEq, Value.long.injEq, and_true] at e; obtain ⟨q0, q1⟩ := e; obtain rfl := q0; obtain rfl := q1; exact ⟨rfl, rfl⟩), fun h => ⟨⟨b, t, rfl, hp⟩, fun r_ M_ q => by obtain ⟨rfl, rfl⟩ := q _ _ rfl; exact h⟩⟩
theorem mk_L_isBankrupt {Z : Zt} {d : Nat} (h : ∀ (b : Nat) (t : Int32) (M : Mem), (LedOk M b) → Gm Z d s_L_isBankrupt [.ref b, .int t] M (ex (some (.int (bv (isB (mI M) b t)))) (M))) : okE Z d i_L_isBankrupt e_L_isBankrupt := by
  rintro av M ⟨b, t, rfl, hp⟩
  exact Gm.cons (h b t M  hp) (fun r_ M_ q b' t' e => by simp only [List.cons.injEq, Value.ref.injEq, Value.int.injEq, Value.long.injEq, and_true] at e; obtain ⟨q0, q1⟩ := e; obtain rfl := q0; obtain rfl := q1; exact q)
set_option maxRecDepth 100000 in
set_option maxHeartbeats 4000000 in
theorem ok_L_isBankrupt (Z : Zt) (d : Nat) : okE Z (d + 2) i_L_isBankrupt e_L_isBankrupt := mk_L_isBankrupt fun b t M hp => by
  have hL := hp.1
  refine Gm_run (C := [(i_L_placeOf, e_L_placeOf)]) (S := []) [some (.ref b), some (.int t)] 100 k_L_isBankrupt (okE_cons (ok_L_placeOf Z d) okE_nil) (ex_n rfl) ?_
  simp (disch := first | trivial | assumption | omega) only [run, go, jmp, seek, inS, e0, e1, e2, e3, e4, e5, tsw, e7, e8, e9, e10, e11, e12, splitA, rcv, clook, lget, lset, lset2, lkill, Option.toList, List.nil_append, List.cons_append, wsum, List.map_cons, List.map_nil, List.sum_cons, List.sum_nil, Value.category, Nat.reduceAdd, List.getD_cons_zero, List.getD_cons_succ, ↓reduceIte, if_true, if_false, Bool.false_eq_true, Nat.reduceLeDiff, Nat.reduceEqDiff, true_or, or_true, true_and, and_true, and_self, or_self, not_true, not_false_iff, mR_stI, mN_stI, isO_stI, isA_stI, mI_stI, mR_mW, mN_mW, isO_mW, isA_mW, mI_mW, mW_mW, stI_mW, nI_addL, nI_mulL, nI_subL, nI_ltL, nI_leL, nI_Llt, nI_Lle, nI_eqL, nI_Leq, nI_add, pk_mul, nI_ltI, nI_leI, nI_eq, vpi, nI_clamp, nI_toN, p_L_isBankrupt, ld_o hL, ld_og hL, ld_od hL, ld_r0 hL, ld_r1 hL, ld_r2 hL, ld_r3 hL, ld_r4 hL, ld_r5 hL, ld_r6 hL, ld_r7 hL, ld_r8 hL, ld_r9 hL, ld_r10 hL, ld_r11 hL, ld_a1 hL, ld_a2 hL, ld_a3 hL, ld_a4 hL, ld_a5 hL, ld_a6 hL, ld_a7 hL, ld_a8 hL, ld_a9 hL, ld_a11 hL, ld_a13 hL, ld_a14 hL, pc_L_placeOf, i_L_placeOf]
  split
  · next h => exact ⟨by rw [bv_F (fun q => absurd q (Int32.not_le.mpr h))], rfl⟩
  · next h => exact ⟨by rw [bv_T (Int32.not_lt.mp h)], rfl⟩
/-- a tenant, and not in the queue -/
abbrev isS (f : Nat → Nat → Int32) (b : Nat) (t : Int32) : Prop := (0 ≤ t ∧ t < nI (lnT f b)) ∧ ¬ isB f b t
def e_L_isSolvent : Ent := (fun av M => ∃ (b : Nat) (t : Int32), av = [.ref b, .int t] ∧ (LedOk M b), fun av M r_ M_ => ∀ (b : Nat) (t : Int32), av = [.ref b, .int t] → r_ = (some (.int (bv (isS (mI M) b t)))) ∧ M_ = (M))
theorem pc_L_isSolvent {b : Nat} {t : Int32} {M : Mem} {K : Option Value → Mem → Prop} (hp : LedOk M b) : pcall e_L_isSolvent [.ref b, .int t] M K = K (some (.int (bv (isS (mI M) b t)))) (M) := propext ⟨fun h => h.2 _ _ (fun b' t' e => by simp only [List.cons.injEq, Value.ref.injEq, Value.int.injEq, Value.long.injEq, and_true] at e; obtain ⟨q0, q1⟩ := e; obtain rfl := q0; obtain rfl := q1; exact ⟨rfl, rfl⟩), fun h => ⟨⟨b, t, rfl, hp⟩, fun r_ M_ q => by obtain ⟨rfl, rfl⟩ := q _ _ rfl; exact h⟩⟩
theorem mk_L_isSolvent {Z : Zt} {d : Nat} (h : ∀ (b : Nat) (t : Int32) (M : Mem), (LedOk M b) → Gm Z d s_L_isSolvent [.ref b, .int t] M (ex (some (.int (bv (isS (mI M) b t)))) (M))) : okE Z d i_L_isSolvent e_L_isSolvent := by
  rintro av M ⟨b, t, rfl, hp⟩
  exact Gm.cons (h b t M  hp) (fun r_ M_ q b' t' e => by simp only [List.cons.injEq, Value.ref.injEq, Value.int.injEq, Value.long.injEq, and_true] at e; obtain ⟨q0, q1⟩ := e; obtain rfl := q0; obtain rfl := q1; exact q)
set_option maxRecDepth 100000 in
set_option maxHeartbeats 4000000 in
theorem ok_L_isSolvent (Z : Zt) (d : Nat) : okE Z (d + 3) i_L_isSolvent e_L_isSolvent := mk_L_isSolvent fun b t M hp => by
  have hL := hp.1
  refine Gm_run (C := [(i_L_hasTenant, e_L_hasTenant), (i_L_isBankrupt, e_L_isBankrupt)]) (S := []) [some (.ref b), some (.int t)] 100 k_L_isSolvent (okE_cons (ok_L_hasTenant Z (d + 1)) (okE_cons (ok_L_isBankrupt Z d) okE_nil)) (ex_n rfl) ?_
  simp (disch := first | trivial | assumption | omega) only [run, go, jmp, seek, inS, e0, e1, e2, e3, e4, e5, tsw, e7, e8, e9, e10, e11, e12, splitA, rcv, clook, lget, lset, lset2, lkill, Option.toList, List.nil_append, List.cons_append, wsum, List.map_cons, List.map_nil, List.sum_cons, List.sum_nil, Value.category, Nat.reduceAdd, List.getD_cons_zero, List.getD_cons_succ, ↓reduceIte, if_true, if_false, Bool.false_eq_true, Nat.reduceLeDiff, Nat.reduceEqDiff, true_or, or_true, true_and, and_true, and_self, or_self, not_true, not_false_iff, mR_stI, mN_stI, isO_stI, isA_stI, mI_stI, mR_mW, mN_mW, isO_mW, isA_mW, mI_mW, mW_mW, stI_mW, nI_addL, nI_mulL, nI_subL, nI_ltL, nI_leL, nI_Llt, nI_Lle, nI_eqL, nI_Leq, nI_add, pk_mul, nI_ltI, nI_leI, nI_eq, vpi, nI_clamp, nI_toN, p_L_isSolvent, ld_o hL, ld_og hL, ld_od hL, ld_r0 hL, ld_r1 hL, ld_r2 hL, ld_r3 hL, ld_r4 hL, ld_r5 hL, ld_r6 hL, ld_r7 hL, ld_r8 hL, ld_r9 hL, ld_r10 hL, ld_r11 hL, ld_a1 hL, ld_a2 hL, ld_a3 hL, ld_a4 hL, ld_a5 hL, ld_a6 hL, ld_a7 hL, ld_a8 hL, ld_a9 hL, ld_a11 hL, ld_a13 hL, ld_a14 hL, pc_L_hasTenant, i_L_hasTenant, pc_L_isBankrupt, i_L_isBankrupt, bv_0]
  split
  · next h => exact ⟨by rw [bv_F (fun q => h q.1)], rfl⟩
  · next h =>
    split
    · next h2 => exact ⟨by rw [bv_T ⟨Decidable.not_not.mp h, h2⟩], rfl⟩
    · next h2 => exact ⟨by rw [bv_F (fun q => h2 q.2)], rfl⟩
/-- interest -/
def itF (x : Int32) : Int32 := if x ≤ 0 then 0 else (x + 9) / 10
def e_L_interestOn : Ent := (fun av M => ∃ (x : Int32), av = [.int x] ∧ (True), fun av M r_ M_ => ∀ (x : Int32), av = [.int x] → r_ = (some (.int (itF x))) ∧ M_ = (M))
theorem pc_L_interestOn {x : Int32} {M : Mem} {K : Option Value → Mem → Prop} (hp : True) : pcall e_L_interestOn [.int x] M K = K (some (.int (itF x))) (M) := propext ⟨fun h => h.2 _ _ (fun x' e => by simp only [List.cons.injEq, Value.ref.injEq, Value.int.injEq, Value.long.injEq, and_true] at e; have q0 := e; obtain rfl := q0; exact ⟨rfl, rfl⟩), fun h => ⟨⟨x, rfl, hp⟩, fun r_ M_ q => by obtain ⟨rfl, rfl⟩ := q _ rfl; exact h⟩⟩
theorem mk_L_interestOn {Z : Zt} {d : Nat} (h : ∀ (x : Int32) (M : Mem), (True) → Gm Z d s_L_interestOn [.int x] M (ex (some (.int (itF x))) (M))) : okE Z d i_L_interestOn e_L_interestOn := by
  rintro av M ⟨x, rfl, hp⟩
  exact Gm.cons (h x M  hp) (fun r_ M_ q x' e => by simp only [List.cons.injEq, Value.ref.injEq, Value.int.injEq, Value.long.injEq, and_true] at e; have q0 := e; obtain rfl := q0; exact q)
set_option maxRecDepth 100000 in
set_option maxHeartbeats 4000000 in
theorem ok_L_interestOn (Z : Zt) (d : Nat) : okE Z (d + 1) i_L_interestOn e_L_interestOn := mk_L_interestOn fun x M hp => by
  refine Gm_run (C := []) (S := []) [some (.int x)] 100 k_L_interestOn okE_nil (ex_n rfl) ?_
  simp (disch := first | trivial | assumption | omega) only [run, go, jmp, seek, inS, e0, e1, e2, e3, e4, e5, tsw, e7, e8, e9, e10, e11, e12, splitA, rcv, clook, lget, lset, lset2, lkill, Option.toList, List.nil_append, List.cons_append, wsum, List.map_cons, List.map_nil, List.sum_cons, List.sum_nil, Value.category, Nat.reduceAdd, List.getD_cons_zero, List.getD_cons_succ, ↓reduceIte, if_true, if_false, Bool.false_eq_true, Nat.reduceLeDiff, Nat.reduceEqDiff, true_or, or_true, true_and, and_true, and_self, or_self, not_true, not_false_iff, mR_stI, mN_stI, isO_stI, isA_stI, mI_stI, mR_mW, mN_mW, isO_mW, isA_mW, mI_mW, mW_mW, stI_mW, nI_addL, nI_mulL, nI_subL, nI_ltL, nI_leL, nI_Llt, nI_Lle, nI_eqL, nI_Leq, nI_add, pk_mul, nI_ltI, nI_leI, nI_eq, vpi, nI_clamp, nI_toN, p_L_interestOn]
  split
  · next h => exact ⟨by rw [itF, if_pos h], rfl⟩
  · next h => exact ⟨by decide, by rw [itF, if_neg h], rfl⟩
/-- the rent of a tenant, of the first n resources -/
def rnP (f : Nat → Nat → Int32) (b t : Nat) : Nat → Int32
  | 0 => 0
  | r + 1 => rnP f b t r + f (b + 8) (t * 4 + r) * prF f b r
def e_L_rentOf : Ent := (fun av M => ∃ (b : Nat) (t : Nat), av = [.ref b, .int (nI t)] ∧ t < 2 ^ 31 ∧ (LedOk M b ∧ t < lnT (mI M) b), fun av M r_ M_ => ∀ (b : Nat) (t : Nat), t < 2 ^ 31 → av = [.ref b, .int (nI t)] → r_ = (some (.int (rnP (mI M) b t 4))) ∧ M_ = (M))
theorem pc_L_rentOf {b : Nat} {t : Nat} {M : Mem} {K : Option Value → Mem → Prop} (hp : LedOk M b ∧ t < lnT (mI M) b) (h_t : t < 2 ^ 31) : pcall e_L_rentOf [.ref b, .int (nI t)] M K = K (some (.int (rnP (mI M) b t 4))) (M) := propext ⟨fun h => h.2 _ _ (fun b' t' h_t' e => by simp only [List.cons.injEq, Value.ref.injEq, Value.int.injEq, Value.long.injEq, and_true] at e; obtain ⟨q0, q1⟩ := e; obtain rfl := q0; obtain rfl := (nI_eq h_t h_t').mp q1; exact ⟨rfl, rfl⟩), fun h => ⟨⟨b, t, rfl, h_t, hp⟩, fun r_ M_ q => by obtain ⟨rfl, rfl⟩ := q _ _ h_t rfl; exact h⟩⟩
theorem mk_L_rentOf {Z : Zt} {d : Nat} (h : ∀ (b : Nat) (t : Nat) (M : Mem), t < 2 ^ 31 → (LedOk M b ∧ t < lnT (mI M) b) → Gm Z d s_L_rentOf [.ref b, .int (nI t)] M (ex (some (.int (rnP (mI M) b t 4))) (M))) : okE Z d i_L_rentOf e_L_rentOf := by
  rintro av M ⟨b, t, rfl, h_t, hp⟩
  exact Gm.cons (h b t M h_t hp) (fun r_ M_ q b' t' h_t' e => by simp only [List.cons.injEq, Value.ref.injEq, Value.int.injEq, Value.long.injEq, and_true] at e; obtain ⟨q0, q1⟩ := e; obtain rfl := q0; obtain rfl := (nI_eq h_t h_t').mp q1; exact q)
set_option maxRecDepth 100000 in
set_option maxHeartbeats 4000000 in
theorem lp_L_rentOf (Z : Zt) (d : Nat) {b t : Nat} {M : Mem} (hp : LedOk M b) (ht : t < lnT (mI M) b) : ∀ n i, i + n = 4 → X Z (d + 3) s_L_rentOf (mN M) (mN M) (ex (some (.int (rnP (mI M) b t 4))) M) 4 [some (.ref b), some (.int (nI t)), some (.int (rnP (mI M) b t i)), some (.int (nI i))] [] M := by
  have hL := hp.1
  have hD := hp.2
  have h6 := ld_t6 hD
  intro n
  induction n with
  | zero =>
    intro i hi
    obtain rfl : i = 4 := by omega
    refine X_run (C := []) (S := [4]) 100 k_L_rentOf okE_nil ?_
    simp (disch := first | trivial | assumption | omega) only [run, go, jmp, seek, inS, e0, e1, e2, e3, e4, e5, tsw, e7, e8, e9, e10, e11, e12, splitA, rcv, clook, lget, lset, lset2, lkill, Option.toList, List.nil_append, List.cons_append, wsum, List.map_cons, List.map_nil, List.sum_cons, List.sum_nil, Value.category, Nat.reduceAdd, List.getD_cons_zero, List.getD_cons_succ, ↓reduceIte, if_true, if_false, Bool.false_eq_true, Nat.reduceLeDiff, Nat.reduceEqDiff, true_or, or_true, true_and, and_true, and_self, or_self, not_true, not_false_iff, mR_stI, mN_stI, isO_stI, isA_stI, mI_stI, mR_mW, mN_mW, isO_mW, isA_mW, mI_mW, mW_mW, stI_mW, nI_addL, nI_mulL, nI_subL, nI_ltL, nI_leL, nI_Llt, nI_Lle, nI_eqL, nI_Leq, nI_add, pk_mul, nI_ltI, nI_leI, nI_eq, vpi, nI_clamp, nI_toN, p_L_rentOf]
    exact ⟨rfl, rfl⟩
  | succ n ih =>
    intro i hi
    have := ih (i + 1) (by omega)
    have hpr : LedOk M b ∧ i < 4 := ⟨hp, by omega⟩
    refine X_run (C := [(i_L_hasTenant, e_L_hasTenant), (i_B_slot, e_B_slot), (i_L_priceOf, e_L_priceOf)]) (S := [4]) 100 k_L_rentOf (okE_cons (ok_L_hasTenant Z (d + 1)) (okE_cons (ok_B_slot Z (d + 1)) (okE_cons (ok_L_priceOf Z d) okE_nil))) ?_
    simp (disch := first | trivial | assumption | omega) only [run, go, jmp, seek, inS, e0, e1, e2, e3, e4, e5, tsw, e7, e8, e9, e10, e11, e12, splitA, rcv, clook, lget, lset, lset2, lkill, Option.toList, List.nil_append, List.cons_append, wsum, List.map_cons, List.map_nil, List.sum_cons, List.sum_nil, Value.category, Nat.reduceAdd, List.getD_cons_zero, List.getD_cons_succ, ↓reduceIte, if_true, if_false, Bool.false_eq_true, Nat.reduceLeDiff, Nat.reduceEqDiff, true_or, or_true, true_and, and_true, and_self, or_self, not_true, not_false_iff, mR_stI, mN_stI, isO_stI, isA_stI, mI_stI, mR_mW, mN_mW, isO_mW, isA_mW, mI_mW, mW_mW, stI_mW, nI_addL, nI_mulL, nI_subL, nI_ltL, nI_leL, nI_Llt, nI_Lle, nI_eqL, nI_Leq, nI_add, pk_mul, nI_ltI, nI_leI, nI_eq, vpi, nI_clamp, nI_toN, p_L_rentOf, ld_o hL, ld_og hL, ld_od hL, ld_r0 hL, ld_r1 hL, ld_r2 hL, ld_r3 hL, ld_r4 hL, ld_r5 hL, ld_r6 hL, ld_r7 hL, ld_r8 hL, ld_r9 hL, ld_r10 hL, ld_r11 hL, ld_a1 hL, ld_a2 hL, ld_a3 hL, ld_a4 hL, ld_a5 hL, ld_a6 hL, ld_a7 hL, ld_a8 hL, ld_a9 hL, ld_a11 hL, ld_a13 hL, ld_a14 hL, ld_t hD, ld_b hD, pc_L_hasTenant, i_L_hasTenant, pc_B_slot, i_B_slot, pc_L_priceOf, i_L_priceOf, bv_0]
    rw [if_neg (by omega), if_neg (by omega)]
    exact this
set_option maxRecDepth 100000 in
set_option maxHeartbeats 4000000 in
theorem ok_L_rentOf (Z : Zt) (d : Nat) : okE Z (d + 3) i_L_rentOf e_L_rentOf := mk_L_rentOf fun b t M ht0 hp => by
  obtain ⟨hp, ht⟩ := hp
  refine Gm_run (C := []) (S := [4]) [some (.ref b), some (.int (nI t)), none, none] 100 k_L_rentOf okE_nil (ex_n rfl) ?_
  simp (disch := first | trivial | assumption | omega) only [run, go, jmp, seek, inS, e0, e1, e2, e3, e4, e5, tsw, e7, e8, e9, e10, e11, e12, splitA, rcv, clook, lget, lset, lset2, lkill, Option.toList, List.nil_append, List.cons_append, wsum, List.map_cons, List.map_nil, List.sum_cons, List.sum_nil, Value.category, Nat.reduceAdd, List.getD_cons_zero, List.getD_cons_succ, ↓reduceIte, if_true, if_false, Bool.false_eq_true, Nat.reduceLeDiff, Nat.reduceEqDiff, true_or, or_true, true_and, and_true, and_self, or_self, not_true, not_false_iff, mR_stI, mN_stI, isO_stI, isA_stI, mI_stI, mR_mW, mN_mW, isO_mW, isA_mW, mI_mW, mW_mW, stI_mW, nI_addL, nI_mulL, nI_subL, nI_ltL, nI_leL, nI_Llt, nI_Lle, nI_eqL, nI_Leq, nI_add, pk_mul, nI_ltI, nI_leI, nI_eq, vpi, nI_clamp, nI_toN, p_L_rentOf]
  exact lp_L_rentOf Z d hp ht 4 0 rfl
theorem LedD_congr {f g : Nat → Nat → Int32} {b : Nat} (h : LedD f b) (h1 : g b 12 = f b 12) (h2 : g b 13 = f b 13) (h3 : g (b + 10) 2 = f (b + 10) 2) (h4 : g (b + 12) 2 = f (b + 12) 2) : LedD g b := by
  unfold LedD lnT lnB csz at *
  rw [h1, h2, h3, h4]
  exact h
theorem lnT_congr {f g : Nat → Nat → Int32} {b : Nat} (h2 : g b 13 = f b 13) : lnT g b = lnT f b := by unfold lnT; rw [h2]
theorem lnB_congr {f g : Nat → Nat → Int32} {b : Nat} (h2 : g b 12 = f b 12) : lnB g b = lnB f b := by unfold lnB; rw [h2]
/-- units of a loan go back to the fund -/
def gbF (f : Nat → Nat → Int32) (b t r : Nat) (n : Int32) : Nat → Nat → Int32 := afF (u2 (u2 f (b + 8) (t * 4 + r) (f (b + 8) (t * 4 + r) - n)) (b + 7) (t * 4 + r) (f (b + 7) (t * 4 + r) - n)) b r n
def e_L_giveBack : Ent := (fun av M => ∃ (b : Nat) (t : Nat) (r : Nat) (n : Int32), av = [.ref b, .int (nI t), .int (nI r), .int n] ∧ t < 2 ^ 31 ∧ r < 2 ^ 31 ∧ (LedOk M b ∧ t < lnT (mI M) b ∧ r < 4), fun av M r_ M_ => ∀ (b : Nat) (t : Nat) (r : Nat) (n : Int32), t < 2 ^ 31 → r < 2 ^ 31 → av = [.ref b, .int (nI t), .int (nI r), .int n] → r_ = (none) ∧ M_ = (mW M (gbF (mI M) b t r n)))
theorem pc_L_giveBack {b : Nat} {t : Nat} {r : Nat} {n : Int32} {M : Mem} {K : Option Value → Mem → Prop} (hp : LedOk M b ∧ t < lnT (mI M) b ∧ r < 4) (h_t : t < 2 ^ 31) (h_r : r < 2 ^ 31) : pcall e_L_giveBack [.ref b, .int (nI t), .int (nI r), .int n] M K = K (none) (mW M (gbF (mI M) b t r n)) := propext ⟨fun h => h.2 _ _ (fun b' t' r' n' h_t' h_r' e => by simp only [List.cons.injEq, Value.ref.injEq, Value.int.injEq, Value.long.injEq, and_true] at e; obtain ⟨q0, q1, q2, q3⟩ := e; obtain rfl := q0; obtain rfl := (nI_eq h_t h_t').mp q1; obtain rfl := (nI_eq h_r h_r').mp q2; obtain rfl := q3; exact ⟨rfl, rfl⟩), fun h => ⟨⟨b, t, r, n, rfl, h_t, h_r, hp⟩, fun r_ M_ q => by obtain ⟨rfl, rfl⟩ := q _ _ _ _ h_t h_r rfl; exact h⟩⟩
theorem mk_L_giveBack {Z : Zt} {d : Nat} (h : ∀ (b : Nat) (t : Nat) (r : Nat) (n : Int32) (M : Mem), t < 2 ^ 31 → r < 2 ^ 31 → (LedOk M b ∧ t < lnT (mI M) b ∧ r < 4) → Gm Z d s_L_giveBack [.ref b, .int (nI t), .int (nI r), .int n] M (ex (none) (mW M (gbF (mI M) b t r n)))) : okE Z d i_L_giveBack e_L_giveBack := by
  rintro av M ⟨b, t, r, n, rfl, h_t, h_r, hp⟩
  exact Gm.cons (h b t r n M h_t h_r hp) (fun r_ M_ q b' t' r' n' h_t' h_r' e => by simp only [List.cons.injEq, Value.ref.injEq, Value.int.injEq, Value.long.injEq, and_true] at e; obtain ⟨q0, q1, q2, q3⟩ := e; obtain rfl := q0; obtain rfl := (nI_eq h_t h_t').mp q1; obtain rfl := (nI_eq h_r h_r').mp q2; obtain rfl := q3; exact q)
set_option maxRecDepth 100000 in
set_option maxHeartbeats 4000000 in
theorem ok_L_giveBack (Z : Zt) (d : Nat) : okE Z (d + 3) i_L_giveBack e_L_giveBack := mk_L_giveBack fun b t r n M ht0 hr0 hp => by
  obtain ⟨hp, ht, hr⟩ := hp
  have hL := hp.1
  have hD := hp.2
  have h6 := ld_t6 hD
  have hx : LedOk (mW M (u2 (u2 (mI M) (b + 8) (t * 4 + r) (mI M (b + 8) (t * 4 + r) - n)) (b + 7) (t * 4 + r) (mI M (b + 7) (t * 4 + r) - n))) b ∧ r < 4 := ⟨⟨hL, LedD_congr hD (by simp [mI_mW, u2_at]) (by simp [mI_mW, u2_at]) (by simp [mI_mW, u2_at]) (by simp [mI_mW, u2_at])⟩, hr⟩
  refine Gm_run (C := [(i_L_hasTenant, e_L_hasTenant), (i_B_isResource, e_B_isResource), (i_B_slot, e_B_slot), (i_L_addToFund, e_L_addToFund)]) (S := []) [some (.ref b), some (.int (nI t)), some (.int (nI r)), some (.int n), none] 100 k_L_giveBack (okE_cons (ok_L_hasTenant Z (d + 1)) (okE_cons (ok_B_isResource Z (d + 1)) (okE_cons (ok_B_slot Z (d + 1)) (okE_cons (ok_L_addToFund Z d) okE_nil)))) (ex_n rfl) ?_
  simp (disch := first | trivial | assumption | omega) only [run, go, jmp, seek, inS, e0, e1, e2, e3, e4, e5, tsw, e7, e8, e9, e10, e11, e12, splitA, rcv, clook, lget, lset, lset2, lkill, Option.toList, List.nil_append, List.cons_append, wsum, List.map_cons, List.map_nil, List.sum_cons, List.sum_nil, Value.category, Nat.reduceAdd, List.getD_cons_zero, List.getD_cons_succ, ↓reduceIte, if_true, if_false, Bool.false_eq_true, Nat.reduceLeDiff, Nat.reduceEqDiff, true_or, or_true, true_and, and_true, and_self, or_self, not_true, not_false_iff, mR_stI, mN_stI, isO_stI, isA_stI, mI_stI, mR_mW, mN_mW, isO_mW, isA_mW, mI_mW, mW_mW, stI_mW, nI_addL, nI_mulL, nI_subL, nI_ltL, nI_leL, nI_Llt, nI_Lle, nI_eqL, nI_Leq, nI_add, pk_mul, nI_ltI, nI_leI, nI_eq, vpi, nI_clamp, nI_toN, p_L_giveBack, ld_o hL, ld_og hL, ld_od hL, ld_r0 hL, ld_r1 hL, ld_r2 hL, ld_r3 hL, ld_r4 hL, ld_r5 hL, ld_r6 hL, ld_r7 hL, ld_r8 hL, ld_r9 hL, ld_r10 hL, ld_r11 hL, ld_a1 hL, ld_a2 hL, ld_a3 hL, ld_a4 hL, ld_a5 hL, ld_a6 hL, ld_a7 hL, ld_a8 hL, ld_a9 hL, ld_a11 hL, ld_a13 hL, ld_a14 hL, ld_t hD, ld_b hD, pc_L_hasTenant, i_L_hasTenant, pc_B_slot, i_B_slot, pc_B_isResource, i_B_isResource, bv_0, pc_L_addToFund hx, i_L_addToFund, u2_ne]
  rw [if_neg (by omega), if_neg (by omega)]
  exact ⟨rfl, rfl⟩
/-- one resource of a demand fits -/
abbrev fitR (f : Nat → Nat → Int32) (b k t r : Nat) : Prop := f (b + 9) (t * 4 + r) + f (b + 13) (k * 6 + r) ≤ f (b + 7) (t * 4 + r) ∧ f (b + 3) r + f (b + 13) (k * 6 + r) ≤ f (b + 1) r
abbrev fitF (f : Nat → Nat → Int32) (b k : Nat) : Prop := (0 ≤ f (b + 13) (k * 6 + 4) ∧ f (b + 13) (k * 6 + 4) < nI (lnT f b)) ∧ ∀ r, r < 4 → fitR f b k (f (b + 13) (k * 6 + 4)).toNatClampNeg r
def e_L_fits : Ent := (fun av M => ∃ (b : Nat) (k : Nat), av = [.ref b, .int (nI k)] ∧ k < 2 ^ 31 ∧ (LedOk M b ∧ k < csz (mI M) (b + 12)), fun av M r_ M_ => ∀ (b : Nat) (k : Nat), k < 2 ^ 31 → av = [.ref b, .int (nI k)] → r_ = (some (.int (bv (fitF (mI M) b k)))) ∧ M_ = (M))
theorem pc_L_fits {b : Nat} {k : Nat} {M : Mem} {K : Option Value → Mem → Prop} (hp : LedOk M b ∧ k < csz (mI M) (b + 12)) (h_k : k < 2 ^ 31) : pcall e_L_fits [.ref b, .int (nI k)] M K = K (some (.int (bv (fitF (mI M) b k)))) (M) := propext ⟨fun h => h.2 _ _ (fun b' k' h_k' e => by simp only [List.cons.injEq, Value.ref.injEq, Value.int.injEq, Value.long.injEq, and_true] at e; obtain ⟨q0, q1⟩ := e; obtain rfl := q0; obtain rfl := (nI_eq h_k h_k').mp q1; exact ⟨rfl, rfl⟩), fun h => ⟨⟨b, k, rfl, h_k, hp⟩, fun r_ M_ q => by obtain ⟨rfl, rfl⟩ := q _ _ h_k rfl; exact h⟩⟩
theorem mk_L_fits {Z : Zt} {d : Nat} (h : ∀ (b : Nat) (k : Nat) (M : Mem), k < 2 ^ 31 → (LedOk M b ∧ k < csz (mI M) (b + 12)) → Gm Z d s_L_fits [.ref b, .int (nI k)] M (ex (some (.int (bv (fitF (mI M) b k)))) (M))) : okE Z d i_L_fits e_L_fits := by
  rintro av M ⟨b, k, rfl, h_k, hp⟩
  exact Gm.cons (h b k M h_k hp) (fun r_ M_ q b' k' h_k' e => by simp only [List.cons.injEq, Value.ref.injEq, Value.int.injEq, Value.long.injEq, and_true] at e; obtain ⟨q0, q1⟩ := e; obtain rfl := q0; obtain rfl := (nI_eq h_k h_k').mp q1; exact q)
set_option maxRecDepth 100000 in
set_option maxHeartbeats 4000000 in
theorem lp_L_fits (Z : Zt) (d : Nat) {b k t : Nat} {M : Mem} (hp : LedOk M b) (hk : k < csz (mI M) (b + 12)) (ho : mI M (b + 13) (k * 6 + 4) = nI t) (ht : t < lnT (mI M) b) : ∀ n i w4 w5, i + n = 4 → (∀ r, r < i → fitR (mI M) b k t r) → X Z (d + 3) s_L_fits (mN M) (mN M) (ex (some (.int (bv (fitF (mI M) b k)))) M) 22 [some (.ref b), some (.int (nI k)), some (.int (nI t)), some (.int (nI i)), w4, w5] [] M := by
  have hL := hp.1
  have hD := hp.2
  have h6 := ld_t6 hD
  have hc := ld_cd hL hD
  have h24 := hD.2.2.2.1
  have e : (nI t).toNatClampNeg = t := nI_clamp (by omega)
  intro n
  induction n with
  | zero =>
    intro i w4 w5 hi hall
    obtain rfl : i = 4 := by omega
    refine X_run (C := []) (S := [22]) 100 k_L_fits okE_nil ?_
    simp (disch := first | trivial | assumption | omega) only [run, go, jmp, seek, inS, e0, e1, e2, e3, e4, e5, tsw, e7, e8, e9, e10, e11, e12, splitA, rcv, clook, lget, lset, lset2, lkill, Option.toList, List.nil_append, List.cons_append, wsum, List.map_cons, List.map_nil, List.sum_cons, List.sum_nil, Value.category, Nat.reduceAdd, List.getD_cons_zero, List.getD_cons_succ, ↓reduceIte, if_true, if_false, Bool.false_eq_true, Nat.reduceLeDiff, Nat.reduceEqDiff, true_or, or_true, true_and, and_true, and_self, or_self, not_true, not_false_iff, mR_stI, mN_stI, isO_stI, isA_stI, mI_stI, mR_mW, mN_mW, isO_mW, isA_mW, mI_mW, mW_mW, stI_mW, nI_addL, nI_mulL, nI_subL, nI_ltL, nI_leL, nI_Llt, nI_Lle, nI_eqL, nI_Leq, nI_add, pk_mul, nI_ltI, nI_leI, nI_eq, vpi, nI_clamp, nI_toN, p_L_fits]
    refine ⟨?_, rfl⟩
    rw [bv_T]
    refine ⟨by rw [ho]; exact ⟨nI_pos' (by omega), nI_lt ht (by omega)⟩, ?_⟩
    rw [ho, e]
    exact hall
  | succ n ih =>
    intro i w4 w5 hi hall
    have hcell := cellF_at (j := i) hc hk (by omega)
    rw [Nat.add_assoc] at hcell
    refine X_run (C := [(i_C_cell, e_C_cell), (i_B_slot, e_B_slot)]) (S := [22]) 100 k_L_fits (okE_cons (ok_C_cell Z d) (okE_cons (ok_B_slot Z (d + 1)) okE_nil)) ?_
    simp (disch := first | trivial | assumption | omega) only [run, go, jmp, seek, inS, e0, e1, e2, e3, e4, e5, tsw, e7, e8, e9, e10, e11, e12, splitA, rcv, clook, lget, lset, lset2, lkill, Option.toList, List.nil_append, List.cons_append, wsum, List.map_cons, List.map_nil, List.sum_cons, List.sum_nil, Value.category, Nat.reduceAdd, List.getD_cons_zero, List.getD_cons_succ, ↓reduceIte, if_true, if_false, Bool.false_eq_true, Nat.reduceLeDiff, Nat.reduceEqDiff, true_or, or_true, true_and, and_true, and_self, or_self, not_true, not_false_iff, mR_stI, mN_stI, isO_stI, isA_stI, mI_stI, mR_mW, mN_mW, isO_mW, isA_mW, mI_mW, mW_mW, stI_mW, nI_addL, nI_mulL, nI_subL, nI_ltL, nI_leL, nI_Llt, nI_Lle, nI_eqL, nI_Leq, nI_add, pk_mul, nI_ltI, nI_leI, nI_eq, vpi, nI_clamp, nI_toN, p_L_fits, ld_o hL, ld_og hL, ld_od hL, ld_r0 hL, ld_r1 hL, ld_r2 hL, ld_r3 hL, ld_r4 hL, ld_r5 hL, ld_r6 hL, ld_r7 hL, ld_r8 hL, ld_r9 hL, ld_r10 hL, ld_r11 hL, ld_a1 hL, ld_a2 hL, ld_a3 hL, ld_a4 hL, ld_a5 hL, ld_a6 hL, ld_a7 hL, ld_a8 hL, ld_a9 hL, ld_a11 hL, ld_a13 hL, ld_a14 hL, ld_t hD, ld_b hD, pc_C_cell, i_C_cell, hcell, pc_B_slot, i_B_slot]
    rw [if_neg (by omega)]
    have hno : ¬ fitR (mI M) b k t i → ¬ fitF (mI M) b k := by
      intro h q
      have := q.2 i (by omega)
      rw [ho, e] at this
      exact h this
    split
    · next h => exact ⟨by rw [bv_F (hno (fun q => absurd q.1 (Int32.not_le.mpr h)))], rfl⟩
    · next h =>
      split
      · next h2 =>
        refine ih (i + 1) _ _ (by omega) fun r hr => ?_
        rcases Nat.lt_or_ge r i with q | q
        · exact hall r q
        · obtain rfl : r = i := by omega
          exact ⟨Int32.not_lt.mp h, h2⟩
      · next h2 => exact ⟨by rw [bv_F (hno (fun q => h2 q.2))], rfl⟩
set_option maxRecDepth 100000 in
set_option maxHeartbeats 4000000 in
theorem ok_L_fits (Z : Zt) (d : Nat) : okE Z (d + 3) i_L_fits e_L_fits := mk_L_fits fun b k M hk0 hp => by
  obtain ⟨hp, hk⟩ := hp
  have hL := hp.1
  have hD := hp.2
  have h6 := ld_t6 hD
  have hc := ld_cd hL hD
  have hcell := cellF_at (j := 4) hc hk (by omega)
  rw [Nat.add_assoc] at hcell
  refine Gm_run (C := [(i_C_cell, e_C_cell), (i_L_hasTenant, e_L_hasTenant)]) (S := [22]) [some (.ref b), some (.int (nI k)), none, none, none, none] 100 k_L_fits (okE_cons (ok_C_cell Z d) (okE_cons (ok_L_hasTenant Z (d + 1)) okE_nil)) (ex_n rfl) ?_
  simp only [run, go, jmp, seek, inS, e0, e1, e2, e3, e4, e5, tsw, e7, e8, e9, e10, e11, e12, splitA, rcv, clook, lget, lset, lset2, lkill, Option.toList, List.nil_append, List.cons_append, wsum, List.map_cons, List.map_nil, List.sum_cons, List.sum_nil, Value.category, Nat.reduceAdd, List.getD_cons_zero, List.getD_cons_succ, ↓reduceIte, if_true, if_false, Bool.false_eq_true, Nat.reduceLeDiff, Nat.reduceEqDiff, true_or, or_true, true_and, and_true, and_self, or_self, not_true, not_false_iff, mR_stI, mN_stI, isO_stI, isA_stI, mI_stI, mR_mW, mN_mW, isO_mW, isA_mW, mI_mW, mW_mW, stI_mW, p_L_fits, ld_o hL, ld_og hL, ld_od hL, ld_r0 hL, ld_r1 hL, ld_r2 hL, ld_r3 hL, ld_r4 hL, ld_r5 hL, ld_r6 hL, ld_r7 hL, ld_r8 hL, ld_r9 hL, ld_r10 hL, ld_r11 hL, ld_a1 hL, ld_a2 hL, ld_a3 hL, ld_a4 hL, ld_a5 hL, ld_a6 hL, ld_a7 hL, ld_a8 hL, ld_a9 hL, ld_a11 hL, ld_a13 hL, ld_a14 hL, pc_C_cell hc, i_C_cell, pc_L_hasTenant hp, i_L_hasTenant, bv_0, (show (4 : Int32) = nI 4 from rfl), hcell]
  split
  · next h => exact ⟨by rw [bv_F (fun q => h q.1)], rfl⟩
  · next h =>
    have h := Decidable.not_not.mp h
    obtain ⟨t, ht0, ht⟩ := nI_of (Int32.not_lt.mpr h.1)
    rw [ht] at h ⊢
    exact lp_L_fits Z d hp hk ht ((nI_ltI ht0 (by omega)).mp h.2) 4 0 _ _ rfl (fun r hr => by omega)
end
section
/-- next and least of the first n tenants -/
def ndP (f : Nat → Nat → Int32) (b : Nat) : Nat → Int32 × Int32
  | 0 => (-1, 0)
  | t + 1 => if 0 ≤ fwF f (b + 12) 4 (nI t) ∧ fitF f b (fwF f (b + 12) 4 (nI t)).toNatClampNeg ∧ ((ndP f b t).1 < 0 ∨ shP f b t 4 < (ndP f b t).2) then (fwF f (b + 12) 4 (nI t), shP f b t 4) else ndP f b t
def ndF (f : Nat → Nat → Int32) (b : Nat) : Int32 := (ndP f b (lnT f b)).1
def e_L_nextDemand : Ent := (fun av M => ∃ (b : Nat), av = [.ref b] ∧ (LedOk M b), fun av M r_ M_ => ∀ (b : Nat), av = [.ref b] → r_ = (some (.int (ndF (mI M) b))) ∧ M_ = (M))
theorem pc_L_nextDemand {b : Nat} {M : Mem} {K : Option Value → Mem → Prop} (hp : LedOk M b) : pcall e_L_nextDemand [.ref b] M K = K (some (.int (ndF (mI M) b))) (M) := propext ⟨fun h => h.2 _ _ (fun b' e => by simp only [List.cons.injEq, Value.ref.injEq, Value.int.injEq, Value.long.injEq, and_true] at e; have q0 := e; obtain rfl := q0; exact ⟨rfl, rfl⟩), fun h => ⟨⟨b, rfl, hp⟩, fun r_ M_ q => by obtain ⟨rfl, rfl⟩ := q _ rfl; exact h⟩⟩
theorem mk_L_nextDemand {Z : Zt} {d : Nat} (h : ∀ (b : Nat) (M : Mem), (LedOk M b) → Gm Z d s_L_nextDemand [.ref b] M (ex (some (.int (ndF (mI M) b))) (M))) : okE Z d i_L_nextDemand e_L_nextDemand := by
  rintro av M ⟨b, rfl, hp⟩
  exact Gm.cons (h b M  hp) (fun r_ M_ q b' e => by simp only [List.cons.injEq, Value.ref.injEq, Value.int.injEq, Value.long.injEq, and_true] at e; have q0 := e; obtain rfl := q0; exact q)
set_option maxRecDepth 100000 in
set_option maxHeartbeats 4000000 in
theorem lp_L_nextDemand (Z : Zt) (d : Nat) {b : Nat} {M : Mem} (hp : LedOk M b) : ∀ n i w4 w5, i + n = lnT (mI M) b → X Z (d + 4) s_L_nextDemand (mN M) (mN M) (ex (some (.int (ndF (mI M) b))) M) 6 [some (.ref b), some (.int (ndP (mI M) b i).1), some (.int (ndP (mI M) b i).2), some (.int (nI i)), w4, w5] [] M := by
  have hL := hp.1
  have hD := hp.2
  have h6 := ld_t6 hD
  have hc := ld_cd hL hD
  have h24 := hD.2.2.2.1
  intro n
  induction n with
  | zero =>
    intro i w4 w5 hi
    obtain rfl : i = lnT (mI M) b := by omega
    refine X_run (C := []) (S := [6]) 100 k_L_nextDemand okE_nil ?_
    simp (disch := first | trivial | assumption | omega) only [run, go, jmp, seek, inS, e0, e1, e2, e3, e4, e5, tsw, e7, e8, e9, e10, e11, e12, splitA, rcv, clook, lget, lset, lset2, lkill, Option.toList, List.nil_append, List.cons_append, wsum, List.map_cons, List.map_nil, List.sum_cons, List.sum_nil, Value.category, Nat.reduceAdd, List.getD_cons_zero, List.getD_cons_succ, ↓reduceIte, if_true, if_false, Bool.false_eq_true, Nat.reduceLeDiff, Nat.reduceEqDiff, true_or, or_true, true_and, and_true, and_self, or_self, not_true, not_false_iff, mR_stI, mN_stI, isO_stI, isA_stI, mI_stI, mR_mW, mN_mW, isO_mW, isA_mW, mI_mW, mW_mW, stI_mW, nI_addL, nI_mulL, nI_subL, nI_ltL, nI_leL, nI_Llt, nI_Lle, nI_eqL, nI_Leq, nI_add, pk_mul, nI_ltI, nI_leI, nI_eq, vpi, nI_clamp, nI_toN, p_L_nextDemand, ld_o hL, ld_og hL, ld_od hL, ld_r0 hL, ld_r1 hL, ld_r2 hL, ld_r3 hL, ld_r4 hL, ld_r5 hL, ld_r6 hL, ld_r7 hL, ld_r8 hL, ld_r9 hL, ld_r10 hL, ld_r11 hL, ld_a1 hL, ld_a2 hL, ld_a3 hL, ld_a4 hL, ld_a5 hL, ld_a6 hL, ld_a7 hL, ld_a8 hL, ld_a9 hL, ld_a11 hL, ld_a13 hL, ld_a14 hL, ld_t hD, ld_b hD]
    rw [if_pos (by omega)]
    exact ⟨rfl, rfl⟩
  | succ n ih =>
    intro i w4 w5 hi
    have this := fun w4 w5 => ih (i + 1) w4 w5 (by omega)
    have hsh : LedOk M b ∧ i < lnT (mI M) b := ⟨hp, by omega⟩
    refine X_run (C := [(i_C_firstWith, e_C_firstWith), (i_L_fits, e_L_fits), (i_L_shareOf, e_L_shareOf)]) (S := [6]) 100 k_L_nextDemand (okE_cons (ok_C_firstWith Z d) (okE_cons (ok_L_fits Z d) (okE_cons (ok_L_shareOf Z (d + 1)) okE_nil))) ?_
    simp only [ndP] at this
    rcases fwR_cases (fun k => cellF (mI M) (b + 12) (nI k) 4 = nI i) (csz (mI M) (b + 12)) 0 with e | ⟨k, -, h2, h3, e⟩
    · have e : fwF (mI M) (b + 12) 4 (nI i) = -1 := e
      simp only [e, m1_nn, false_and, if_false] at this
      simp (disch := first | trivial | assumption | omega) only [run, go, jmp, seek, inS, e0, e1, e2, e3, e4, e5, tsw, e7, e8, e9, e10, e11, e12, splitA, rcv, clook, lget, lset, lset2, lkill, Option.toList, List.nil_append, List.cons_append, wsum, List.map_cons, List.map_nil, List.sum_cons, List.sum_nil, Value.category, Nat.reduceAdd, List.getD_cons_zero, List.getD_cons_succ, ↓reduceIte, if_true, if_false, Bool.false_eq_true, Nat.reduceLeDiff, Nat.reduceEqDiff, true_or, or_true, true_and, and_true, and_self, or_self, not_true, not_false_iff, mR_stI, mN_stI, isO_stI, isA_stI, mI_stI, mR_mW, mN_mW, isO_mW, isA_mW, mI_mW, mW_mW, stI_mW, nI_addL, nI_mulL, nI_subL, nI_ltL, nI_leL, nI_Llt, nI_Lle, nI_eqL, nI_Leq, nI_add, pk_mul, nI_ltI, nI_leI, nI_eq, vpi, nI_clamp, nI_toN, p_L_nextDemand, ld_o hL, ld_og hL, ld_od hL, ld_r0 hL, ld_r1 hL, ld_r2 hL, ld_r3 hL, ld_r4 hL, ld_r5 hL, ld_r6 hL, ld_r7 hL, ld_r8 hL, ld_r9 hL, ld_r10 hL, ld_r11 hL, ld_a1 hL, ld_a2 hL, ld_a3 hL, ld_a4 hL, ld_a5 hL, ld_a6 hL, ld_a7 hL, ld_a8 hL, ld_a9 hL, ld_a11 hL, ld_a13 hL, ld_a14 hL, ld_t hD, ld_b hD, pc_C_firstWith, i_C_firstWith, e, m1_neg]
      rw [if_neg (by omega)]
      exact this _ _
    · have e : fwF (mI M) (b + 12) 4 (nI i) = nI k := e
      have hk0 : (0 : Int32) ≤ nI k := nI_pos' (by omega)
      have hfit : LedOk M b ∧ k < csz (mI M) (b + 12) := ⟨hp, by omega⟩
      have hck : (nI k).toNatClampNeg = k := nI_clamp (by omega)
      rw [e, hck] at this
      simp (disch := first | trivial | assumption | omega) only [run, go, jmp, seek, inS, e0, e1, e2, e3, e4, e5, tsw, e7, e8, e9, e10, e11, e12, splitA, rcv, clook, lget, lset, lset2, lkill, Option.toList, List.nil_append, List.cons_append, wsum, List.map_cons, List.map_nil, List.sum_cons, List.sum_nil, Value.category, Nat.reduceAdd, List.getD_cons_zero, List.getD_cons_succ, ↓reduceIte, if_true, if_false, Bool.false_eq_true, Nat.reduceLeDiff, Nat.reduceEqDiff, true_or, or_true, true_and, and_true, and_self, or_self, not_true, not_false_iff, mR_stI, mN_stI, isO_stI, isA_stI, mI_stI, mR_mW, mN_mW, isO_mW, isA_mW, mI_mW, mW_mW, stI_mW, nI_addL, nI_mulL, nI_subL, nI_ltL, nI_leL, nI_Llt, nI_Lle, nI_eqL, nI_Leq, nI_add, pk_mul, nI_ltI, nI_leI, nI_eq, vpi, nI_clamp, nI_toN, p_L_nextDemand, ld_o hL, ld_og hL, ld_od hL, ld_r0 hL, ld_r1 hL, ld_r2 hL, ld_r3 hL, ld_r4 hL, ld_r5 hL, ld_r6 hL, ld_r7 hL, ld_r8 hL, ld_r9 hL, ld_r10 hL, ld_r11 hL, ld_a1 hL, ld_a2 hL, ld_a3 hL, ld_a4 hL, ld_a5 hL, ld_a6 hL, ld_a7 hL, ld_a8 hL, ld_a9 hL, ld_a11 hL, ld_a13 hL, ld_a14 hL, ld_t hD, ld_b hD, pc_C_firstWith, i_C_firstWith, e, pc_L_fits hfit, i_L_fits, pc_L_shareOf hsh, i_L_shareOf, bv_0, Nat.not_lt_zero]
      rw [if_neg (by omega)]
      split
      · next h =>
        rw [if_neg (fun q => h q.2.1)] at this
        exact this _ _
      · next h =>
        have h := Decidable.not_not.mp h
        split
        · next h2 =>
          rw [if_pos ⟨hk0, h, Or.inl h2⟩] at this
          exact this _ _
        · next h2 =>
          split
          · next h3 =>
            rw [if_neg (fun q => by rcases q.2.2 with z | z; exact h2 z; exact absurd z (Int32.not_lt.mpr h3))] at this
            exact this _ _
          · next h3 =>
            rw [if_pos ⟨hk0, h, Or.inr (Int32.not_le.mp h3)⟩] at this
            exact this _ _
set_option maxRecDepth 100000 in
set_option maxHeartbeats 4000000 in
theorem ok_L_nextDemand (Z : Zt) (d : Nat) : okE Z (d + 4) i_L_nextDemand e_L_nextDemand := mk_L_nextDemand fun b M hp => by
  refine Gm_run (C := []) (S := [6]) [some (.ref b), none, none, none, none, none] 100 k_L_nextDemand okE_nil (ex_n rfl) ?_
  simp (disch := first | trivial | assumption | omega) only [run, go, jmp, seek, inS, e0, e1, e2, e3, e4, e5, tsw, e7, e8, e9, e10, e11, e12, splitA, rcv, clook, lget, lset, lset2, lkill, Option.toList, List.nil_append, List.cons_append, wsum, List.map_cons, List.map_nil, List.sum_cons, List.sum_nil, Value.category, Nat.reduceAdd, List.getD_cons_zero, List.getD_cons_succ, ↓reduceIte, if_true, if_false, Bool.false_eq_true, Nat.reduceLeDiff, Nat.reduceEqDiff, true_or, or_true, true_and, and_true, and_self, or_self, not_true, not_false_iff, mR_stI, mN_stI, isO_stI, isA_stI, mI_stI, mR_mW, mN_mW, isO_mW, isA_mW, mI_mW, mW_mW, stI_mW, nI_addL, nI_mulL, nI_subL, nI_ltL, nI_leL, nI_Llt, nI_Lle, nI_eqL, nI_Leq, nI_add, pk_mul, nI_ltI, nI_leI, nI_eq, vpi, nI_clamp, nI_toN, p_L_nextDemand]
  exact lp_L_nextDemand Z d hp (lnT (mI M) b) 0 _ _ (by omega)
/-- uses grow by s times a row, of the first n resources -/
def auP (f : Nat → Nat → Int32) (b c k t : Nat) (s : Int32) (n : Nat) : Nat → Nat → Int32 := fun x y => if x = b + 9 ∧ t * 4 ≤ y ∧ y < t * 4 + n then f x y + s * f (c + 1) (k * 6 + (y - t * 4)) else if x = b + 3 ∧ y < n then f x y + s * f (c + 1) (k * 6 + y) else f x y
def auF (f : Nat → Nat → Int32) (b c k : Nat) (s : Int32) : Nat → Nat → Int32 := if 0 ≤ f (c + 1) (k * 6 + 4) ∧ f (c + 1) (k * 6 + 4) < nI (lnT f b) then auP f b c k (f (c + 1) (k * 6 + 4)).toNatClampNeg s 4 else f
theorem auP_0 (f : Nat → Nat → Int32) (b c k t : Nat) (s : Int32) : auP f b c k t s 0 = f := by
  funext x y
  simp only [auP]
  rw [if_neg (by omega), if_neg (by omega)]
theorem auP_ne {f : Nat → Nat → Int32} {b c k t n x y : Nat} {s : Int32} (h1 : x ≠ b + 9) (h2 : x ≠ b + 3) : auP f b c k t s n x y = f x y := by
  unfold auP
  rw [if_neg (fun q => h1 q.1), if_neg (fun q => h2 q.1)]
theorem auP_1 {f : Nat → Nat → Int32} {b c k t n : Nat} {s : Int32} : u2 (u2 (auP f b c k t s n) (b + 9) (t * 4 + n) (auP f b c k t s n (b + 9) (t * 4 + n) + s * f (c + 1) (k * 6 + n))) (b + 3) n (auP f b c k t s n (b + 3) n + s * f (c + 1) (k * 6 + n)) = auP f b c k t s (n + 1) := by
  have a1 : auP f b c k t s n (b + 9) (t * 4 + n) = f (b + 9) (t * 4 + n) := by
    unfold auP
    rw [if_neg (by omega), if_neg (by omega)]
  have a2 : auP f b c k t s n (b + 3) n = f (b + 3) n := by
    unfold auP
    rw [if_neg (by omega), if_neg (by omega)]
  rw [a1, a2]
  funext x y
  simp only [auP, u2_at]
  by_cases h1 : x = b + 3 ∧ y = n
  · rw [if_pos h1, if_neg (by omega), if_pos (by omega), h1.1, h1.2]
  · rw [if_neg h1]
    by_cases h2 : x = b + 9 ∧ y = t * 4 + n
    · rw [if_pos h2, if_pos (by omega), h2.1, h2.2, Nat.add_sub_cancel_left]
    · rw [if_neg h2]
      by_cases h3 : x = b + 9 ∧ t * 4 ≤ y ∧ y < t * 4 + n
      · rw [if_pos h3, if_pos (by omega)]
      · rw [if_neg h3]
        by_cases h4 : x = b + 3 ∧ y < n
        · rw [if_pos h4, if_neg (by omega), if_pos (by omega)]
        · rw [if_neg h4, if_neg (by omega), if_neg (by omega)]
theorem ld_ofc {M : Mem} {b c : Nat} (hL : LedS M b) (hD : LedD (mI M) b) (hc : c = b + 10 ∨ c = b + 12) : ClOk M c := by
  rcases hc with rfl | rfl
  · exact ld_cg hL hD
  · exact ld_cd hL hD
def e_L_addUse : Ent := (fun av M => ∃ (b : Nat) (c : Nat) (k : Nat) (s : Int32), av = [.ref b, .ref c, .int (nI k), .int s] ∧ k < 2 ^ 31 ∧ (LedOk M b ∧ (c = b + 10 ∨ c = b + 12) ∧ k < csz (mI M) c), fun av M r_ M_ => ∀ (b : Nat) (c : Nat) (k : Nat) (s : Int32), k < 2 ^ 31 → av = [.ref b, .ref c, .int (nI k), .int s] → r_ = (none) ∧ M_ = (mW M (auF (mI M) b c k s)))
theorem pc_L_addUse {b : Nat} {c : Nat} {k : Nat} {s : Int32} {M : Mem} {K : Option Value → Mem → Prop} (hp : LedOk M b ∧ (c = b + 10 ∨ c = b + 12) ∧ k < csz (mI M) c) (h_k : k < 2 ^ 31) : pcall e_L_addUse [.ref b, .ref c, .int (nI k), .int s] M K = K (none) (mW M (auF (mI M) b c k s)) := propext ⟨fun h => h.2 _ _ (fun b' c' k' s' h_k' e => by simp only [List.cons.injEq, Value.ref.injEq, Value.int.injEq, Value.long.injEq, and_true] at e; obtain ⟨q0, q1, q2, q3⟩ := e; obtain rfl := q0; obtain rfl := q1; obtain rfl := (nI_eq h_k h_k').mp q2; obtain rfl := q3; exact ⟨rfl, rfl⟩), fun h => ⟨⟨b, c, k, s, rfl, h_k, hp⟩, fun r_ M_ q => by obtain ⟨rfl, rfl⟩ := q _ _ _ _ h_k rfl; exact h⟩⟩
theorem mk_L_addUse {Z : Zt} {d : Nat} (h : ∀ (b : Nat) (c : Nat) (k : Nat) (s : Int32) (M : Mem), k < 2 ^ 31 → (LedOk M b ∧ (c = b + 10 ∨ c = b + 12) ∧ k < csz (mI M) c) → Gm Z d s_L_addUse [.ref b, .ref c, .int (nI k), .int s] M (ex (none) (mW M (auF (mI M) b c k s)))) : okE Z d i_L_addUse e_L_addUse := by
  rintro av M ⟨b, c, k, s, rfl, h_k, hp⟩
  exact Gm.cons (h b c k s M h_k hp) (fun r_ M_ q b' c' k' s' h_k' e => by simp only [List.cons.injEq, Value.ref.injEq, Value.int.injEq, Value.long.injEq, and_true] at e; obtain ⟨q0, q1, q2, q3⟩ := e; obtain rfl := q0; obtain rfl := q1; obtain rfl := (nI_eq h_k h_k').mp q2; obtain rfl := q3; exact q)
set_option maxRecDepth 100000 in
set_option maxHeartbeats 4000000 in
theorem lp_L_addUse (Z : Zt) (d : Nat) {b c k t : Nat} {s : Int32} {M : Mem} (hp : LedOk M b) (hbc : c = b + 10 ∨ c = b + 12) (hk : k < csz (mI M) c) (ht : t < lnT (mI M) b) : ∀ n i w6, i + n = 4 → X Z (d + 3) s_L_addUse (mN M) (mN M) (ex none (mW M (auP (mI M) b c k t s 4))) 11 [some (.ref b), some (.ref c), some (.int (nI k)), some (.int s), some (.int (nI t)), some (.int (nI i)), w6] [] (mW M (auP (mI M) b c k t s i)) := by
  have hL := hp.1
  have hD := hp.2
  have h6 := ld_t6 hD
  have hc := ld_ofc hL hD hbc
  have hc40 := cl_40 hc
  have hcl := cl_le hc
  intro n
  induction n with
  | zero =>
    intro i w6 hi
    obtain rfl : i = 4 := by omega
    refine X_run (C := []) (S := [11]) 100 k_L_addUse okE_nil ?_
    simp (disch := first | trivial | assumption | omega) only [run, go, jmp, seek, inS, e0, e1, e2, e3, e4, e5, tsw, e7, e8, e9, e10, e11, e12, splitA, rcv, clook, lget, lset, lset2, lkill, Option.toList, List.nil_append, List.cons_append, wsum, List.map_cons, List.map_nil, List.sum_cons, List.sum_nil, Value.category, Nat.reduceAdd, List.getD_cons_zero, List.getD_cons_succ, ↓reduceIte, if_true, if_false, Bool.false_eq_true, Nat.reduceLeDiff, Nat.reduceEqDiff, true_or, or_true, true_and, and_true, and_self, or_self, not_true, not_false_iff, mR_stI, mN_stI, isO_stI, isA_stI, mI_stI, mR_mW, mN_mW, isO_mW, isA_mW, mI_mW, mW_mW, stI_mW, nI_addL, nI_mulL, nI_subL, nI_ltL, nI_leL, nI_Llt, nI_Lle, nI_eqL, nI_Leq, nI_add, pk_mul, nI_ltI, nI_leI, nI_eq, vpi, nI_clamp, nI_toN, p_L_addUse]
    exact ⟨rfl, rfl⟩
  | succ n ih =>
    intro i w6 hi
    have hD' : LedD (auP (mI M) b c k t s i) b := LedD_congr hD (auP_ne (by omega) (by omega)) (auP_ne (by omega) (by omega)) (auP_ne (by omega) (by omega)) (auP_ne (by omega) (by omega))
    have hp' : LedOk (mW M (auP (mI M) b c k t s i)) b := ⟨hL, hD'⟩
    have hc' : ClOk (mW M (auP (mI M) b c k t s i)) c := ld_ofc (M := mW M (auP (mI M) b c k t s i)) hL hD' hbc
    have hT : lnT (auP (mI M) b c k t s i) b = lnT (mI M) b := lnT_congr (auP_ne (by omega) (by omega))
    have hcs : csz (auP (mI M) b c k t s i) c = csz (mI M) c := by
      unfold csz
      rw [auP_ne (by omega) (by omega)]
    have hcell : cellF (auP (mI M) b c k t s i) c (nI k) (nI i) = mI M (c + 1) (k * 6 + i) := by
      have := cellF_at (j := i) hc' (k := k) (by show k < csz (auP (mI M) b c k t s i) c; rw [hcs]; exact hk) (by omega)
      rw [mI_mW] at this
      rw [this, auP_ne (by omega) (by omega)]
    have hu9 : ∀ v, u2 (auP (mI M) b c k t s i) (b + 9) (t * 4 + i) v (b + 3) i = auP (mI M) b c k t s i (b + 3) i := fun v => u2_ne (by omega)
    refine X_run (C := [(i_C_cell, e_C_cell), (i_L_hasTenant, e_L_hasTenant), (i_B_slot, e_B_slot)]) (S := [11]) 100 k_L_addUse (okE_cons (ok_C_cell Z d) (okE_cons (ok_L_hasTenant Z (d + 1)) (okE_cons (ok_B_slot Z (d + 1)) okE_nil))) ?_
    simp (disch := first | trivial | assumption | omega) only [run, go, jmp, seek, inS, e0, e1, e2, e3, e4, e5, tsw, e7, e8, e9, e10, e11, e12, splitA, rcv, clook, lget, lset, lset2, lkill, Option.toList, List.nil_append, List.cons_append, wsum, List.map_cons, List.map_nil, List.sum_cons, List.sum_nil, Value.category, Nat.reduceAdd, List.getD_cons_zero, List.getD_cons_succ, ↓reduceIte, if_true, if_false, Bool.false_eq_true, Nat.reduceLeDiff, Nat.reduceEqDiff, true_or, or_true, true_and, and_true, and_self, or_self, not_true, not_false_iff, mR_stI, mN_stI, isO_stI, isA_stI, mI_stI, mR_mW, mN_mW, isO_mW, isA_mW, mI_mW, mW_mW, stI_mW, nI_addL, nI_mulL, nI_subL, nI_ltL, nI_leL, nI_Llt, nI_Lle, nI_eqL, nI_Leq, nI_add, pk_mul, nI_ltI, nI_leI, nI_eq, vpi, nI_clamp, nI_toN, p_L_addUse, ld_o hL, ld_og hL, ld_od hL, ld_r0 hL, ld_r1 hL, ld_r2 hL, ld_r3 hL, ld_r4 hL, ld_r5 hL, ld_r6 hL, ld_r7 hL, ld_r8 hL, ld_r9 hL, ld_r10 hL, ld_r11 hL, ld_a1 hL, ld_a2 hL, ld_a3 hL, ld_a4 hL, ld_a5 hL, ld_a6 hL, ld_a7 hL, ld_a8 hL, ld_a9 hL, ld_a11 hL, ld_a13 hL, ld_a14 hL, (cl_o hc : isO M c 0 = True), pc_C_cell hc', i_C_cell, pc_L_hasTenant hp', i_L_hasTenant, pc_B_slot, i_B_slot, bv_0, hT, hcell, hu9, auP_1]
    rw [if_neg (by omega), if_neg (by omega)]
    exact ih (i + 1) _ (by omega)
set_option maxRecDepth 100000 in
set_option maxHeartbeats 4000000 in
theorem ok_L_addUse (Z : Zt) (d : Nat) : okE Z (d + 3) i_L_addUse e_L_addUse := mk_L_addUse fun b c k s M hk0 hp => by
  obtain ⟨hp, hbc, hk⟩ := hp
  have hL := hp.1
  have hD := hp.2
  have h6 := ld_t6 hD
  have hc := ld_ofc hL hD hbc
  have hcell := cellF_at (j := 4) hc hk (by omega)
  by_cases hv : 0 ≤ mI M (c + 1) (k * 6 + 4) ∧ mI M (c + 1) (k * 6 + 4) < nI (lnT (mI M) b)
  · obtain ⟨t, ht0, ht⟩ := nI_of (Int32.not_lt.mpr hv.1)
    refine Gm_run (C := [(i_C_cell, e_C_cell)]) (S := [11]) [some (.ref b), some (.ref c), some (.int (nI k)), some (.int s), none, none, none] 100 k_L_addUse (okE_cons (ok_C_cell Z d) okE_nil) (ex_n rfl) ?_
    simp only [run, go, jmp, seek, inS, e0, e1, e2, e3, e4, e5, tsw, e7, e8, e9, e10, e11, e12, splitA, rcv, clook, lget, lset, lset2, lkill, Option.toList, List.nil_append, List.cons_append, wsum, List.map_cons, List.map_nil, List.sum_cons, List.sum_nil, Value.category, Nat.reduceAdd, List.getD_cons_zero, List.getD_cons_succ, ↓reduceIte, if_true, if_false, Bool.false_eq_true, Nat.reduceLeDiff, Nat.reduceEqDiff, true_or, or_true, true_and, and_true, and_self, or_self, not_true, not_false_iff, mR_stI, mN_stI, isO_stI, isA_stI, mI_stI, mR_mW, mN_mW, isO_mW, isA_mW, mI_mW, mW_mW, stI_mW, p_L_addUse, cl_o hc, pc_C_cell hc, i_C_cell, (show (4 : Int32) = nI 4 from rfl), hcell]
    have e : auF (mI M) b c k s = auP (mI M) b c k t s 4 := by
      unfold auF
      rw [if_pos hv, ht, nI_clamp ht0]
    rw [e, ht]
    rw [ht] at hv
    have := lp_L_addUse Z d (s := s) hp hbc hk ((nI_ltI ht0 (by omega)).mp hv.2) 4 0 none rfl
    rw [auP_0] at this
    exact this
  · have e : auF (mI M) b c k s = mI M := by
      unfold auF
      rw [if_neg hv]
    refine Gm_run (C := [(i_C_cell, e_C_cell), (i_L_hasTenant, e_L_hasTenant)]) (S := []) [some (.ref b), some (.ref c), some (.int (nI k)), some (.int s), none, none, none] 100 k_L_addUse (okE_cons (ok_C_cell Z d) (okE_cons (ok_L_hasTenant Z (d + 1)) okE_nil)) (ex_n rfl) ?_
    rw [e]
    simp only [run, go, jmp, seek, inS, e0, e1, e2, e3, e4, e5, tsw, e7, e8, e9, e10, e11, e12, splitA, rcv, clook, lget, lset, lset2, lkill, Option.toList, List.nil_append, List.cons_append, wsum, List.map_cons, List.map_nil, List.sum_cons, List.sum_nil, Value.category, Nat.reduceAdd, List.getD_cons_zero, List.getD_cons_succ, ↓reduceIte, if_true, if_false, Bool.false_eq_true, Nat.reduceLeDiff, Nat.reduceEqDiff, true_or, or_true, true_and, and_true, and_self, or_self, not_true, not_false_iff, mR_stI, mN_stI, isO_stI, isA_stI, mI_stI, mR_mW, mN_mW, isO_mW, isA_mW, mI_mW, mW_mW, stI_mW, p_L_addUse, ld_o hL, ld_og hL, ld_od hL, ld_r0 hL, ld_r1 hL, ld_r2 hL, ld_r3 hL, ld_r4 hL, ld_r5 hL, ld_r6 hL, ld_r7 hL, ld_r8 hL, ld_r9 hL, ld_r10 hL, ld_r11 hL, ld_a1 hL, ld_a2 hL, ld_a3 hL, ld_a4 hL, ld_a5 hL, ld_a6 hL, ld_a7 hL, ld_a8 hL, ld_a9 hL, ld_a11 hL, ld_a13 hL, ld_a14 hL, cl_o hc, pc_C_cell hc, i_C_cell, pc_L_hasTenant hp, i_L_hasTenant, bv_0, (show (4 : Int32) = nI 4 from rfl), hcell, hv]
    exact ⟨rfl, rfl⟩
end
section
/-! granting, ending, bankruptcy, ticks -/
theorem u2_o {f : Nat → Nat → Int32} {a k : Nat} {v : Int32} {x y : Nat} (h : ¬ (x = a ∧ y = k)) : u2 f a k v x y = f x y := by unfold u2; rw [if_neg h]
theorem LedD_gr {f g : Nat → Nat → Int32} {b s : Nat} (h : LedD f b) (h1 : g b 12 = f b 12) (h2 : g b 13 = f b 13) (h3 : g (b + 10) 2 = nI s) (hs : s ≤ 40) (h4 : g (b + 12) 2 = f (b + 12) 2) : LedD g b := by
  have e : csz g (b + 10) = s := csz_of h3 (by omega)
  have e2 : csz g (b + 12) = csz f (b + 12) := by unfold csz; rw [h4]
  have e3 := lnT_congr (b := b) h2
  have e4 := lnB_congr (b := b) h1
  exact ⟨by rw [e]; exact h3, by rw [e]; exact hs, by rw [e2, h4]; exact h.2.2.1, by rw [e2]; exact h.2.2.2.1, by rw [e3, h2]; exact h.2.2.2.2.1, by rw [e3]; exact h.2.2.2.2.2.1, by rw [e4, h1]; exact h.2.2.2.2.2.2.1, by rw [e4]; exact h.2.2.2.2.2.2.2⟩
theorem LedD_de {f g : Nat → Nat → Int32} {b s : Nat} (h : LedD f b) (h1 : g b 12 = f b 12) (h2 : g b 13 = f b 13) (h3 : g (b + 12) 2 = nI s) (hs : s ≤ 24) (h4 : g (b + 10) 2 = f (b + 10) 2) : LedD g b := by
  have e : csz g (b + 12) = s := csz_of h3 (by omega)
  have e2 : csz g (b + 10) = csz f (b + 10) := by unfold csz; rw [h4]
  have e3 := lnT_congr (b := b) h2
  have e4 := lnB_congr (b := b) h1
  exact ⟨by rw [e2, h4]; exact h.1, by rw [e2]; exact h.2.1, by rw [e]; exact h3, by rw [e]; exact hs, by rw [e3, h2]; exact h.2.2.2.2.1, by rw [e3]; exact h.2.2.2.2.2.1, by rw [e4, h1]; exact h.2.2.2.2.2.2.1, by rw [e4]; exact h.2.2.2.2.2.2.2⟩
theorem rmF_ne {f : Nat → Nat → Int32} {c k x y : Nat} (h1 : x ≠ c) (h2 : x ≠ c + 1) : rmF f c k x y = f x y := by
  unfold rmF rmP
  rw [if_neg (fun q => h1 q.1), if_neg (fun q => h2 q.1)]
theorem arF_ne {f : Nat → Nat → Int32} {c o k x y : Nat} {n : Int32} (h1 : x ≠ c) (h2 : x ≠ c + 1) : arF f c o k n x y = f x y := by
  unfold arF
  rw [u2_ne h1, u2_ne h2, arP_ne h2]
theorem arF_s (f : Nat → Nat → Int32) (c o k : Nat) (n : Int32) : arF f c o k n c 2 = nI (csz f c + 1) := u2_eq
theorem auF_ne {f : Nat → Nat → Int32} {b c k x y : Nat} {s : Int32} (h1 : x ≠ b + 9) (h2 : x ≠ b + 3) : auF f b c k s x y = f x y := by
  unfold auF
  split
  · exact auP_ne h1 h2
  · rfl
/-- a demand becomes a grant -/
def sv1 (f : Nat → Nat → Int32) (b k : Nat) : Nat → Nat → Int32 := arF f (b + 10) (b + 12) k (f b 16)
def sv2 (f : Nat → Nat → Int32) (b k : Nat) : Nat → Nat → Int32 := u2 (sv1 f b k) b 16 (sv1 f b k b 16 + 1)
def sv3 (f : Nat → Nat → Int32) (b k : Nat) : Nat → Nat → Int32 := auF (sv2 f b k) b (b + 12) k 1
def svF (f : Nat → Nat → Int32) (b k : Nat) : Nat → Nat → Int32 := rmF (sv3 f b k) (b + 12) k
theorem sv1_D {f : Nat → Nat → Int32} {b k : Nat} (h : LedD f b) (hc : csz f (b + 10) < 40) : LedD (sv1 f b k) b := LedD_gr h (arF_ne (by omega) (by omega)) (arF_ne (by omega) (by omega)) (arF_s _ _ _ _ _) (by omega) (arF_ne (by omega) (by omega))
theorem sv2_D {f : Nat → Nat → Int32} {b k : Nat} (h : LedD f b) (hc : csz f (b + 10) < 40) : LedD (sv2 f b k) b := LedD_congr (sv1_D (k := k) h hc) (u2_o (by omega)) (u2_o (by omega)) (u2_o (by omega)) (u2_o (by omega))
theorem sv3_D {f : Nat → Nat → Int32} {b k : Nat} (h : LedD f b) (hc : csz f (b + 10) < 40) : LedD (sv3 f b k) b := LedD_congr (sv2_D (k := k) h hc) (auF_ne (by omega) (by omega)) (auF_ne (by omega) (by omega)) (auF_ne (by omega) (by omega)) (auF_ne (by omega) (by omega))
theorem sv2_d (f : Nat → Nat → Int32) (b k : Nat) : sv2 f b k (b + 12) 2 = f (b + 12) 2 := by
  unfold sv2 sv1
  rw [u2_o (by omega), arF_ne (by omega) (by omega)]
theorem sv3_d (f : Nat → Nat → Int32) (b k : Nat) : sv3 f b k (b + 12) 2 = f (b + 12) 2 := by
  unfold sv3
  rw [auF_ne (by omega) (by omega), sv2_d]
theorem sv2_c (f : Nat → Nat → Int32) (b k : Nat) : csz (sv2 f b k) (b + 12) = csz f (b + 12) := by unfold csz; rw [sv2_d]
theorem sv3_c (f : Nat → Nat → Int32) (b k : Nat) : csz (sv3 f b k) (b + 12) = csz f (b + 12) := by unfold csz; rw [sv3_d]
theorem svF_D {f : Nat → Nat → Int32} {b k : Nat} (h : LedD f b) (hc : csz f (b + 10) < 40) : LedD (svF f b k) b := LedD_de (s := csz f (b + 12) - 1) (sv3_D (k := k) h hc) (rmF_ne (by omega) (by omega)) (rmF_ne (by omega) (by omega)) (by unfold svF; rw [rmF_s, sv3_c]) (by have := h.2.2.2.1; omega) (rmF_ne (by omega) (by omega))
def e_L_serve : Ent := (fun av M => ∃ (b : Nat) (k : Nat), av = [.ref b, .int (nI k)] ∧ k < 2 ^ 31 ∧ (LedOk M b ∧ k < csz (mI M) (b + 12) ∧ csz (mI M) (b + 10) < 40), fun av M r_ M_ => ∀ (b : Nat) (k : Nat), k < 2 ^ 31 → av = [.ref b, .int (nI k)] → r_ = (some (.int (mI M (b + 13) (k * 6 + 4)))) ∧ M_ = (mW M (svF (mI M) b k)))
theorem pc_L_serve {b : Nat} {k : Nat} {M : Mem} {K : Option Value → Mem → Prop} (hp : LedOk M b ∧ k < csz (mI M) (b + 12) ∧ csz (mI M) (b + 10) < 40) (h_k : k < 2 ^ 31) : pcall e_L_serve [.ref b, .int (nI k)] M K = K (some (.int (mI M (b + 13) (k * 6 + 4)))) (mW M (svF (mI M) b k)) := propext ⟨fun h => h.2 _ _ (fun b' k' h_k' e => by simp only [List.cons.injEq, Value.ref.injEq, Value.int.injEq, Value.long.injEq, and_true] at e; obtain ⟨q0, q1⟩ := e; obtain rfl := q0; obtain rfl := (nI_eq h_k h_k').mp q1; exact ⟨rfl, rfl⟩), fun h => ⟨⟨b, k, rfl, h_k, hp⟩, fun r_ M_ q => by obtain ⟨rfl, rfl⟩ := q _ _ h_k rfl; exact h⟩⟩
theorem mk_L_serve {Z : Zt} {d : Nat} (h : ∀ (b : Nat) (k : Nat) (M : Mem), k < 2 ^ 31 → (LedOk M b ∧ k < csz (mI M) (b + 12) ∧ csz (mI M) (b + 10) < 40) → Gm Z d s_L_serve [.ref b, .int (nI k)] M (ex (some (.int (mI M (b + 13) (k * 6 + 4)))) (mW M (svF (mI M) b k)))) : okE Z d i_L_serve e_L_serve := by
  rintro av M ⟨b, k, rfl, h_k, hp⟩
  exact Gm.cons (h b k M h_k hp) (fun r_ M_ q b' k' h_k' e => by simp only [List.cons.injEq, Value.ref.injEq, Value.int.injEq, Value.long.injEq, and_true] at e; obtain ⟨q0, q1⟩ := e; obtain rfl := q0; obtain rfl := (nI_eq h_k h_k').mp q1; exact q)
set_option maxRecDepth 100000 in
set_option maxHeartbeats 4000000 in
theorem ok_L_serve (Z : Zt) (d : Nat) : okE Z (d + 4) i_L_serve e_L_serve := mk_L_serve fun b k M hk0 hp => by
  obtain ⟨hp, hk, hc⟩ := hp
  have hL := hp.1
  have hD := hp.2
  have hcd := ld_cd hL hD
  have hcg := ld_cg hL hD
  have hcell := cellF_at (j := 4) hcd hk (by omega)
  rw [Nat.add_assoc] at hcell
  have hA : ClOk M (b + 10) ∧ ClOk M (b + 12) ∧ csz (mI M) (b + 10) < ccap (b + 10) ∧ k < csz (mI M) (b + 12) ∧ b + 10 ≠ b + 12 := ⟨hcg, hcd, by rw [ccap_g hL]; exact hc, hk, by omega⟩
  have hU : LedOk (mW M (sv2 (mI M) b k)) b ∧ (b + 12 = b + 10 ∨ b + 12 = b + 12) ∧ k < csz (mI (mW M (sv2 (mI M) b k))) (b + 12) := ⟨⟨hL, sv2_D hD hc⟩, Or.inr rfl, by show k < csz (sv2 (mI M) b k) (b + 12); rw [sv2_c]; exact hk⟩
  have hR : ClOk (mW M (sv3 (mI M) b k)) (b + 12) ∧ k < csz (mI (mW M (sv3 (mI M) b k))) (b + 12) := ⟨ld_cd (M := mW M (sv3 (mI M) b k)) hL (sv3_D hD hc), by show k < csz (sv3 (mI M) b k) (b + 12); rw [sv3_c]; exact hk⟩
  refine Gm_run (C := [(i_C_cell, e_C_cell), (i_C_addRowOf, e_C_addRowOf), (i_L_addUse, e_L_addUse), (i_C_remove, e_C_remove)]) (S := []) [some (.ref b), some (.int (nI k)), none] 100 k_L_serve (okE_cons (ok_C_cell Z (d + 1)) (okE_cons (ok_C_addRowOf Z d) (okE_cons (ok_L_addUse Z d) (okE_cons (ok_C_remove Z (d + 1)) okE_nil)))) (ex_n rfl) ?_
  simp (disch := first | assumption | omega) only [run, go, jmp, seek, inS, e0, e1, e2, e3, e4, e5, tsw, e7, e8, e9, e10, e11, e12, splitA, rcv, clook, lget, lset, lset2, lkill, Option.toList, List.nil_append, List.cons_append, wsum, List.map_cons, List.map_nil, List.sum_cons, List.sum_nil, Value.category, Nat.reduceAdd, List.getD_cons_zero, List.getD_cons_succ, ↓reduceIte, if_true, if_false, Bool.false_eq_true, Nat.reduceLeDiff, Nat.reduceEqDiff, true_or, or_true, true_and, and_true, and_self, or_self, not_true, not_false_iff, mR_stI, mN_stI, isO_stI, isA_stI, mI_stI, mR_mW, mN_mW, isO_mW, isA_mW, mI_mW, mW_mW, stI_mW, p_L_serve, ld_o hL, ld_og hL, ld_od hL, ld_r0 hL, ld_r1 hL, ld_r2 hL, ld_r3 hL, ld_r4 hL, ld_r5 hL, ld_r6 hL, ld_r7 hL, ld_r8 hL, ld_r9 hL, ld_r10 hL, ld_r11 hL, ld_a1 hL, ld_a2 hL, ld_a3 hL, ld_a4 hL, ld_a5 hL, ld_a6 hL, ld_a7 hL, ld_a8 hL, ld_a9 hL, ld_a11 hL, ld_a13 hL, ld_a14 hL, pc_C_cell hcd, i_C_cell, (show (4 : Int32) = nI 4 from rfl), hcell, pc_C_addRowOf hA, i_C_addRowOf, ← sv1.eq_1, ← sv2.eq_1, pc_L_addUse hU, i_L_addUse, ← sv3.eq_1, pc_C_remove hR, i_C_remove]
  exact ⟨rfl, rfl⟩
def e_L_endGrant : Ent := (fun av M => ∃ (b : Nat) (k : Nat), av = [.ref b, .int (nI k)] ∧ k < 2 ^ 31 ∧ (LedOk M b ∧ k < csz (mI M) (b + 10)), fun av M r_ M_ => ∀ (b : Nat) (k : Nat), k < 2 ^ 31 → av = [.ref b, .int (nI k)] → r_ = (none) ∧ M_ = (mW M (rmF (auF (mI M) b (b + 10) k (-1)) (b + 10) k)))
theorem pc_L_endGrant {b : Nat} {k : Nat} {M : Mem} {K : Option Value → Mem → Prop} (hp : LedOk M b ∧ k < csz (mI M) (b + 10)) (h_k : k < 2 ^ 31) : pcall e_L_endGrant [.ref b, .int (nI k)] M K = K (none) (mW M (rmF (auF (mI M) b (b + 10) k (-1)) (b + 10) k)) := propext ⟨fun h => h.2 _ _ (fun b' k' h_k' e => by simp only [List.cons.injEq, Value.ref.injEq, Value.int.injEq, Value.long.injEq, and_true] at e; obtain ⟨q0, q1⟩ := e; obtain rfl := q0; obtain rfl := (nI_eq h_k h_k').mp q1; exact ⟨rfl, rfl⟩), fun h => ⟨⟨b, k, rfl, h_k, hp⟩, fun r_ M_ q => by obtain ⟨rfl, rfl⟩ := q _ _ h_k rfl; exact h⟩⟩
theorem mk_L_endGrant {Z : Zt} {d : Nat} (h : ∀ (b : Nat) (k : Nat) (M : Mem), k < 2 ^ 31 → (LedOk M b ∧ k < csz (mI M) (b + 10)) → Gm Z d s_L_endGrant [.ref b, .int (nI k)] M (ex (none) (mW M (rmF (auF (mI M) b (b + 10) k (-1)) (b + 10) k)))) : okE Z d i_L_endGrant e_L_endGrant := by
  rintro av M ⟨b, k, rfl, h_k, hp⟩
  exact Gm.cons (h b k M h_k hp) (fun r_ M_ q b' k' h_k' e => by simp only [List.cons.injEq, Value.ref.injEq, Value.int.injEq, Value.long.injEq, and_true] at e; obtain ⟨q0, q1⟩ := e; obtain rfl := q0; obtain rfl := (nI_eq h_k h_k').mp q1; exact q)
set_option maxRecDepth 100000 in
set_option maxHeartbeats 4000000 in
theorem ok_L_endGrant (Z : Zt) (d : Nat) : okE Z (d + 4) i_L_endGrant e_L_endGrant := mk_L_endGrant fun b k M hk0 hp => by
  obtain ⟨hp, hk⟩ := hp
  have hL := hp.1
  have hD := hp.2
  have hU : LedOk M b ∧ (b + 10 = b + 10 ∨ b + 10 = b + 12) ∧ k < csz (mI M) (b + 10) := ⟨hp, Or.inl rfl, hk⟩
  have hD' : LedD (auF (mI M) b (b + 10) k (-1)) b := LedD_congr hD (auF_ne (by omega) (by omega)) (auF_ne (by omega) (by omega)) (auF_ne (by omega) (by omega)) (auF_ne (by omega) (by omega))
  have hR : ClOk (mW M (auF (mI M) b (b + 10) k (-1))) (b + 10) ∧ k < csz (mI (mW M (auF (mI M) b (b + 10) k (-1)))) (b + 10) := ⟨ld_cg (M := mW M (auF (mI M) b (b + 10) k (-1))) hL hD', by
    have e : csz (auF (mI M) b (b + 10) k (-1)) (b + 10) = csz (mI M) (b + 10) := by unfold csz; rw [auF_ne (by omega) (by omega)]
    show k < csz (auF (mI M) b (b + 10) k (-1)) (b + 10)
    rw [e]
    exact hk⟩
  refine Gm_run (C := [(i_L_addUse, e_L_addUse), (i_C_remove, e_C_remove)]) (S := []) [some (.ref b), some (.int (nI k))] 100 k_L_endGrant (okE_cons (ok_L_addUse Z d) (okE_cons (ok_C_remove Z (d + 1)) okE_nil)) (ex_n rfl) ?_
  simp (disch := first | assumption | omega) only [run, go, jmp, seek, inS, e0, e1, e2, e3, e4, e5, tsw, e7, e8, e9, e10, e11, e12, splitA, rcv, clook, lget, lset, lset2, lkill, Option.toList, List.nil_append, List.cons_append, wsum, List.map_cons, List.map_nil, List.sum_cons, List.sum_nil, Value.category, Nat.reduceAdd, List.getD_cons_zero, List.getD_cons_succ, ↓reduceIte, if_true, if_false, Bool.false_eq_true, Nat.reduceLeDiff, Nat.reduceEqDiff, true_or, or_true, true_and, and_true, and_self, or_self, not_true, not_false_iff, mR_stI, mN_stI, isO_stI, isA_stI, mI_stI, mR_mW, mN_mW, isO_mW, isA_mW, mI_mW, mW_mW, stI_mW, p_L_endGrant, ld_o hL, ld_og hL, ld_od hL, ld_r0 hL, ld_r1 hL, ld_r2 hL, ld_r3 hL, ld_r4 hL, ld_r5 hL, ld_r6 hL, ld_r7 hL, ld_r8 hL, ld_r9 hL, ld_r10 hL, ld_r11 hL, ld_a1 hL, ld_a2 hL, ld_a3 hL, ld_a4 hL, ld_a5 hL, ld_a6 hL, ld_a7 hL, ld_a8 hL, ld_a9 hL, ld_a11 hL, ld_a13 hL, ld_a14 hL, pc_L_addUse hU, i_L_addUse, pc_C_remove hR, i_C_remove]
  exact ⟨rfl, rfl⟩
/-- grants as long as there is a next demand and a place; n so far; the tenants into a -/
def saP (b a : Nat) : Nat → (Nat → Nat → Int32) → Nat → (Nat → Nat → Int32) × Nat
  | 0, f, n => (f, n)
  | m + 1, f, n => if csz f (b + 10) < 40 ∧ 0 ≤ ndF f b then saP b a m (u2 (svF f b (ndF f b).toNatClampNeg) a n (f (b + 13) ((ndF f b).toNatClampNeg * 6 + 4))) (n + 1) else (f, n)
theorem ndP_cases (f : Nat → Nat → Int32) (b : Nat) : ∀ t, (ndP f b t).1 = -1 ∨ ∃ k, k < csz f (b + 12) ∧ (ndP f b t).1 = nI k
  | 0 => Or.inl rfl
  | t + 1 => by
    unfold ndP
    split
    · next h =>
      rcases fwR_cases (fun k => cellF f (b + 12) (nI k) 4 = nI t) (csz f (b + 12)) 0 with e | ⟨k, -, h2, -, e⟩
      · have e : fwF f (b + 12) 4 (nI t) = -1 := e
        exact Or.inl e
      · have e : fwF f (b + 12) 4 (nI t) = nI k := e
        exact Or.inr ⟨k, by omega, e⟩
    · exact ndP_cases f b t
theorem ndF_cases (f : Nat → Nat → Int32) (b : Nat) : ndF f b = -1 ∨ ∃ k, k < csz f (b + 12) ∧ ndF f b = nI k := ndP_cases f b _
def e_L_serveAll : Ent := (fun av M => ∃ (b : Nat) (a : Nat), av = [.ref b, .ref a] ∧ (LedOk M b ∧ a < mN M ∧ kd a = (1, 24) ∧ (a < b ∨ b + 14 < a)), fun av M r_ M_ => ∀ (b : Nat) (a : Nat), av = [.ref b, .ref a] → r_ = (some (.int (nI (saP b a 24 (mI M) 0).2))) ∧ M_ = (mW M (saP b a 24 (mI M) 0).1))
theorem pc_L_serveAll {b : Nat} {a : Nat} {M : Mem} {K : Option Value → Mem → Prop} (hp : LedOk M b ∧ a < mN M ∧ kd a = (1, 24) ∧ (a < b ∨ b + 14 < a)) : pcall e_L_serveAll [.ref b, .ref a] M K = K (some (.int (nI (saP b a 24 (mI M) 0).2))) (mW M (saP b a 24 (mI M) 0).1) := propext ⟨fun h => h.2 _ _ (fun b' a' e => by simp only [List.cons.injEq, Value.ref.injEq, Value.int.injEq, Value.long.injEq, and_true] at e; obtain ⟨q0, q1⟩ := e; obtain rfl := q0; obtain rfl := q1; exact ⟨rfl, rfl⟩), fun h => ⟨⟨b, a, rfl, hp⟩, fun r_ M_ q => by obtain ⟨rfl, rfl⟩ := q _ _ rfl; exact h⟩⟩
theorem mk_L_serveAll {Z : Zt} {d : Nat} (h : ∀ (b : Nat) (a : Nat) (M : Mem), (LedOk M b ∧ a < mN M ∧ kd a = (1, 24) ∧ (a < b ∨ b + 14 < a)) → Gm Z d s_L_serveAll [.ref b, .ref a] M (ex (some (.int (nI (saP b a 24 (mI M) 0).2))) (mW M (saP b a 24 (mI M) 0).1))) : okE Z d i_L_serveAll e_L_serveAll := by
  rintro av M ⟨b, a, rfl, hp⟩
  exact Gm.cons (h b a M  hp) (fun r_ M_ q b' a' e => by simp only [List.cons.injEq, Value.ref.injEq, Value.int.injEq, Value.long.injEq, and_true] at e; obtain ⟨q0, q1⟩ := e; obtain rfl := q0; obtain rfl := q1; exact q)
set_option maxRecDepth 100000 in
set_option maxHeartbeats 4000000 in
theorem lp_L_serveAll (Z : Zt) (d : Nat) {b a : Nat} {M : Mem} {R0 : Nat} {g : Nat → Nat → Int32} (hL : LedS M b) (ha : a < mN M) (hk : kd a = (1, 24)) (hab : a < b ∨ b + 14 < a) : ∀ m n f w3, n + m = 24 → LedD f b → saP b a m f n = (g, R0) → X Z (d + 5) s_L_serveAll (mN M) (mN M) (ex (some (.int (nI R0))) (mW M g)) 2 [some (.ref b), some (.ref a), some (.int (nI n)), w3] [] (mW M f) := by
  have hA : ∀ {k}, k < 24 → isA M a (nI k) = True := fun {k} h => eq_true ⟨ha, by rw [hk], by rw [hk]; exact vp_in_nI h (by decide)⟩
  intro m
  induction m with
  | zero =>
    intro n f w3 hn hD hr
    obtain rfl : n = 24 := by omega
    cases hr
    refine X_run (C := []) (S := [2]) 100 k_L_serveAll okE_nil ?_
    simp (disch := first | trivial | assumption | omega) only [run, go, jmp, seek, inS, e0, e1, e2, e3, e4, e5, tsw, e7, e8, e9, e10, e11, e12, splitA, rcv, clook, lget, lset, lset2, lkill, Option.toList, List.nil_append, List.cons_append, wsum, List.map_cons, List.map_nil, List.sum_cons, List.sum_nil, Value.category, Nat.reduceAdd, List.getD_cons_zero, List.getD_cons_succ, ↓reduceIte, if_true, if_false, Bool.false_eq_true, Nat.reduceLeDiff, Nat.reduceEqDiff, true_or, or_true, true_and, and_true, and_self, or_self, not_true, not_false_iff, mR_stI, mN_stI, isO_stI, isA_stI, mI_stI, mR_mW, mN_mW, isO_mW, isA_mW, mI_mW, mW_mW, stI_mW, nI_addL, nI_mulL, nI_subL, nI_ltL, nI_leL, nI_Llt, nI_Lle, nI_eqL, nI_Leq, nI_add, pk_mul, nI_ltI, nI_leI, nI_eq, vpi, nI_clamp, nI_toN, p_L_serveAll, hk, ha]
    exact ⟨rfl, rfl⟩
  | succ m ih =>
    intro n f w3 hn hD hr
    have hp : LedOk (mW M f) b := ⟨hL, hD⟩
    have hcg : ClOk (mW M f) (b + 10) := ld_cg (M := mW M f) hL hD
    have h24 := hD.2.2.2.1
    rw [saP] at hr
    rcases ndF_cases f b with e | ⟨k, hkk, e⟩
    · rw [if_neg (fun q => by rw [e] at q; exact absurd q.2 (by decide))] at hr
      cases hr
      refine X_run (C := [(i_C_isFull, e_C_isFull), (i_L_nextDemand, e_L_nextDemand)]) (S := [2]) 100 k_L_serveAll (okE_cons (ok_C_isFull Z (d + 3)) (okE_cons (ok_L_nextDemand Z d) okE_nil)) ?_
      simp (disch := first | trivial | assumption | omega) only [run, go, jmp, seek, inS, e0, e1, e2, e3, e4, e5, tsw, e7, e8, e9, e10, e11, e12, splitA, rcv, clook, lget, lset, lset2, lkill, Option.toList, List.nil_append, List.cons_append, wsum, List.map_cons, List.map_nil, List.sum_cons, List.sum_nil, Value.category, Nat.reduceAdd, List.getD_cons_zero, List.getD_cons_succ, ↓reduceIte, if_true, if_false, Bool.false_eq_true, Nat.reduceLeDiff, Nat.reduceEqDiff, true_or, or_true, true_and, and_true, and_self, or_self, not_true, not_false_iff, mR_stI, mN_stI, isO_stI, isA_stI, mI_stI, mR_mW, mN_mW, isO_mW, isA_mW, mI_mW, mW_mW, stI_mW, nI_addL, nI_mulL, nI_subL, nI_ltL, nI_leL, nI_Llt, nI_Lle, nI_eqL, nI_Leq, nI_add, pk_mul, nI_ltI, nI_leI, nI_eq, vpi, nI_clamp, nI_toN, p_L_serveAll, hk, ha, ld_o hL, ld_og hL, ld_od hL, ld_r0 hL, ld_r1 hL, ld_r2 hL, ld_r3 hL, ld_r4 hL, ld_r5 hL, ld_r6 hL, ld_r7 hL, ld_r8 hL, ld_r9 hL, ld_r10 hL, ld_r11 hL, ld_a1 hL, ld_a2 hL, ld_a3 hL, ld_a4 hL, ld_a5 hL, ld_a6 hL, ld_a7 hL, ld_a8 hL, ld_a9 hL, ld_a11 hL, ld_a13 hL, ld_a14 hL, pc_C_isFull hcg, i_C_isFull, bv_0, pc_L_nextDemand hp, i_L_nextDemand, e, m1_nn, ite_self]
      rw [if_neg (by omega)]
      exact ⟨rfl, rfl⟩
    · have hk0 : (0 : Int32) ≤ nI k := nI_pos' (by omega)
      have hck : (nI k).toNatClampNeg = k := nI_clamp (by omega)
      rw [e, hck] at hr
      by_cases hf : csz f (b + 10) < 40
      · rw [if_pos ⟨hf, hk0⟩] at hr
        have hS : LedOk (mW M f) b ∧ k < csz (mI (mW M f)) (b + 12) ∧ csz (mI (mW M f)) (b + 10) < 40 := ⟨hp, hkk, hf⟩
        have hfu : ¬ ccap (b + 10) ≤ csz f (b + 10) := by rw [ccap_g hL]; omega
        refine X_run (C := [(i_C_isFull, e_C_isFull), (i_L_nextDemand, e_L_nextDemand), (i_L_serve, e_L_serve)]) (S := [2]) 100 k_L_serveAll (okE_cons (ok_C_isFull Z (d + 3)) (okE_cons (ok_L_nextDemand Z d) (okE_cons (ok_L_serve Z d) okE_nil))) ?_
        simp (disch := first | trivial | assumption | omega) only [run, go, jmp, seek, inS, e0, e1, e2, e3, e4, e5, tsw, e7, e8, e9, e10, e11, e12, splitA, rcv, clook, lget, lset, lset2, lkill, Option.toList, List.nil_append, List.cons_append, wsum, List.map_cons, List.map_nil, List.sum_cons, List.sum_nil, Value.category, Nat.reduceAdd, List.getD_cons_zero, List.getD_cons_succ, ↓reduceIte, if_true, if_false, Bool.false_eq_true, Nat.reduceLeDiff, Nat.reduceEqDiff, true_or, or_true, true_and, and_true, and_self, or_self, not_true, not_false_iff, mR_stI, mN_stI, isO_stI, isA_stI, mI_stI, mR_mW, mN_mW, isO_mW, isA_mW, mI_mW, mW_mW, stI_mW, nI_addL, nI_mulL, nI_subL, nI_ltL, nI_leL, nI_Llt, nI_Lle, nI_eqL, nI_Leq, nI_add, pk_mul, nI_ltI, nI_leI, nI_eq, vpi, nI_clamp, nI_toN, p_L_serveAll, hk, ha, ld_o hL, ld_og hL, ld_od hL, ld_r0 hL, ld_r1 hL, ld_r2 hL, ld_r3 hL, ld_r4 hL, ld_r5 hL, ld_r6 hL, ld_r7 hL, ld_r8 hL, ld_r9 hL, ld_r10 hL, ld_r11 hL, ld_a1 hL, ld_a2 hL, ld_a3 hL, ld_a4 hL, ld_a5 hL, ld_a6 hL, ld_a7 hL, ld_a8 hL, ld_a9 hL, ld_a11 hL, ld_a13 hL, ld_a14 hL, hA, pc_C_isFull hcg, i_C_isFull, hfu, bv_0, pc_L_nextDemand hp, i_L_nextDemand, e, pc_L_serve hS, i_L_serve]
        rw [if_neg (by omega), if_pos (by omega)]
        refine ih (n + 1) _ _ (by omega) ?_ hr
        exact LedD_congr (svF_D (k := k) hD hf) (u2_o (by omega)) (u2_o (by omega)) (u2_o (by omega)) (u2_o (by omega))
      · rw [if_neg (fun q => hf q.1)] at hr
        have hfu : (ccap (b + 10) ≤ csz f (b + 10)) = True := eq_true (by rw [ccap_g hL]; omega)
        cases hr
        refine X_run (C := [(i_C_isFull, e_C_isFull), (i_L_nextDemand, e_L_nextDemand)]) (S := [2]) 100 k_L_serveAll (okE_cons (ok_C_isFull Z (d + 3)) (okE_cons (ok_L_nextDemand Z d) okE_nil)) ?_
        simp (disch := first | trivial | assumption | omega) only [run, go, jmp, seek, inS, e0, e1, e2, e3, e4, e5, tsw, e7, e8, e9, e10, e11, e12, splitA, rcv, clook, lget, lset, lset2, lkill, Option.toList, List.nil_append, List.cons_append, wsum, List.map_cons, List.map_nil, List.sum_cons, List.sum_nil, Value.category, Nat.reduceAdd, List.getD_cons_zero, List.getD_cons_succ, ↓reduceIte, if_true, if_false, Bool.false_eq_true, Nat.reduceLeDiff, Nat.reduceEqDiff, true_or, or_true, true_and, and_true, and_self, or_self, not_true, not_false_iff, mR_stI, mN_stI, isO_stI, isA_stI, mI_stI, mR_mW, mN_mW, isO_mW, isA_mW, mI_mW, mW_mW, stI_mW, nI_addL, nI_mulL, nI_subL, nI_ltL, nI_leL, nI_Llt, nI_Lle, nI_eqL, nI_Leq, nI_add, pk_mul, nI_ltI, nI_leI, nI_eq, vpi, nI_clamp, nI_toN, p_L_serveAll, hk, ha, ld_o hL, ld_og hL, ld_od hL, ld_r0 hL, ld_r1 hL, ld_r2 hL, ld_r3 hL, ld_r4 hL, ld_r5 hL, ld_r6 hL, ld_r7 hL, ld_r8 hL, ld_r9 hL, ld_r10 hL, ld_r11 hL, ld_a1 hL, ld_a2 hL, ld_a3 hL, ld_a4 hL, ld_a5 hL, ld_a6 hL, ld_a7 hL, ld_a8 hL, ld_a9 hL, ld_a11 hL, ld_a13 hL, ld_a14 hL, pc_C_isFull hcg, i_C_isFull, hfu, bv_0, m1_nn]
        rw [if_neg (by omega)]
        exact ⟨rfl, rfl⟩
set_option maxRecDepth 100000 in
set_option maxHeartbeats 4000000 in
theorem ok_L_serveAll (Z : Zt) (d : Nat) : okE Z (d + 5) i_L_serveAll e_L_serveAll := mk_L_serveAll fun b a M hp => by
  obtain ⟨hp, ha, hk, hab⟩ := hp
  refine Gm_run (C := []) (S := [2]) [some (.ref b), some (.ref a), none, none] 100 k_L_serveAll okE_nil (ex_n rfl) ?_
  simp (disch := first | trivial | assumption | omega) only [run, go, jmp, seek, inS, e0, e1, e2, e3, e4, e5, tsw, e7, e8, e9, e10, e11, e12, splitA, rcv, clook, lget, lset, lset2, lkill, Option.toList, List.nil_append, List.cons_append, wsum, List.map_cons, List.map_nil, List.sum_cons, List.sum_nil, Value.category, Nat.reduceAdd, List.getD_cons_zero, List.getD_cons_succ, ↓reduceIte, if_true, if_false, Bool.false_eq_true, Nat.reduceLeDiff, Nat.reduceEqDiff, true_or, or_true, true_and, and_true, and_self, or_self, not_true, not_false_iff, mR_stI, mN_stI, isO_stI, isA_stI, mI_stI, mR_mW, mN_mW, isO_mW, isA_mW, mI_mW, mW_mW, stI_mW, nI_addL, nI_mulL, nI_subL, nI_ltL, nI_leL, nI_Llt, nI_Lle, nI_eqL, nI_Leq, nI_add, pk_mul, nI_ltI, nI_leI, nI_eq, vpi, nI_clamp, nI_toN, p_L_serveAll]
  exact lp_L_serveAll Z d hp.1 ha hk hab 24 0 (mI M) none rfl hp.2 rfl
end
section
/-- one resource of a tenant that goes bankrupt -/
def bk1 (f : Nat → Nat → Int32) (b t r : Nat) : Nat → Nat → Int32 := gbF (u2 (u2 f (b + 3) r (f (b + 3) r - f (b + 9) (t * 4 + r))) (b + 9) (t * 4 + r) 0) b t r (f (b + 8) (t * 4 + r))
def bkP (f : Nat → Nat → Int32) (b t : Nat) : Nat → Nat → Nat → Int32
  | 0 => f
  | r + 1 => bk1 (bkP f b t r) b t r
theorem gbF_o {f : Nat → Nat → Int32} {b t r x y : Nat} {n : Int32} (h1 : x ≠ b + 2) (h2 : x ≠ b + 7) (h3 : x ≠ b + 8) : gbF f b t r n x y = f x y := by
  unfold gbF afF
  rw [u2_ne h1, u2_ne h2, u2_ne h3]
theorem bk1_o {f : Nat → Nat → Int32} {b t r x y : Nat} (h1 : x ≠ b + 2) (h2 : x ≠ b + 7) (h3 : x ≠ b + 8) (h4 : x ≠ b + 3) (h5 : x ≠ b + 9) : bk1 f b t r x y = f x y := by
  unfold bk1
  rw [gbF_o h1 h2 h3, u2_ne h5, u2_ne h4]
theorem bkP_o {f : Nat → Nat → Int32} {b t x y : Nat} (h1 : x ≠ b + 2) (h2 : x ≠ b + 7) (h3 : x ≠ b + 8) (h4 : x ≠ b + 3) (h5 : x ≠ b + 9) : ∀ r, bkP f b t r x y = f x y
  | 0 => rfl
  | r + 1 => by
    unfold bkP
    rw [bk1_o h1 h2 h3 h4 h5, bkP_o h1 h2 h3 h4 h5 r]
theorem raF_ne {c x y : Nat} {t : Int32} (h1 : x ≠ c) (h2 : x ≠ c + 1) : ∀ (r : Nat) (f : Nat → Nat → Int32), raF f c t r x y = f x y
  | 0, f => rfl
  | r + 1, f => by
    unfold raF
    rw [raF_ne h1 h2 r]
    split
    · exact rmF_ne h1 h2
    · rfl
theorem raF_s {c : Nat} {t : Int32} : ∀ (r : Nat) (f : Nat → Nat → Int32), f c 2 = nI (csz f c) → csz f c ≤ 40 → r ≤ csz f c → ∃ s, s ≤ csz f c ∧ raF f c t r c 2 = nI s
  | 0, f, h, h40, hr => ⟨csz f c, Nat.le_refl _, h⟩
  | r + 1, f, h, h40, hr => by
    unfold raF
    split
    · have e : csz (rmF f c r) c = csz f c - 1 := csz_of (rmF_s f c r) (by omega)
      obtain ⟨s, h1, h2⟩ := raF_s (c := c) (t := t) r (rmF f c r) (by rw [e]; exact rmF_s f c r) (by rw [e]; omega) (by rw [e]; omega)
      exact ⟨s, by rw [e] at h1; omega, h2⟩
    · obtain ⟨s, h1, h2⟩ := raF_s (c := c) (t := t) r f h h40 (by omega)
      exact ⟨s, h1, h2⟩
def bkA (f : Nat → Nat → Int32) (b t : Nat) : Nat → Nat → Int32 := raF (bkP f b t 4) (b + 10) (nI t) (csz (bkP f b t 4) (b + 10))
def bkB (f : Nat → Nat → Int32) (b t : Nat) : Nat → Nat → Int32 := raF (bkA f b t) (b + 12) (nI t) (csz (bkA f b t) (b + 12))
def bkC (f : Nat → Nat → Int32) (b t : Nat) : Nat → Nat → Int32 := u2 (u2 (u2 (u2 (u2 (bkB f b t) (b + 5) t 0) (b + 6) t (f b 14)) b 17 (f b 17 + 1)) (b + 14) (lnB f b) (nI t)) b 12 (nI (lnB f b + 1))
def bkF (f : Nat → Nat → Int32) (b t : Nat) : Nat → Nat → Int32 := if lnB f b < 6 then bkC f b t else f
theorem bkP_D {f : Nat → Nat → Int32} {b t r : Nat} (h : LedD f b) : LedD (bkP f b t r) b := LedD_congr h (bkP_o (by omega) (by omega) (by omega) (by omega) (by omega) r) (bkP_o (by omega) (by omega) (by omega) (by omega) (by omega) r) (bkP_o (by omega) (by omega) (by omega) (by omega) (by omega) r) (bkP_o (by omega) (by omega) (by omega) (by omega) (by omega) r)
theorem bkA_D {f : Nat → Nat → Int32} {b t : Nat} (h : LedD f b) : LedD (bkA f b t) b := by
  have h1 := bkP_D (t := t) (r := 4) h
  obtain ⟨s, a, e⟩ := raF_s (t := nI t) (csz (bkP f b t 4) (b + 10)) (bkP f b t 4) h1.1 h1.2.1 (Nat.le_refl _)
  exact LedD_gr h1 (raF_ne (by omega) (by omega) _ _) (raF_ne (by omega) (by omega) _ _) e (by have := h1.2.1; omega) (raF_ne (by omega) (by omega) _ _)
theorem bkB_D {f : Nat → Nat → Int32} {b t : Nat} (h : LedD f b) : LedD (bkB f b t) b := by
  have h1 := bkA_D (t := t) h
  obtain ⟨s, a, e⟩ := raF_s (t := nI t) (csz (bkA f b t) (b + 12)) (bkA f b t) h1.2.2.1 (by have := h1.2.2.2.1; omega) (Nat.le_refl _)
  exact LedD_de h1 (raF_ne (by omega) (by omega) _ _) (raF_ne (by omega) (by omega) _ _) e (by have := h1.2.2.2.1; omega) (raF_ne (by omega) (by omega) _ _)
theorem bkB_0 {f : Nat → Nat → Int32} {b t y : Nat} : bkB f b t b y = f b y := by
  unfold bkB bkA
  rw [raF_ne (by omega) (by omega), raF_ne (by omega) (by omega), bkP_o (by omega) (by omega) (by omega) (by omega) (by omega)]
theorem LedD_b {f g : Nat → Nat → Int32} {b s : Nat} (h : LedD f b) (h1 : g b 12 = nI s) (hs : s ≤ 6) (h2 : g b 13 = f b 13) (h3 : g (b + 10) 2 = f (b + 10) 2) (h4 : g (b + 12) 2 = f (b + 12) 2) : LedD g b := by
  have e2 : csz g (b + 12) = csz f (b + 12) := by unfold csz; rw [h4]
  have e1 : csz g (b + 10) = csz f (b + 10) := by unfold csz; rw [h3]
  have e3 := lnT_congr (b := b) h2
  have e4 : lnB g b = s := by unfold lnB; rw [h1, nI_clamp (by omega)]
  exact ⟨by rw [e1, h3]; exact h.1, by rw [e1]; exact h.2.1, by rw [e2, h4]; exact h.2.2.1, by rw [e2]; exact h.2.2.2.1, by rw [e3, h2]; exact h.2.2.2.2.1, by rw [e3]; exact h.2.2.2.2.2.1, by rw [e4]; exact h1, by rw [e4]; exact hs⟩
theorem bkF_D {f : Nat → Nat → Int32} {b t : Nat} (h : LedD f b) : LedD (bkF f b t) b := by
  unfold bkF
  split
  · next hb =>
    unfold bkC
    refine LedD_b (bkB_D (t := t) h) (s := lnB f b + 1) u2_eq (by omega) ?_ ?_ ?_
    · rw [u2_o (by omega), u2_o (by omega), u2_o (by omega), u2_o (by omega), u2_o (by omega)]
    · rw [u2_o (by omega), u2_o (by omega), u2_o (by omega), u2_o (by omega), u2_o (by omega)]
    · rw [u2_o (by omega), u2_o (by omega), u2_o (by omega), u2_o (by omega), u2_o (by omega)]
  · exact h
theorem bkF_t {f : Nat → Nat → Int32} {b t : Nat} : bkF f b t b 13 = f b 13 := by
  unfold bkF
  split
  · unfold bkC
    rw [u2_o (by omega), u2_o (by omega), u2_o (by omega), u2_o (by omega), u2_o (by omega), bkB_0]
  · rfl
def e_L_bankrupt : Ent := (fun av M => ∃ (b : Nat) (t : Nat), av = [.ref b, .int (nI t)] ∧ t < 2 ^ 31 ∧ (LedOk M b ∧ t < lnT (mI M) b), fun av M r_ M_ => ∀ (b : Nat) (t : Nat), t < 2 ^ 31 → av = [.ref b, .int (nI t)] → r_ = (none) ∧ M_ = (mW M (bkF (mI M) b t)))
theorem pc_L_bankrupt {b : Nat} {t : Nat} {M : Mem} {K : Option Value → Mem → Prop} (hp : LedOk M b ∧ t < lnT (mI M) b) (h_t : t < 2 ^ 31) : pcall e_L_bankrupt [.ref b, .int (nI t)] M K = K (none) (mW M (bkF (mI M) b t)) := propext ⟨fun h => h.2 _ _ (fun b' t' h_t' e => by simp only [List.cons.injEq, Value.ref.injEq, Value.int.injEq, Value.long.injEq, and_true] at e; obtain ⟨q0, q1⟩ := e; obtain rfl := q0; obtain rfl := (nI_eq h_t h_t').mp q1; exact ⟨rfl, rfl⟩), fun h => ⟨⟨b, t, rfl, h_t, hp⟩, fun r_ M_ q => by obtain ⟨rfl, rfl⟩ := q _ _ h_t rfl; exact h⟩⟩
theorem mk_L_bankrupt {Z : Zt} {d : Nat} (h : ∀ (b : Nat) (t : Nat) (M : Mem), t < 2 ^ 31 → (LedOk M b ∧ t < lnT (mI M) b) → Gm Z d s_L_bankrupt [.ref b, .int (nI t)] M (ex (none) (mW M (bkF (mI M) b t)))) : okE Z d i_L_bankrupt e_L_bankrupt := by
  rintro av M ⟨b, t, rfl, h_t, hp⟩
  exact Gm.cons (h b t M h_t hp) (fun r_ M_ q b' t' h_t' e => by simp only [List.cons.injEq, Value.ref.injEq, Value.int.injEq, Value.long.injEq, and_true] at e; obtain ⟨q0, q1⟩ := e; obtain rfl := q0; obtain rfl := (nI_eq h_t h_t').mp q1; exact q)
theorem bk1_eq {f : Nat → Nat → Int32} {b t r : Nat} : gbF (u2 (u2 f (b + 3) r (f (b + 3) r - f (b + 9) (t * 4 + r))) (b + 9) (t * 4 + r) 0) b t r (f (b + 8) (t * 4 + r)) = bk1 f b t r := rfl
set_option maxRecDepth 100000 in
set_option maxHeartbeats 4000000 in
theorem lp_L_bankrupt (Z : Zt) (d : Nat) {b t : Nat} {M : Mem} (hp : LedOk M b) (ht : t < lnT (mI M) b) (hb : lnB (mI M) b < 6) : ∀ n i w3, i + n = 4 → X Z (d + 4) s_L_bankrupt (mN M) (mN M) (ex none (mW M (bkC (mI M) b t))) 20 [some (.ref b), some (.int (nI t)), some (.int (nI i)), w3] [] (mW M (bkP (mI M) b t i)) := by
  have hL := hp.1
  have hD := hp.2
  have h6 := ld_t6 hD
  intro n
  induction n with
  | zero =>
    intro i w3 hi
    obtain rfl : i = 4 := by omega
    have hcg : ClOk (mW M (bkP (mI M) b t 4)) (b + 10) := ld_cg (M := mW M (bkP (mI M) b t 4)) hL (bkP_D hD)
    have hcd : ClOk (mW M (bkA (mI M) b t)) (b + 12) := ld_cd (M := mW M (bkA (mI M) b t)) hL (bkA_D hD)
    have e14 : bkB (mI M) b t b 14 = mI M b 14 := bkB_0
    have e17 : bkB (mI M) b t b 17 = mI M b 17 := bkB_0
    have e12 : bkB (mI M) b t b 12 = nI (lnB (mI M) b) := bkB_0.trans (ld_b hD)
    have n1 : ∀ g : Nat → Nat → Int32, ∀ v w : Int32, u2 (u2 g (b + 5) t v) (b + 6) t w b 17 = g b 17 := fun g v w => by rw [u2_o (by omega), u2_o (by omega)]
    have n2 : ∀ g : Nat → Nat → Int32, ∀ v : Int32, u2 g (b + 5) t v b 14 = g b 14 := fun g v => by rw [u2_o (by omega)]
    have n3 : ∀ g : Nat → Nat → Int32, ∀ v w x : Int32, u2 (u2 (u2 g (b + 5) t v) (b + 6) t w) b 17 x b 12 = g b 12 := fun g v w x => by rw [u2_o (by omega), u2_o (by omega), u2_o (by omega)]
    have n4 : ∀ g : Nat → Nat → Int32, ∀ v w x y : Int32, ∀ k : Nat, u2 (u2 (u2 (u2 g (b + 5) t v) (b + 6) t w) b 17 x) (b + 14) k y b 12 = g b 12 := fun g v w x y k => by rw [u2_o (by omega), u2_o (by omega), u2_o (by omega), u2_o (by omega)]
    refine X_run (C := [(i_C_removeAllOf, e_C_removeAllOf)]) (S := [20]) 100 k_L_bankrupt (okE_cons (ok_C_removeAllOf Z d) okE_nil) ?_
    simp (disch := first | trivial | assumption | omega) only [run, go, jmp, seek, inS, e0, e1, e2, e3, e4, e5, tsw, e7, e8, e9, e10, e11, e12, splitA, rcv, clook, lget, lset, lset2, lkill, Option.toList, List.nil_append, List.cons_append, wsum, List.map_cons, List.map_nil, List.sum_cons, List.sum_nil, Value.category, Nat.reduceAdd, List.getD_cons_zero, List.getD_cons_succ, ↓reduceIte, if_true, if_false, Bool.false_eq_true, Nat.reduceLeDiff, Nat.reduceEqDiff, true_or, or_true, true_and, and_true, and_self, or_self, not_true, not_false_iff, mR_stI, mN_stI, isO_stI, isA_stI, mI_stI, mR_mW, mN_mW, isO_mW, isA_mW, mI_mW, mW_mW, stI_mW, nI_addL, nI_mulL, nI_subL, nI_ltL, nI_leL, nI_Llt, nI_Lle, nI_eqL, nI_Leq, nI_add, pk_mul, nI_ltI, nI_leI, nI_eq, vpi, nI_clamp, nI_toN, p_L_bankrupt, ld_o hL, ld_og hL, ld_od hL, ld_r0 hL, ld_r1 hL, ld_r2 hL, ld_r3 hL, ld_r4 hL, ld_r5 hL, ld_r6 hL, ld_r7 hL, ld_r8 hL, ld_r9 hL, ld_r10 hL, ld_r11 hL, ld_a1 hL, ld_a2 hL, ld_a3 hL, ld_a4 hL, ld_a5 hL, ld_a6 hL, ld_a7 hL, ld_a8 hL, ld_a9 hL, ld_a11 hL, ld_a13 hL, ld_a14 hL, pc_C_removeAllOf hcg, i_C_removeAllOf, ← bkA.eq_1, pc_C_removeAllOf hcd, ← bkB.eq_1, n1, n2, n3, n4, e14, e17, e12]
    exact ⟨rfl, rfl⟩
  | succ n ih =>
    intro i w3 hi
    have hD' : LedD (bkP (mI M) b t i) b := bkP_D hD
    have hg : LedOk (mW M (u2 (u2 (bkP (mI M) b t i) (b + 3) i (bkP (mI M) b t i (b + 3) i - bkP (mI M) b t i (b + 9) (t * 4 + i))) (b + 9) (t * 4 + i) 0)) b ∧ t < lnT (mI (mW M (u2 (u2 (bkP (mI M) b t i) (b + 3) i (bkP (mI M) b t i (b + 3) i - bkP (mI M) b t i (b + 9) (t * 4 + i))) (b + 9) (t * 4 + i) 0))) b ∧ i < 4 := by
      refine ⟨⟨hL, LedD_congr hD' ?_ ?_ ?_ ?_⟩, ?_, by omega⟩
      · rw [mI_mW, u2_o (by omega), u2_o (by omega)]
      · rw [mI_mW, u2_o (by omega), u2_o (by omega)]
      · rw [mI_mW, u2_o (by omega), u2_o (by omega)]
      · rw [mI_mW, u2_o (by omega), u2_o (by omega)]
      · rw [mI_mW, lnT_congr (f := mI M) (by rw [u2_o (by omega), u2_o (by omega), bkP_o (by omega) (by omega) (by omega) (by omega) (by omega)])]
        exact ht
    have n1 : ∀ g : Nat → Nat → Int32, ∀ v w : Int32, u2 (u2 g (b + 3) i v) (b + 9) (t * 4 + i) w (b + 8) (t * 4 + i) = g (b + 8) (t * 4 + i) := fun g v w => by rw [u2_o (by omega), u2_o (by omega)]
    refine X_run (C := [(i_B_slot, e_B_slot), (i_L_giveBack, e_L_giveBack)]) (S := [20]) 100 k_L_bankrupt (okE_cons (ok_B_slot Z (d + 2)) (okE_cons (ok_L_giveBack Z d) okE_nil)) ?_
    simp (disch := first | trivial | assumption | omega) only [run, go, jmp, seek, inS, e0, e1, e2, e3, e4, e5, tsw, e7, e8, e9, e10, e11, e12, splitA, rcv, clook, lget, lset, lset2, lkill, Option.toList, List.nil_append, List.cons_append, wsum, List.map_cons, List.map_nil, List.sum_cons, List.sum_nil, Value.category, Nat.reduceAdd, List.getD_cons_zero, List.getD_cons_succ, ↓reduceIte, if_true, if_false, Bool.false_eq_true, Nat.reduceLeDiff, Nat.reduceEqDiff, true_or, or_true, true_and, and_true, and_self, or_self, not_true, not_false_iff, mR_stI, mN_stI, isO_stI, isA_stI, mI_stI, mR_mW, mN_mW, isO_mW, isA_mW, mI_mW, mW_mW, stI_mW, nI_addL, nI_mulL, nI_subL, nI_ltL, nI_leL, nI_Llt, nI_Lle, nI_eqL, nI_Leq, nI_add, pk_mul, nI_ltI, nI_leI, nI_eq, vpi, nI_clamp, nI_toN, p_L_bankrupt, ld_o hL, ld_og hL, ld_od hL, ld_r0 hL, ld_r1 hL, ld_r2 hL, ld_r3 hL, ld_r4 hL, ld_r5 hL, ld_r6 hL, ld_r7 hL, ld_r8 hL, ld_r9 hL, ld_r10 hL, ld_r11 hL, ld_a1 hL, ld_a2 hL, ld_a3 hL, ld_a4 hL, ld_a5 hL, ld_a6 hL, ld_a7 hL, ld_a8 hL, ld_a9 hL, ld_a11 hL, ld_a13 hL, ld_a14 hL, pc_B_slot, i_B_slot, pc_L_giveBack hg, i_L_giveBack, n1]
    rw [if_neg (by omega)]
    exact ih (i + 1) _ (by omega)
set_option maxRecDepth 100000 in
set_option maxHeartbeats 4000000 in
theorem ok_L_bankrupt (Z : Zt) (d : Nat) : okE Z (d + 4) i_L_bankrupt e_L_bankrupt := mk_L_bankrupt fun b t M ht0 hp => by
  obtain ⟨hp, ht⟩ := hp
  have hL := hp.1
  have hD := hp.2
  have h6 := ld_t6 hD
  have h6b := ld_b6 hD
  by_cases hb : lnB (mI M) b < 6
  · have e : bkF (mI M) b t = bkC (mI M) b t := by unfold bkF; rw [if_pos hb]
    rw [e]
    refine Gm_run (C := [(i_L_hasTenant, e_L_hasTenant)]) (S := [20]) [some (.ref b), some (.int (nI t)), none, none] 100 k_L_bankrupt (okE_cons (ok_L_hasTenant Z (d + 2)) okE_nil) (ex_n rfl) ?_
    simp (disch := first | trivial | assumption | omega) only [run, go, jmp, seek, inS, e0, e1, e2, e3, e4, e5, tsw, e7, e8, e9, e10, e11, e12, splitA, rcv, clook, lget, lset, lset2, lkill, Option.toList, List.nil_append, List.cons_append, wsum, List.map_cons, List.map_nil, List.sum_cons, List.sum_nil, Value.category, Nat.reduceAdd, List.getD_cons_zero, List.getD_cons_succ, ↓reduceIte, if_true, if_false, Bool.false_eq_true, Nat.reduceLeDiff, Nat.reduceEqDiff, true_or, or_true, true_and, and_true, and_self, or_self, not_true, not_false_iff, mR_stI, mN_stI, isO_stI, isA_stI, mI_stI, mR_mW, mN_mW, isO_mW, isA_mW, mI_mW, mW_mW, stI_mW, nI_addL, nI_mulL, nI_subL, nI_ltL, nI_leL, nI_Llt, nI_Lle, nI_eqL, nI_Leq, nI_add, pk_mul, nI_ltI, nI_leI, nI_eq, vpi, nI_clamp, nI_toN, p_L_bankrupt, ld_o hL, ld_og hL, ld_od hL, ld_r0 hL, ld_r1 hL, ld_r2 hL, ld_r3 hL, ld_r4 hL, ld_r5 hL, ld_r6 hL, ld_r7 hL, ld_r8 hL, ld_r9 hL, ld_r10 hL, ld_r11 hL, ld_a1 hL, ld_a2 hL, ld_a3 hL, ld_a4 hL, ld_a5 hL, ld_a6 hL, ld_a7 hL, ld_a8 hL, ld_a9 hL, ld_a11 hL, ld_a13 hL, ld_a14 hL, ld_t hD, ld_b hD, pc_L_hasTenant hp, i_L_hasTenant, bv_0]
    rw [if_neg (by omega), if_pos hb]
    exact lp_L_bankrupt Z d hp ht hb 4 0 _ rfl
  · have e : bkF (mI M) b t = mI M := by unfold bkF; rw [if_neg hb]
    rw [e]
    refine Gm_run (C := [(i_L_hasTenant, e_L_hasTenant)]) (S := [20]) [some (.ref b), some (.int (nI t)), none, none] 100 k_L_bankrupt (okE_cons (ok_L_hasTenant Z (d + 2)) okE_nil) (ex_n rfl) ?_
    simp (disch := first | trivial | assumption | omega) only [run, go, jmp, seek, inS, e0, e1, e2, e3, e4, e5, tsw, e7, e8, e9, e10, e11, e12, splitA, rcv, clook, lget, lset, lset2, lkill, Option.toList, List.nil_append, List.cons_append, wsum, List.map_cons, List.map_nil, List.sum_cons, List.sum_nil, Value.category, Nat.reduceAdd, List.getD_cons_zero, List.getD_cons_succ, ↓reduceIte, if_true, if_false, Bool.false_eq_true, Nat.reduceLeDiff, Nat.reduceEqDiff, true_or, or_true, true_and, and_true, and_self, or_self, not_true, not_false_iff, mR_stI, mN_stI, isO_stI, isA_stI, mI_stI, mR_mW, mN_mW, isO_mW, isA_mW, mI_mW, mW_mW, stI_mW, nI_addL, nI_mulL, nI_subL, nI_ltL, nI_leL, nI_Llt, nI_Lle, nI_eqL, nI_Leq, nI_add, pk_mul, nI_ltI, nI_leI, nI_eq, vpi, nI_clamp, nI_toN, p_L_bankrupt, ld_o hL, ld_og hL, ld_od hL, ld_r0 hL, ld_r1 hL, ld_r2 hL, ld_r3 hL, ld_r4 hL, ld_r5 hL, ld_r6 hL, ld_r7 hL, ld_r8 hL, ld_r9 hL, ld_r10 hL, ld_r11 hL, ld_a1 hL, ld_a2 hL, ld_a3 hL, ld_a4 hL, ld_a5 hL, ld_a6 hL, ld_a7 hL, ld_a8 hL, ld_a9 hL, ld_a11 hL, ld_a13 hL, ld_a14 hL, ld_t hD, ld_b hD, pc_L_hasTenant hp, i_L_hasTenant, bv_0]
    rw [if_neg (by omega), if_neg hb]
    exact ⟨rfl, rfl⟩
end
section
/-- the first of the queue may be solvent again -/
abbrev rdC (f : Nat → Nat → Int32) (b : Nat) : Prop := 0 < lnB f b ∧ (0 ≤ f (b + 14) 0 ∧ f (b + 14) 0 < nI (lnT f b)) ∧ f b 15 ≤ f b 14 - f (b + 6) (f (b + 14) 0).toNatClampNeg
def rdP (f : Nat → Nat → Int32) (b i : Nat) : Nat → Nat → Int32 := fun x y => if x = b ∧ y = 12 then nI (lnB f b - 1) else if x = b + 14 ∧ y < i then f x (y + 1) else f x y
def rdF (f : Nat → Nat → Int32) (b : Nat) : Nat → Nat → Int32 := if rdC f b then rdP f b (lnB f b - 1) else f
theorem rdP_0 (f : Nat → Nat → Int32) (b : Nat) : u2 f b 12 (nI (lnB f b - 1)) = rdP f b 0 := by
  funext x y
  simp only [rdP, u2_at]
  by_cases h : x = b ∧ y = 12
  · rw [if_pos h, if_pos h]
  · rw [if_neg h, if_neg h, if_neg (by omega)]
theorem rdP_1 {f : Nat → Nat → Int32} {b i : Nat} : u2 (rdP f b i) (b + 14) i (rdP f b i (b + 14) (i + 1)) = rdP f b (i + 1) := by
  have a1 : rdP f b i (b + 14) (i + 1) = f (b + 14) (i + 1) := by
    unfold rdP
    rw [if_neg (by omega), if_neg (by omega)]
  rw [a1]
  funext x y
  simp only [rdP, u2_at]
  by_cases h : x = b + 14 ∧ y = i
  · rw [if_pos h, if_neg (by omega), if_pos (by omega), h.1, h.2]
  · rw [if_neg h]
    by_cases h2 : x = b ∧ y = 12
    · rw [if_pos h2, if_pos h2]
    · rw [if_neg h2, if_neg h2]
      by_cases h3 : x = b + 14 ∧ y < i
      · rw [if_pos h3, if_pos (by omega)]
      · rw [if_neg h3, if_neg (by omega)]
theorem rdP_b (f : Nat → Nat → Int32) (b i : Nat) : rdP f b i b 12 = nI (lnB f b - 1) := by
  unfold rdP
  rw [if_pos ⟨rfl, rfl⟩]
theorem rdF_o {f : Nat → Nat → Int32} {b x y : Nat} (h1 : ¬ (x = b ∧ y = 12)) (h2 : x ≠ b + 14) : rdF f b x y = f x y := by
  unfold rdF
  split
  · unfold rdP
    rw [if_neg h1, if_neg (fun q => h2 q.1)]
  · rfl
theorem rdF_D {f : Nat → Nat → Int32} {b : Nat} (h : LedD f b) : LedD (rdF f b) b := by
  have h6 := ld_b6 (M := (0, f, fun _ _ => 0, fun _ => 0)) h
  change lnB f b ≤ 6 at h6
  by_cases hc : rdC f b
  · have e : rdF f b = rdP f b (lnB f b - 1) := by unfold rdF; rw [if_pos hc]
    refine LedD_b h (s := lnB f b - 1) (by rw [e]; exact rdP_b _ _ _) (by omega) (rdF_o (by omega) (by omega)) (rdF_o (by omega) (by omega)) (rdF_o (by omega) (by omega))
  · have e : rdF f b = f := by unfold rdF; rw [if_neg hc]
    rw [e]
    exact h
def e_L_redeemFirst : Ent := (fun av M => ∃ (b : Nat), av = [.ref b] ∧ (LedOk M b), fun av M r_ M_ => ∀ (b : Nat), av = [.ref b] → r_ = (none) ∧ M_ = (mW M (rdF (mI M) b)))
theorem pc_L_redeemFirst {b : Nat} {M : Mem} {K : Option Value → Mem → Prop} (hp : LedOk M b) : pcall e_L_redeemFirst [.ref b] M K = K (none) (mW M (rdF (mI M) b)) := propext ⟨fun h => h.2 _ _ (fun b' e => by simp only [List.cons.injEq, Value.ref.injEq, Value.int.injEq, Value.long.injEq, and_true] at e; have q0 := e; obtain rfl := q0; exact ⟨rfl, rfl⟩), fun h => ⟨⟨b, rfl, hp⟩, fun r_ M_ q => by obtain ⟨rfl, rfl⟩ := q _ rfl; exact h⟩⟩
theorem mk_L_redeemFirst {Z : Zt} {d : Nat} (h : ∀ (b : Nat) (M : Mem), (LedOk M b) → Gm Z d s_L_redeemFirst [.ref b] M (ex (none) (mW M (rdF (mI M) b)))) : okE Z d i_L_redeemFirst e_L_redeemFirst := by
  rintro av M ⟨b, rfl, hp⟩
  exact Gm.cons (h b M  hp) (fun r_ M_ q b' e => by simp only [List.cons.injEq, Value.ref.injEq, Value.int.injEq, Value.long.injEq, and_true] at e; have q0 := e; obtain rfl := q0; exact q)
set_option maxRecDepth 100000 in
set_option maxHeartbeats 4000000 in
theorem lp_L_redeemFirst (Z : Zt) (d : Nat) {b : Nat} {M : Mem} (hL : LedS M b) (h6 : lnB (mI M) b ≤ 6) : ∀ n i, i + n = lnB (mI M) b - 1 → X Z (d + 1) s_L_redeemFirst (mN M) (mN M) (ex none (mW M (rdP (mI M) b (lnB (mI M) b - 1)))) 57 [some (.ref b), some (.int (nI i))] [] (mW M (rdP (mI M) b i)) := by
  intro n
  induction n with
  | zero =>
    intro i hi
    obtain rfl : i = lnB (mI M) b - 1 := by omega
    refine X_run (C := []) (S := [57]) 100 k_L_redeemFirst okE_nil ?_
    simp (disch := first | trivial | assumption | omega) only [run, go, jmp, seek, inS, e0, e1, e2, e3, e4, e5, tsw, e7, e8, e9, e10, e11, e12, splitA, rcv, clook, lget, lset, lset2, lkill, Option.toList, List.nil_append, List.cons_append, wsum, List.map_cons, List.map_nil, List.sum_cons, List.sum_nil, Value.category, Nat.reduceAdd, List.getD_cons_zero, List.getD_cons_succ, ↓reduceIte, if_true, if_false, Bool.false_eq_true, Nat.reduceLeDiff, Nat.reduceEqDiff, true_or, or_true, true_and, and_true, and_self, or_self, not_true, not_false_iff, mR_stI, mN_stI, isO_stI, isA_stI, mI_stI, mR_mW, mN_mW, isO_mW, isA_mW, mI_mW, mW_mW, stI_mW, nI_addL, nI_mulL, nI_subL, nI_ltL, nI_leL, nI_Llt, nI_Lle, nI_eqL, nI_Leq, nI_add, pk_mul, nI_ltI, nI_leI, nI_eq, vpi, nI_clamp, nI_toN, p_L_redeemFirst, ld_o hL, ld_og hL, ld_od hL, ld_r0 hL, ld_r1 hL, ld_r2 hL, ld_r3 hL, ld_r4 hL, ld_r5 hL, ld_r6 hL, ld_r7 hL, ld_r8 hL, ld_r9 hL, ld_r10 hL, ld_r11 hL, ld_a1 hL, ld_a2 hL, ld_a3 hL, ld_a4 hL, ld_a5 hL, ld_a6 hL, ld_a7 hL, ld_a8 hL, ld_a9 hL, ld_a11 hL, ld_a13 hL, ld_a14 hL, rdP_b]
    rw [if_pos (by omega)]
    exact ⟨rfl, rfl⟩
  | succ n ih =>
    intro i hi
    refine X_run (C := []) (S := [57]) 100 k_L_redeemFirst okE_nil ?_
    simp (disch := first | trivial | assumption | omega) only [run, go, jmp, seek, inS, e0, e1, e2, e3, e4, e5, tsw, e7, e8, e9, e10, e11, e12, splitA, rcv, clook, lget, lset, lset2, lkill, Option.toList, List.nil_append, List.cons_append, wsum, List.map_cons, List.map_nil, List.sum_cons, List.sum_nil, Value.category, Nat.reduceAdd, List.getD_cons_zero, List.getD_cons_succ, ↓reduceIte, if_true, if_false, Bool.false_eq_true, Nat.reduceLeDiff, Nat.reduceEqDiff, true_or, or_true, true_and, and_true, and_self, or_self, not_true, not_false_iff, mR_stI, mN_stI, isO_stI, isA_stI, mI_stI, mR_mW, mN_mW, isO_mW, isA_mW, mI_mW, mW_mW, stI_mW, nI_addL, nI_mulL, nI_subL, nI_ltL, nI_leL, nI_Llt, nI_Lle, nI_eqL, nI_Leq, nI_add, pk_mul, nI_ltI, nI_leI, nI_eq, vpi, nI_clamp, nI_toN, p_L_redeemFirst, ld_o hL, ld_og hL, ld_od hL, ld_r0 hL, ld_r1 hL, ld_r2 hL, ld_r3 hL, ld_r4 hL, ld_r5 hL, ld_r6 hL, ld_r7 hL, ld_r8 hL, ld_r9 hL, ld_r10 hL, ld_r11 hL, ld_a1 hL, ld_a2 hL, ld_a3 hL, ld_a4 hL, ld_a5 hL, ld_a6 hL, ld_a7 hL, ld_a8 hL, ld_a9 hL, ld_a11 hL, ld_a13 hL, ld_a14 hL, rdP_b, rdP_1]
    rw [if_neg (by omega), if_neg (by omega)]
    exact ih (i + 1) (by omega)
set_option maxRecDepth 100000 in
set_option maxHeartbeats 4000000 in
theorem ok_L_redeemFirst (Z : Zt) (d : Nat) : okE Z (d + 2) i_L_redeemFirst e_L_redeemFirst := mk_L_redeemFirst fun b M hp => by
  have hL := hp.1
  have hD := hp.2
  have h6 := ld_b6 hD
  have h6t := ld_t6 hD
  have a0 : isA M (b + 14) 0 = True := ld_a14 (k := 0) hL (by omega)
  have c0 : (0 : Int32).toNatClampNeg = 0 := by decide
  refine Gm_run (C := [(i_L_hasTenant, e_L_hasTenant)]) (S := [57]) [some (.ref b), none] 100 k_L_redeemFirst (okE_cons (ok_L_hasTenant Z d) okE_nil) (ex_n rfl) ?_
  by_cases hv : 0 ≤ mI M (b + 14) 0 ∧ mI M (b + 14) 0 < nI (lnT (mI M) b)
  · obtain ⟨t, ht0, ht⟩ := nI_of (Int32.not_lt.mpr hv.1)
    have ht6 : t < lnT (mI M) b := by
      have := hv.2
      rw [ht] at this
      exact (nI_ltI ht0 (by omega)).mp this
    have hcl : (nI t).toNatClampNeg = t := nI_clamp ht0
    simp (disch := first | trivial | assumption | omega) only [run, go, jmp, seek, inS, e0, e1, e2, e3, e4, e5, tsw, e7, e8, e9, e10, e11, e12, splitA, rcv, clook, lget, lset, lset2, lkill, Option.toList, List.nil_append, List.cons_append, wsum, List.map_cons, List.map_nil, List.sum_cons, List.sum_nil, Value.category, Nat.reduceAdd, List.getD_cons_zero, List.getD_cons_succ, ↓reduceIte, if_true, if_false, Bool.false_eq_true, Nat.reduceLeDiff, Nat.reduceEqDiff, true_or, or_true, true_and, and_true, and_self, or_self, not_true, not_false_iff, mR_stI, mN_stI, isO_stI, isA_stI, mI_stI, mR_mW, mN_mW, isO_mW, isA_mW, mI_mW, mW_mW, stI_mW, nI_addL, nI_mulL, nI_subL, nI_ltL, nI_leL, nI_Llt, nI_Lle, nI_eqL, nI_Leq, nI_add, pk_mul, nI_ltI, nI_leI, nI_eq, vpi, nI_clamp, nI_toN, p_L_redeemFirst, ld_o hL, ld_og hL, ld_od hL, ld_r0 hL, ld_r1 hL, ld_r2 hL, ld_r3 hL, ld_r4 hL, ld_r5 hL, ld_r6 hL, ld_r7 hL, ld_r8 hL, ld_r9 hL, ld_r10 hL, ld_r11 hL, ld_a1 hL, ld_a2 hL, ld_a3 hL, ld_a4 hL, ld_a5 hL, ld_a6 hL, ld_a7 hL, ld_a8 hL, ld_a9 hL, ld_a11 hL, ld_a13 hL, ld_a14 hL, ld_t hD, ld_b hD, a0, c0, ht, pc_L_hasTenant hp, i_L_hasTenant, bv_0]
    split
    · next h =>
      have e : rdF (mI M) b = mI M := by
        unfold rdF
        rw [if_neg (fun q => by have := q.1; omega)]
      rw [e]
      exact ⟨rfl, rfl⟩
    · next h =>
      rw [if_neg (by omega)]
      split
      · next h2 =>
        have e : rdF (mI M) b = rdP (mI M) b (lnB (mI M) b - 1) := by
          unfold rdF
          rw [if_pos ⟨by omega, hv, by rw [ht, hcl]; exact h2⟩]
        rw [e, rdP_0]
        exact lp_L_redeemFirst Z (d + 1) hL h6 _ 0 (Nat.zero_add _)
      · next h2 =>
        have e : rdF (mI M) b = mI M := by
          unfold rdF
          rw [if_neg (fun q => h2 (by have := q.2.2; rw [ht, hcl] at this; exact this))]
        rw [e]
        exact ⟨rfl, rfl⟩
  · have e : rdF (mI M) b = mI M := by
      unfold rdF
      rw [if_neg (fun q => hv q.2.1)]
    rw [e]
    simp only [run, go, jmp, seek, inS, e0, e1, e2, e3, e4, e5, tsw, e7, e8, e9, e10, e11, e12, splitA, rcv, clook, lget, lset, lset2, lkill, Option.toList, List.nil_append, List.cons_append, wsum, List.map_cons, List.map_nil, List.sum_cons, List.sum_nil, Value.category, Nat.reduceAdd, List.getD_cons_zero, List.getD_cons_succ, ↓reduceIte, if_true, if_false, Bool.false_eq_true, Nat.reduceLeDiff, Nat.reduceEqDiff, true_or, or_true, true_and, and_true, and_self, or_self, not_true, not_false_iff, mR_stI, mN_stI, isO_stI, isA_stI, mI_stI, mR_mW, mN_mW, isO_mW, isA_mW, mI_mW, mW_mW, stI_mW, p_L_redeemFirst, ld_o hL, ld_og hL, ld_od hL, ld_r0 hL, ld_r1 hL, ld_r2 hL, ld_r3 hL, ld_r4 hL, ld_r5 hL, ld_r6 hL, ld_r7 hL, ld_r8 hL, ld_r9 hL, ld_r10 hL, ld_r11 hL, ld_a1 hL, ld_a2 hL, ld_a3 hL, ld_a4 hL, ld_a5 hL, ld_a6 hL, ld_a7 hL, ld_a8 hL, ld_a9 hL, ld_a11 hL, ld_a13 hL, ld_a14 hL, a0, c0, pc_L_hasTenant hp, i_L_hasTenant, bv_0, hv]
    split
    · exact ⟨rfl, rfl⟩
    · exact ⟨rfl, rfl⟩
/-! a tick -/
def tkA (f : Nat → Nat → Int32) (b t : Nat) : Nat → Nat → Int32 := u2 f (b + 5) t (f (b + 5) t + (5 * f (b + 4) t - rnP f b t 4))
def tkB (f : Nat → Nat → Int32) (b t : Nat) : Nat → Nat → Int32 := u2 f (b + 5) t (f (b + 5) t - itF (-f (b + 5) t))
def tk1S (f : Nat → Nat → Int32) (b t : Nat) : Nat → Nat → Int32 := if isS f b (nI t) then tkB (tkA f b t) b t else f
def tk1 (f : Nat → Nat → Int32) (b : Nat) : Nat → Nat → Nat → Int32
  | 0 => f
  | t + 1 => tk1S (tk1 f b t) b t
def tk2S (f : Nat → Nat → Int32) (b t : Nat) : Nat → Nat → Int32 := if isS f b (nI t) ∧ 50 * f (b + 4) t < -f (b + 5) t then bkF f b t else f
def tk2 (f : Nat → Nat → Int32) (b : Nat) : Nat → Nat → Nat → Int32
  | 0 => f
  | t + 1 => tk2S (tk2 f b t) b t
def tk0 (f : Nat → Nat → Int32) (b : Nat) : Nat → Nat → Int32 := u2 f b 14 (f b 14 + 1)
def tkM (f : Nat → Nat → Int32) (b : Nat) : Nat → Nat → Int32 := tk1 (tk0 f b) b (lnT f b)
def tkN (f : Nat → Nat → Int32) (b : Nat) : Nat → Nat → Int32 := tk2 (tkM f b) b (lnT f b)
def tkF (f : Nat → Nat → Int32) (b : Nat) : Nat → Nat → Int32 := rdF (tkN f b) b
theorem tk1_o {f : Nat → Nat → Int32} {b x y : Nat} (h : x ≠ b + 5) : ∀ t, tk1 f b t x y = f x y
  | 0 => rfl
  | t + 1 => by
    unfold tk1 tk1S
    split
    · unfold tkB tkA
      rw [u2_ne h, u2_ne h]
      exact tk1_o h t
    · exact tk1_o h t
theorem tk2_t {f : Nat → Nat → Int32} {b : Nat} : ∀ t, tk2 f b t b 13 = f b 13
  | 0 => rfl
  | t + 1 => by
    unfold tk2 tk2S
    split
    · rw [bkF_t]
      exact tk2_t t
    · exact tk2_t t
theorem tk1_D {f : Nat → Nat → Int32} {b t : Nat} (h : LedD f b) : LedD (tk1 f b t) b := LedD_congr h (tk1_o (by omega) t) (tk1_o (by omega) t) (tk1_o (by omega) t) (tk1_o (by omega) t)
theorem tk0_D {f : Nat → Nat → Int32} {b : Nat} (h : LedD f b) : LedD (tk0 f b) b := LedD_congr h (u2_o (by omega)) (u2_o (by omega)) (u2_o (by omega)) (u2_o (by omega))
theorem tkA_D {f : Nat → Nat → Int32} {b t : Nat} (h : LedD f b) : LedD (tkA f b t) b := LedD_congr h (u2_o (by omega)) (u2_o (by omega)) (u2_o (by omega)) (u2_o (by omega))
theorem tk2_D {f : Nat → Nat → Int32} {b : Nat} (h : LedD f b) : ∀ t, LedD (tk2 f b t) b
  | 0 => h
  | t + 1 => by
    unfold tk2 tk2S
    split
    · exact bkF_D (tk2_D h t)
    · exact tk2_D h t
def e_L_tick : Ent := (fun av M => ∃ (b : Nat), av = [.ref b] ∧ (LedOk M b), fun av M r_ M_ => ∀ (b : Nat), av = [.ref b] → r_ = (none) ∧ M_ = (mW M (tkF (mI M) b)))
theorem pc_L_tick {b : Nat} {M : Mem} {K : Option Value → Mem → Prop} (hp : LedOk M b) : pcall e_L_tick [.ref b] M K = K (none) (mW M (tkF (mI M) b)) := propext ⟨fun h => h.2 _ _ (fun b' e => by simp only [List.cons.injEq, Value.ref.injEq, Value.int.injEq, Value.long.injEq, and_true] at e; have q0 := e; obtain rfl := q0; exact ⟨rfl, rfl⟩), fun h => ⟨⟨b, rfl, hp⟩, fun r_ M_ q => by obtain ⟨rfl, rfl⟩ := q _ rfl; exact h⟩⟩
theorem mk_L_tick {Z : Zt} {d : Nat} (h : ∀ (b : Nat) (M : Mem), (LedOk M b) → Gm Z d s_L_tick [.ref b] M (ex (none) (mW M (tkF (mI M) b)))) : okE Z d i_L_tick e_L_tick := by
  rintro av M ⟨b, rfl, hp⟩
  exact Gm.cons (h b M  hp) (fun r_ M_ q b' e => by simp only [List.cons.injEq, Value.ref.injEq, Value.int.injEq, Value.long.injEq, and_true] at e; have q0 := e; obtain rfl := q0; exact q)
set_option maxRecDepth 100000 in
set_option maxHeartbeats 4000000 in
theorem lp_L_tick1 (Z : Zt) (d : Nat) {b : Nat} {M : Mem} {Q : Option Value → Mem → Prop} {T : Nat} {g : Nat → Nat → Int32} (hL : LedS M b) (hD : LedD g b) (hT : lnT g b = T) (hx : X Z (d + 5) s_L_tick (mN M) (mN M) Q 78 [some (.ref b), some (.int 0)] [] (mW M (tk1 g b T))) : ∀ n i, i + n = T → X Z (d + 5) s_L_tick (mN M) (mN M) Q 12 [some (.ref b), some (.int (nI i))] [] (mW M (tk1 g b i)) := by
  have h6 : T ≤ 6 := by rw [← hT]; exact hD.2.2.2.2.2.1
  intro n
  induction n with
  | zero =>
    intro i hi
    obtain rfl : i = T := by omega
    have e13 : tk1 g b i b 13 = nI i := by rw [tk1_o (by omega), hD.2.2.2.2.1, hT]
    refine X_run (C := []) (S := [12, 78]) 100 k_L_tick okE_nil ?_
    simp (disch := first | trivial | assumption | omega) only [run, go, jmp, seek, inS, e0, e1, e2, e3, e4, e5, tsw, e7, e8, e9, e10, e11, e12, splitA, rcv, clook, lget, lset, lset2, lkill, Option.toList, List.nil_append, List.cons_append, wsum, List.map_cons, List.map_nil, List.sum_cons, List.sum_nil, Value.category, Nat.reduceAdd, List.getD_cons_zero, List.getD_cons_succ, ↓reduceIte, if_true, if_false, Bool.false_eq_true, Nat.reduceLeDiff, Nat.reduceEqDiff, true_or, or_true, true_and, and_true, and_self, or_self, not_true, not_false_iff, mR_stI, mN_stI, isO_stI, isA_stI, mI_stI, mR_mW, mN_mW, isO_mW, isA_mW, mI_mW, mW_mW, stI_mW, nI_addL, nI_mulL, nI_subL, nI_ltL, nI_leL, nI_Llt, nI_Lle, nI_eqL, nI_Leq, nI_add, pk_mul, nI_ltI, nI_leI, nI_eq, vpi, nI_clamp, nI_toN, p_L_tick, ld_o hL, ld_og hL, ld_od hL, ld_r0 hL, ld_r1 hL, ld_r2 hL, ld_r3 hL, ld_r4 hL, ld_r5 hL, ld_r6 hL, ld_r7 hL, ld_r8 hL, ld_r9 hL, ld_r10 hL, ld_r11 hL, ld_a1 hL, ld_a2 hL, ld_a3 hL, ld_a4 hL, ld_a5 hL, ld_a6 hL, ld_a7 hL, ld_a8 hL, ld_a9 hL, ld_a11 hL, ld_a13 hL, ld_a14 hL, e13]
    rw [if_pos (by omega)]
    exact hx
  | succ n ih =>
    intro i hi
    have e13 : tk1 g b i b 13 = nI T := by rw [tk1_o (by omega), hD.2.2.2.2.1, hT]
    have eT : lnT (tk1 g b i) b = T := by rw [lnT_congr (tk1_o (by omega) i), hT]
    have hp : LedOk (mW M (tk1 g b i)) b := ⟨hL, tk1_D hD⟩
    have hr : LedOk (mW M (tk1 g b i)) b ∧ i < lnT (mI (mW M (tk1 g b i))) b := ⟨hp, by show i < lnT (tk1 g b i) b; omega⟩
    have := ih (i + 1) (by omega)
    unfold tk1 tk1S at this
    refine X_run (C := [(i_L_isSolvent, e_L_isSolvent), (i_L_rentOf, e_L_rentOf), (i_L_interestOn, e_L_interestOn)]) (S := [12, 78]) 100 k_L_tick (okE_cons (ok_L_isSolvent Z (d + 1)) (okE_cons (ok_L_rentOf Z (d + 1)) (okE_cons (ok_L_interestOn Z (d + 3)) okE_nil))) ?_
    simp (disch := first | trivial | assumption | omega) only [run, go, jmp, seek, inS, e0, e1, e2, e3, e4, e5, tsw, e7, e8, e9, e10, e11, e12, splitA, rcv, clook, lget, lset, lset2, lkill, Option.toList, List.nil_append, List.cons_append, wsum, List.map_cons, List.map_nil, List.sum_cons, List.sum_nil, Value.category, Nat.reduceAdd, List.getD_cons_zero, List.getD_cons_succ, ↓reduceIte, if_true, if_false, Bool.false_eq_true, Nat.reduceLeDiff, Nat.reduceEqDiff, true_or, or_true, true_and, and_true, and_self, or_self, not_true, not_false_iff, mR_stI, mN_stI, isO_stI, isA_stI, mI_stI, mR_mW, mN_mW, isO_mW, isA_mW, mI_mW, mW_mW, stI_mW, nI_addL, nI_mulL, nI_subL, nI_ltL, nI_leL, nI_Llt, nI_Lle, nI_eqL, nI_Leq, nI_add, pk_mul, nI_ltI, nI_leI, nI_eq, vpi, nI_clamp, nI_toN, p_L_tick, ld_o hL, ld_og hL, ld_od hL, ld_r0 hL, ld_r1 hL, ld_r2 hL, ld_r3 hL, ld_r4 hL, ld_r5 hL, ld_r6 hL, ld_r7 hL, ld_r8 hL, ld_r9 hL, ld_r10 hL, ld_r11 hL, ld_a1 hL, ld_a2 hL, ld_a3 hL, ld_a4 hL, ld_a5 hL, ld_a6 hL, ld_a7 hL, ld_a8 hL, ld_a9 hL, ld_a11 hL, ld_a13 hL, ld_a14 hL, e13, pc_L_isSolvent hp, i_L_isSolvent, pc_L_rentOf hr, i_L_rentOf, pc_L_interestOn, i_L_interestOn, bv_0, ← tkA.eq_1, ← tkB.eq_1]
    rw [if_neg (by omega)]
    split
    · next h =>
      rw [if_neg h] at this
      exact this
    · next h =>
      rw [if_pos (Decidable.not_not.mp h)] at this
      exact this
set_option maxRecDepth 100000 in
set_option maxHeartbeats 4000000 in
theorem lp_L_tick2 (Z : Zt) (d : Nat) {b : Nat} {M : Mem} {Q : Option Value → Mem → Prop} {T : Nat} {g : Nat → Nat → Int32} (hL : LedS M b) (hD : LedD g b) (hT : lnT g b = T) (hx : Q none (mW M (rdF (tk2 g b T) b))) : ∀ n i, i + n = T → X Z (d + 5) s_L_tick (mN M) (mN M) Q 78 [some (.ref b), some (.int (nI i))] [] (mW M (tk2 g b i)) := by
  have h6 : T ≤ 6 := by rw [← hT]; exact hD.2.2.2.2.2.1
  intro n
  induction n with
  | zero =>
    intro i hi
    obtain rfl : i = T := by omega
    have e13 : tk2 g b i b 13 = nI i := by rw [tk2_t, hD.2.2.2.2.1, hT]
    have hp : LedOk (mW M (tk2 g b i)) b := ⟨hL, tk2_D hD i⟩
    refine X_run (C := [(i_L_redeemFirst, e_L_redeemFirst)]) (S := [78]) 100 k_L_tick (okE_cons (ok_L_redeemFirst Z (d + 2)) okE_nil) ?_
    simp (disch := first | trivial | assumption | omega) only [run, go, jmp, seek, inS, e0, e1, e2, e3, e4, e5, tsw, e7, e8, e9, e10, e11, e12, splitA, rcv, clook, lget, lset, lset2, lkill, Option.toList, List.nil_append, List.cons_append, wsum, List.map_cons, List.map_nil, List.sum_cons, List.sum_nil, Value.category, Nat.reduceAdd, List.getD_cons_zero, List.getD_cons_succ, ↓reduceIte, if_true, if_false, Bool.false_eq_true, Nat.reduceLeDiff, Nat.reduceEqDiff, true_or, or_true, true_and, and_true, and_self, or_self, not_true, not_false_iff, mR_stI, mN_stI, isO_stI, isA_stI, mI_stI, mR_mW, mN_mW, isO_mW, isA_mW, mI_mW, mW_mW, stI_mW, nI_addL, nI_mulL, nI_subL, nI_ltL, nI_leL, nI_Llt, nI_Lle, nI_eqL, nI_Leq, nI_add, pk_mul, nI_ltI, nI_leI, nI_eq, vpi, nI_clamp, nI_toN, p_L_tick, ld_o hL, ld_og hL, ld_od hL, ld_r0 hL, ld_r1 hL, ld_r2 hL, ld_r3 hL, ld_r4 hL, ld_r5 hL, ld_r6 hL, ld_r7 hL, ld_r8 hL, ld_r9 hL, ld_r10 hL, ld_r11 hL, ld_a1 hL, ld_a2 hL, ld_a3 hL, ld_a4 hL, ld_a5 hL, ld_a6 hL, ld_a7 hL, ld_a8 hL, ld_a9 hL, ld_a11 hL, ld_a13 hL, ld_a14 hL, e13, pc_L_redeemFirst hp, i_L_redeemFirst]
    rw [if_pos (by omega)]
    exact hx
  | succ n ih =>
    intro i hi
    have e13 : tk2 g b i b 13 = nI T := by rw [tk2_t, hD.2.2.2.2.1, hT]
    have eT : lnT (tk2 g b i) b = T := by rw [lnT_congr (tk2_t i), hT]
    have hp : LedOk (mW M (tk2 g b i)) b := ⟨hL, tk2_D hD i⟩
    have hr : LedOk (mW M (tk2 g b i)) b ∧ i < lnT (mI (mW M (tk2 g b i))) b := ⟨hp, by show i < lnT (tk2 g b i) b; omega⟩
    have := ih (i + 1) (by omega)
    unfold tk2 tk2S at this
    refine X_run (C := [(i_L_isSolvent, e_L_isSolvent), (i_L_bankrupt, e_L_bankrupt)]) (S := [78]) 100 k_L_tick (okE_cons (ok_L_isSolvent Z (d + 1)) (okE_cons (ok_L_bankrupt Z d) okE_nil)) ?_
    simp (disch := first | trivial | assumption | omega) only [run, go, jmp, seek, inS, e0, e1, e2, e3, e4, e5, tsw, e7, e8, e9, e10, e11, e12, splitA, rcv, clook, lget, lset, lset2, lkill, Option.toList, List.nil_append, List.cons_append, wsum, List.map_cons, List.map_nil, List.sum_cons, List.sum_nil, Value.category, Nat.reduceAdd, List.getD_cons_zero, List.getD_cons_succ, ↓reduceIte, if_true, if_false, Bool.false_eq_true, Nat.reduceLeDiff, Nat.reduceEqDiff, true_or, or_true, true_and, and_true, and_self, or_self, not_true, not_false_iff, mR_stI, mN_stI, isO_stI, isA_stI, mI_stI, mR_mW, mN_mW, isO_mW, isA_mW, mI_mW, mW_mW, stI_mW, nI_addL, nI_mulL, nI_subL, nI_ltL, nI_leL, nI_Llt, nI_Lle, nI_eqL, nI_Leq, nI_add, pk_mul, nI_ltI, nI_leI, nI_eq, vpi, nI_clamp, nI_toN, p_L_tick, ld_o hL, ld_og hL, ld_od hL, ld_r0 hL, ld_r1 hL, ld_r2 hL, ld_r3 hL, ld_r4 hL, ld_r5 hL, ld_r6 hL, ld_r7 hL, ld_r8 hL, ld_r9 hL, ld_r10 hL, ld_r11 hL, ld_a1 hL, ld_a2 hL, ld_a3 hL, ld_a4 hL, ld_a5 hL, ld_a6 hL, ld_a7 hL, ld_a8 hL, ld_a9 hL, ld_a11 hL, ld_a13 hL, ld_a14 hL, e13, pc_L_isSolvent hp, i_L_isSolvent, pc_L_bankrupt hr, i_L_bankrupt, bv_0]
    rw [if_neg (by omega)]
    split
    · next h =>
      rw [if_neg (fun q => h q.1)] at this
      exact this
    · next h =>
      split
      · next h2 =>
        rw [if_neg (fun q => absurd q.2 (Int32.not_lt.mpr h2))] at this
        exact this
      · next h2 =>
        rw [if_pos ⟨Decidable.not_not.mp h, Int32.not_le.mp h2⟩] at this
        exact this
set_option maxRecDepth 100000 in
set_option maxHeartbeats 4000000 in
theorem ok_L_tick (Z : Zt) (d : Nat) : okE Z (d + 5) i_L_tick e_L_tick := mk_L_tick fun b M hp => by
  have hL := hp.1
  have hD := hp.2
  refine Gm_run (C := []) (S := [12]) [some (.ref b), none] 100 k_L_tick okE_nil (ex_n rfl) ?_
  simp (disch := first | trivial | assumption | omega) only [run, go, jmp, seek, inS, e0, e1, e2, e3, e4, e5, tsw, e7, e8, e9, e10, e11, e12, splitA, rcv, clook, lget, lset, lset2, lkill, Option.toList, List.nil_append, List.cons_append, wsum, List.map_cons, List.map_nil, List.sum_cons, List.sum_nil, Value.category, Nat.reduceAdd, List.getD_cons_zero, List.getD_cons_succ, ↓reduceIte, if_true, if_false, Bool.false_eq_true, Nat.reduceLeDiff, Nat.reduceEqDiff, true_or, or_true, true_and, and_true, and_self, or_self, not_true, not_false_iff, mR_stI, mN_stI, isO_stI, isA_stI, mI_stI, mR_mW, mN_mW, isO_mW, isA_mW, mI_mW, mW_mW, stI_mW, nI_addL, nI_mulL, nI_subL, nI_ltL, nI_leL, nI_Llt, nI_Lle, nI_eqL, nI_Leq, nI_add, pk_mul, nI_ltI, nI_leI, nI_eq, vpi, nI_clamp, nI_toN, p_L_tick, ld_o hL, ld_og hL, ld_od hL, ld_r0 hL, ld_r1 hL, ld_r2 hL, ld_r3 hL, ld_r4 hL, ld_r5 hL, ld_r6 hL, ld_r7 hL, ld_r8 hL, ld_r9 hL, ld_r10 hL, ld_r11 hL, ld_a1 hL, ld_a2 hL, ld_a3 hL, ld_a4 hL, ld_a5 hL, ld_a6 hL, ld_a7 hL, ld_a8 hL, ld_a9 hL, ld_a11 hL, ld_a13 hL, ld_a14 hL, ← tk0.eq_1]
  have hT : lnT (tk0 (mI M) b) b = lnT (mI M) b := lnT_congr (u2_o (by omega))
  refine lp_L_tick1 Z d hL (tk0_D hD) hT ?_ _ 0 (Nat.zero_add _)
  exact lp_L_tick2 Z d (M := M) hL (tk1_D (tk0_D hD)) (by rw [lnT_congr (tk1_o (by omega) _), hT]) ⟨rfl, rfl⟩ _ 0 (Nat.zero_add _)
end
section
/-! copying a ledger: place after place -/
def lenJ (i : Nat) : Nat := (ledK.getD i (0, 0)).2
def lm (i y : Nat) : Prop := (i = 0 ∧ 12 ≤ y ∧ y < 18) ∨ ((i = 10 ∨ i = 12) ∧ y = 2) ∨ (i ≠ 0 ∧ i ≠ 10 ∧ i ≠ 12 ∧ y < lenJ i)
def pos (i y : Nat) : Nat := if i = 0 then y + 3 else i
noncomputable def cfT (f : Nat → Nat → Int32) (b o s : Nat) : Nat → Nat → Int32 := fun x y => @ite _ (b ≤ x ∧ x < b + 15 ∧ lm (x - b) y ∧ pos (x - b) y ≤ s) (Classical.propDecidable _) (f (o + (x - b)) y) (f x y)
noncomputable def cfF (f : Nat → Nat → Int32) (b o : Nat) : Nat → Nat → Int32 := cfT f b o 20
theorem cfT_in {f : Nat → Nat → Int32} {b o s i y : Nat} (hi : i < 15) (h : lm i y) (hp : pos i y ≤ s) : cfT f b o s (b + i) y = f (o + i) y := by
  unfold cfT
  rw [Nat.add_sub_cancel_left, if_pos ⟨by omega, by omega, h, hp⟩]
theorem cfT_no {f : Nat → Nat → Int32} {b o s i y : Nat} (h : ¬ (lm i y ∧ pos i y ≤ s)) : cfT f b o s (b + i) y = f (b + i) y := by
  unfold cfT
  rw [Nat.add_sub_cancel_left, if_neg (fun q => h q.2.2)]
theorem cfT_out {f : Nat → Nat → Int32} {b o s x y : Nat} (h : x < b ∨ b + 15 ≤ x) : cfT f b o s x y = f x y := by
  unfold cfT
  rw [if_neg (fun q => by omega)]
theorem cfT_o {f : Nat → Nat → Int32} {b o s i y : Nat} (hd : o + 15 ≤ b ∨ b + 15 ≤ o) (hi : i < 15) : cfT f b o s (o + i) y = f (o + i) y := cfT_out (by omega)
theorem cfT_0 (f : Nat → Nat → Int32) (b o : Nat) : cfT f b o 0 = f := by
  funext x y
  unfold cfT
  rw [if_neg (fun q => by have := q.2.2; unfold pos lm at this; split at this <;> omega)]
theorem cf_ext {g h : Nat → Nat → Int32} {b : Nat} (h1 : ∀ i y, i < 15 → g (b + i) y = h (b + i) y) (h2 : ∀ x y, x < b ∨ b + 15 ≤ x → g x y = h x y) : g = h := by
  funext x y
  by_cases q : x < b ∨ b + 15 ≤ x
  · exact h2 x y q
  · have := h1 (x - b) y (by omega)
    rw [show b + (x - b) = x by omega] at this
    exact this
theorem cpA_hit {f : Nat → Nat → Int32} {a b n y : Nat} (h : y < n) : cpA f a b n b y = f a y := by
  unfold cpA
  rw [if_pos ⟨rfl, h⟩]
theorem cpA_ne {f : Nat → Nat → Int32} {a b n x y : Nat} (h : ¬ (x = b ∧ y < n)) : cpA f a b n x y = f x y := by
  unfold cpA
  rw [if_neg h]
theorem cpA_T {f : Nat → Nat → Int32} {b o j s : Nat} (hd : o + 15 ≤ b ∨ b + 15 ≤ o) (hj : 0 < j) (hj2 : j < 15) (h10 : j ≠ 10) (h12 : j ≠ 12) (hs : s + 1 = j) : cpA (cfT f b o s) (o + j) (b + j) (lenJ j) = cfT f b o j := by
  apply cf_ext (b := b)
  · intro i y hi
    by_cases hq : i = j ∧ y < lenJ j
    · obtain ⟨rfl, hy⟩ := hq
      rw [cpA_hit hy, cfT_o hd hj2, cfT_in hi (Or.inr (Or.inr ⟨by omega, h10, h12, hy⟩)) (by unfold pos; rw [if_neg (by omega)]; exact Nat.le_refl _)]
    · rw [cpA_ne (fun q => hq ⟨by omega, q.2⟩)]
      by_cases hm : lm i y ∧ pos i y ≤ s
      · rw [cfT_in hi hm.1 hm.2, cfT_in hi hm.1 (by omega)]
      · rw [cfT_no hm, cfT_no]
        rintro ⟨h1, h2⟩
        have h3 : pos i y = j := by
          have : ¬ pos i y ≤ s := fun q => hm ⟨h1, q⟩
          omega
        unfold pos at h3
        split at h3
        · next hz =>
          unfold lm at h1
          omega
        · subst h3
          rcases h1 with h1 | h1 | h1
          · omega
          · omega
          · exact hq ⟨rfl, h1.2.2.2⟩
  · intro x y hx
    rw [cpA_ne (fun q => by omega), cfT_out hx, cfT_out hx]
theorem crF_T {f : Nat → Nat → Int32} {b o j s n : Nat} (hd : o + 15 ≤ b ∨ b + 15 ≤ o) (hj : j = 10 ∨ j = 12) (hs : s + 1 = j) (hn : n = lenJ (j + 1)) : crF (cfT f b o s) (b + j) (o + j) n = cfT f b o (j + 1) := by
  subst hn
  unfold crF
  rw [Nat.add_assoc o j 1, Nat.add_assoc b j 1]
  apply cf_ext (b := b)
  · intro i y hi
    by_cases hq : i = j ∧ y = 2
    · obtain ⟨rfl, rfl⟩ := hq
      rw [u2_eq, cfT_o hd hi, cfT_in hi (Or.inr (Or.inl ⟨hj, rfl⟩)) (by unfold pos; split <;> omega)]
    · rw [u2_o (fun q => hq ⟨by omega, q.2⟩)]
      by_cases hq2 : i = j + 1 ∧ y < lenJ (j + 1)
      · obtain ⟨rfl, hy⟩ := hq2
        rw [cpA_hit hy, cfT_o hd hi, cfT_in hi (Or.inr (Or.inr ⟨by omega, by omega, by omega, hy⟩)) (by unfold pos; rw [if_neg (by omega)]; exact Nat.le_refl _)]
      · rw [cpA_ne (fun q => hq2 ⟨by omega, q.2⟩)]
        by_cases hm : lm i y ∧ pos i y ≤ s
        · rw [cfT_in hi hm.1 hm.2, cfT_in hi hm.1 (by omega)]
        · rw [cfT_no hm, cfT_no]
          rintro ⟨h1, h2⟩
          have h3 : pos i y = j ∨ pos i y = j + 1 := by
            have : ¬ pos i y ≤ s := fun q => hm ⟨h1, q⟩
            omega
          unfold pos at h3
          split at h3
          · next hz =>
            unfold lm at h1
            omega
          · rcases h3 with h3 | h3
            · subst h3
              rcases h1 with h1 | h1 | h1
              · omega
              · exact hq ⟨rfl, h1.2⟩
              · omega
            · subst h3
              rcases h1 with h1 | h1 | h1
              · omega
              · omega
              · exact hq2 ⟨rfl, h1.2.2.2⟩
  · intro x y hx
    rw [u2_o (fun q => by omega), cpA_ne (fun q => by omega), cfT_out hx, cfT_out hx]
theorem u2_T {f : Nat → Nat → Int32} {b o k s : Nat} (hd : o + 15 ≤ b ∨ b + 15 ≤ o) (hk : 12 ≤ k) (hk2 : k < 18) (hs : s + 1 = k + 3) : u2 (cfT f b o s) b k (f o k) = cfT f b o (k + 3) := by
  apply cf_ext (b := b)
  · intro i y hi
    by_cases hq : i = 0 ∧ y = k
    · obtain ⟨rfl, rfl⟩ := hq
      rw [Nat.add_zero, u2_eq]
      have := cfT_in (f := f) (b := b) (o := o) (s := y + 3) (i := 0) (y := y) (by omega) (Or.inl ⟨rfl, hk, hk2⟩) (by unfold pos; rw [if_pos rfl]; exact Nat.le_refl _)
      rw [Nat.add_zero, Nat.add_zero] at this
      exact this.symm
    · rw [u2_o (fun q => hq ⟨by omega, q.2⟩)]
      by_cases hm : lm i y ∧ pos i y ≤ s
      · rw [cfT_in hi hm.1 hm.2, cfT_in hi hm.1 (by omega)]
      · rw [cfT_no hm, cfT_no]
        rintro ⟨h1, h2⟩
        have h3 : pos i y = k + 3 := by
          have : ¬ pos i y ≤ s := fun q => hm ⟨h1, q⟩
          omega
        unfold pos at h3
        split at h3
        · next hz => exact hq ⟨hz, by omega⟩
        · omega
  · intro x y hx
    rw [u2_o (fun q => by omega), cfT_out hx, cfT_out hx]
theorem cfT_b {f : Nat → Nat → Int32} {b o s k : Nat} (h : s < k + 3) : cfT f b o s b k = f b k := by
  have := cfT_no (f := f) (b := b) (o := o) (s := s) (i := 0) (y := k) (fun q => by have := q.2; unfold pos at this; rw [if_pos rfl] at this; omega)
  rw [Nat.add_zero] at this
  exact this
theorem cfT_ob {f : Nat → Nat → Int32} {b o s k : Nat} (hd : o + 15 ≤ b ∨ b + 15 ≤ o) : cfT f b o s o k = f o k := cfT_out (by omega)
/-- before the claims come, the sizes are still the old ones -/
theorem cfT_D {f : Nat → Nat → Int32} {b o s : Nat} (h : LedD f b) (h2 : LedD f o) (hs : s = 9 ∨ s = 11) : LedD (cfT f b o s) b := by
  have a1 : cfT f b o s (b + 12) 2 = f (b + 12) 2 := cfT_no (fun q => by have := q.2; unfold pos at this; rw [if_neg (by omega)] at this; omega)
  rcases hs with rfl | rfl
  · exact LedD_congr h (cfT_b (by omega)) (cfT_b (by omega)) (cfT_no (fun q => by have := q.2; unfold pos at this; rw [if_neg (by omega)] at this; omega)) a1
  · have a2 : cfT f b o 11 (b + 10) 2 = f (o + 10) 2 := cfT_in (by omega) (Or.inr (Or.inl ⟨Or.inl rfl, rfl⟩)) (by unfold pos; rw [if_neg (by omega)]; omega)
    exact LedD_gr h (cfT_b (by omega)) (cfT_b (by omega)) (s := csz f (o + 10)) (by rw [a2]; exact h2.1) h2.2.1 a1
theorem cfT_Do {f : Nat → Nat → Int32} {b o s : Nat} (hd : o + 15 ≤ b ∨ b + 15 ≤ o) (h2 : LedD f o) : LedD (cfT f b o s) o := LedD_congr h2 (cfT_ob hd) (cfT_ob hd) (cfT_o hd (by omega)) (cfT_o hd (by omega))
theorem cfF_D {f : Nat → Nat → Int32} {b o : Nat} (h2 : LedD f o) : LedD (cfF f b o) b := by
  have a1 : cfF f b o (b + 12) 2 = f (o + 12) 2 := cfT_in (by omega) (Or.inr (Or.inl ⟨Or.inr rfl, rfl⟩)) (by unfold pos; rw [if_neg (by omega)]; omega)
  have a2 : cfF f b o (b + 10) 2 = f (o + 10) 2 := cfT_in (by omega) (Or.inr (Or.inl ⟨Or.inl rfl, rfl⟩)) (by unfold pos; rw [if_neg (by omega)]; omega)
  have a3 : ∀ k, 12 ≤ k → k < 18 → cfF f b o b k = f o k := by
    intro k h1 h2
    have := cfT_in (f := f) (b := b) (o := o) (s := 20) (i := 0) (y := k) (by omega) (Or.inl ⟨rfl, h1, h2⟩) (by unfold pos; rw [if_pos rfl]; omega)
    rw [Nat.add_zero, Nat.add_zero] at this
    exact this
  have a4 := a3 12 (by omega) (by omega)
  have a5 := a3 13 (by omega) (by omega)
  unfold LedD lnT lnB csz at *
  rw [a1, a2, a4, a5]
  exact h2
theorem pcc1 {M : Mem} {b o : Nat} {K : Option Value → Mem → Prop} (h : LedS M b) (h2 : LedS M o) : pcall e_B_copy [.ref (o + 1), .ref (b + 1)] M K = K none (mW M (cpA (mI M) (o + 1) (b + 1) 4)) := by
  have := pc_B_copy (K := K) (a := o + 1) (b := b + 1) (M := M) ⟨of_eq_true (ld_l1 h2), of_eq_true (ld_l1 h), by rw [ld_k1 h2], by rw [ld_k1 h, ld_k1 h2], by rw [ld_k1 h2]; decide⟩
  rw [ld_k1 h2] at this
  exact this
theorem pcc2 {M : Mem} {b o : Nat} {K : Option Value → Mem → Prop} (h : LedS M b) (h2 : LedS M o) : pcall e_B_copy [.ref (o + 2), .ref (b + 2)] M K = K none (mW M (cpA (mI M) (o + 2) (b + 2) 4)) := by
  have := pc_B_copy (K := K) (a := o + 2) (b := b + 2) (M := M) ⟨of_eq_true (ld_l2 h2), of_eq_true (ld_l2 h), by rw [ld_k2 h2], by rw [ld_k2 h, ld_k2 h2], by rw [ld_k2 h2]; decide⟩
  rw [ld_k2 h2] at this
  exact this
theorem pcc3 {M : Mem} {b o : Nat} {K : Option Value → Mem → Prop} (h : LedS M b) (h2 : LedS M o) : pcall e_B_copy [.ref (o + 3), .ref (b + 3)] M K = K none (mW M (cpA (mI M) (o + 3) (b + 3) 4)) := by
  have := pc_B_copy (K := K) (a := o + 3) (b := b + 3) (M := M) ⟨of_eq_true (ld_l3 h2), of_eq_true (ld_l3 h), by rw [ld_k3 h2], by rw [ld_k3 h, ld_k3 h2], by rw [ld_k3 h2]; decide⟩
  rw [ld_k3 h2] at this
  exact this
theorem pcc4 {M : Mem} {b o : Nat} {K : Option Value → Mem → Prop} (h : LedS M b) (h2 : LedS M o) : pcall e_B_copy [.ref (o + 4), .ref (b + 4)] M K = K none (mW M (cpA (mI M) (o + 4) (b + 4) 6)) := by
  have := pc_B_copy (K := K) (a := o + 4) (b := b + 4) (M := M) ⟨of_eq_true (ld_l4 h2), of_eq_true (ld_l4 h), by rw [ld_k4 h2], by rw [ld_k4 h, ld_k4 h2], by rw [ld_k4 h2]; decide⟩
  rw [ld_k4 h2] at this
  exact this
theorem pcc5 {M : Mem} {b o : Nat} {K : Option Value → Mem → Prop} (h : LedS M b) (h2 : LedS M o) : pcall e_B_copy [.ref (o + 5), .ref (b + 5)] M K = K none (mW M (cpA (mI M) (o + 5) (b + 5) 6)) := by
  have := pc_B_copy (K := K) (a := o + 5) (b := b + 5) (M := M) ⟨of_eq_true (ld_l5 h2), of_eq_true (ld_l5 h), by rw [ld_k5 h2], by rw [ld_k5 h, ld_k5 h2], by rw [ld_k5 h2]; decide⟩
  rw [ld_k5 h2] at this
  exact this
theorem pcc6 {M : Mem} {b o : Nat} {K : Option Value → Mem → Prop} (h : LedS M b) (h2 : LedS M o) : pcall e_B_copy [.ref (o + 6), .ref (b + 6)] M K = K none (mW M (cpA (mI M) (o + 6) (b + 6) 6)) := by
  have := pc_B_copy (K := K) (a := o + 6) (b := b + 6) (M := M) ⟨of_eq_true (ld_l6 h2), of_eq_true (ld_l6 h), by rw [ld_k6 h2], by rw [ld_k6 h, ld_k6 h2], by rw [ld_k6 h2]; decide⟩
  rw [ld_k6 h2] at this
  exact this
theorem pcc7 {M : Mem} {b o : Nat} {K : Option Value → Mem → Prop} (h : LedS M b) (h2 : LedS M o) : pcall e_B_copy [.ref (o + 7), .ref (b + 7)] M K = K none (mW M (cpA (mI M) (o + 7) (b + 7) 24)) := by
  have := pc_B_copy (K := K) (a := o + 7) (b := b + 7) (M := M) ⟨of_eq_true (ld_l7 h2), of_eq_true (ld_l7 h), by rw [ld_k7 h2], by rw [ld_k7 h, ld_k7 h2], by rw [ld_k7 h2]; decide⟩
  rw [ld_k7 h2] at this
  exact this
theorem pcc8 {M : Mem} {b o : Nat} {K : Option Value → Mem → Prop} (h : LedS M b) (h2 : LedS M o) : pcall e_B_copy [.ref (o + 8), .ref (b + 8)] M K = K none (mW M (cpA (mI M) (o + 8) (b + 8) 24)) := by
  have := pc_B_copy (K := K) (a := o + 8) (b := b + 8) (M := M) ⟨of_eq_true (ld_l8 h2), of_eq_true (ld_l8 h), by rw [ld_k8 h2], by rw [ld_k8 h, ld_k8 h2], by rw [ld_k8 h2]; decide⟩
  rw [ld_k8 h2] at this
  exact this
theorem pcc9 {M : Mem} {b o : Nat} {K : Option Value → Mem → Prop} (h : LedS M b) (h2 : LedS M o) : pcall e_B_copy [.ref (o + 9), .ref (b + 9)] M K = K none (mW M (cpA (mI M) (o + 9) (b + 9) 24)) := by
  have := pc_B_copy (K := K) (a := o + 9) (b := b + 9) (M := M) ⟨of_eq_true (ld_l9 h2), of_eq_true (ld_l9 h), by rw [ld_k9 h2], by rw [ld_k9 h, ld_k9 h2], by rw [ld_k9 h2]; decide⟩
  rw [ld_k9 h2] at this
  exact this
theorem pcc14 {M : Mem} {b o : Nat} {K : Option Value → Mem → Prop} (h : LedS M b) (h2 : LedS M o) : pcall e_B_copy [.ref (o + 14), .ref (b + 14)] M K = K none (mW M (cpA (mI M) (o + 14) (b + 14) 6)) := by
  have := pc_B_copy (K := K) (a := o + 14) (b := b + 14) (M := M) ⟨of_eq_true (ld_l14 h2), of_eq_true (ld_l14 h), by rw [ld_k14 h2], by rw [ld_k14 h, ld_k14 h2], by rw [ld_k14 h2]; decide⟩
  rw [ld_k14 h2] at this
  exact this
def e_L_copyFrom : Ent := (fun av M => ∃ (b : Nat) (o : Nat), av = [.ref b, .ref o] ∧ (LedOk M b ∧ LedOk M o ∧ (o + 15 ≤ b ∨ b + 15 ≤ o)), fun av M r_ M_ => ∀ (b : Nat) (o : Nat), av = [.ref b, .ref o] → r_ = (none) ∧ M_ = (mW M (cfF (mI M) b o)))
theorem pc_L_copyFrom {b : Nat} {o : Nat} {M : Mem} {K : Option Value → Mem → Prop} (hp : LedOk M b ∧ LedOk M o ∧ (o + 15 ≤ b ∨ b + 15 ≤ o)) : pcall e_L_copyFrom [.ref b, .ref o] M K = K (none) (mW M (cfF (mI M) b o)) := propext ⟨fun h => h.2 _ _ (fun b' o' e => by simp only [List.cons.injEq, Value.ref.injEq, Value.int.injEq, Value.long.injEq, and_true] at e; obtain ⟨q0, q1⟩ := e; obtain rfl := q0; obtain rfl := q1; exact ⟨rfl, rfl⟩), fun h => ⟨⟨b, o, rfl, hp⟩, fun r_ M_ q => by obtain ⟨rfl, rfl⟩ := q _ _ rfl; exact h⟩⟩
theorem mk_L_copyFrom {Z : Zt} {d : Nat} (h : ∀ (b : Nat) (o : Nat) (M : Mem), (LedOk M b ∧ LedOk M o ∧ (o + 15 ≤ b ∨ b + 15 ≤ o)) → Gm Z d s_L_copyFrom [.ref b, .ref o] M (ex (none) (mW M (cfF (mI M) b o)))) : okE Z d i_L_copyFrom e_L_copyFrom := by
  rintro av M ⟨b, o, rfl, hp⟩
  exact Gm.cons (h b o M  hp) (fun r_ M_ q b' o' e => by simp only [List.cons.injEq, Value.ref.injEq, Value.int.injEq, Value.long.injEq, and_true] at e; obtain ⟨q0, q1⟩ := e; obtain rfl := q0; obtain rfl := q1; exact q)
set_option maxRecDepth 100000 in
set_option maxHeartbeats 4000000 in
theorem ok_L_copyFrom (Z : Zt) (d : Nat) : okE Z (d + 3) i_L_copyFrom e_L_copyFrom := mk_L_copyFrom fun b o M hp => by
  obtain ⟨hpb, hpo, hd⟩ := hp
  have hL := hpb.1
  have hO := hpo.1
  have c1 : cpA (mI M) (o + 1) (b + 1) 4 = cfT (mI M) b o 1 := by
    have := cpA_T (f := mI M) (j := 1) (s := 0) hd (by omega) (by omega) (by omega) (by omega) rfl
    rw [cfT_0] at this
    exact this
  have c2 : cpA (cfT (mI M) b o 1) (o + 2) (b + 2) 4 = cfT (mI M) b o 2 := cpA_T (j := 2) (s := 1) hd (by omega) (by omega) (by omega) (by omega) rfl
  have c3 : cpA (cfT (mI M) b o 2) (o + 3) (b + 3) 4 = cfT (mI M) b o 3 := cpA_T (j := 3) (s := 2) hd (by omega) (by omega) (by omega) (by omega) rfl
  have c4 : cpA (cfT (mI M) b o 3) (o + 4) (b + 4) 6 = cfT (mI M) b o 4 := cpA_T (j := 4) (s := 3) hd (by omega) (by omega) (by omega) (by omega) rfl
  have c5 : cpA (cfT (mI M) b o 4) (o + 5) (b + 5) 6 = cfT (mI M) b o 5 := cpA_T (j := 5) (s := 4) hd (by omega) (by omega) (by omega) (by omega) rfl
  have c6 : cpA (cfT (mI M) b o 5) (o + 6) (b + 6) 6 = cfT (mI M) b o 6 := cpA_T (j := 6) (s := 5) hd (by omega) (by omega) (by omega) (by omega) rfl
  have c7 : cpA (cfT (mI M) b o 6) (o + 7) (b + 7) 24 = cfT (mI M) b o 7 := cpA_T (j := 7) (s := 6) hd (by omega) (by omega) (by omega) (by omega) rfl
  have c8 : cpA (cfT (mI M) b o 7) (o + 8) (b + 8) 24 = cfT (mI M) b o 8 := cpA_T (j := 8) (s := 7) hd (by omega) (by omega) (by omega) (by omega) rfl
  have c9 : cpA (cfT (mI M) b o 8) (o + 9) (b + 9) 24 = cfT (mI M) b o 9 := cpA_T (j := 9) (s := 8) hd (by omega) (by omega) (by omega) (by omega) rfl
  have c14 : cpA (cfT (mI M) b o 13) (o + 14) (b + 14) 6 = cfT (mI M) b o 14 := cpA_T (j := 14) (s := 13) hd (by omega) (by omega) (by omega) (by omega) rfl
  have c10 : crF (cfT (mI M) b o 9) (b + 10) (o + 10) (ccap (b + 10) * 6) = cfT (mI M) b o 11 := crF_T (j := 10) (s := 9) hd (Or.inl rfl) rfl (by rw [ccap_g hL]; rfl)
  have c12 : crF (cfT (mI M) b o 11) (b + 12) (o + 12) (ccap (b + 12) * 6) = cfT (mI M) b o 13 := crF_T (j := 12) (s := 11) hd (Or.inr rfl) rfl (by rw [ccap_d hL]; rfl)
  have g10 : ClOk (mW M (cfT (mI M) b o 9)) (b + 10) ∧ ClOk (mW M (cfT (mI M) b o 9)) (o + 10) ∧ ccap (b + 10) = ccap (o + 10) := ⟨ld_cg (M := mW M (cfT (mI M) b o 9)) hL (cfT_D hpb.2 hpo.2 (Or.inl rfl)), ld_cg (M := mW M (cfT (mI M) b o 9)) hO (cfT_Do hd hpo.2), by rw [ccap_g hL, ccap_g hO]⟩
  have g12 : ClOk (mW M (cfT (mI M) b o 11)) (b + 12) ∧ ClOk (mW M (cfT (mI M) b o 11)) (o + 12) ∧ ccap (b + 12) = ccap (o + 12) := ⟨ld_cd (M := mW M (cfT (mI M) b o 11)) hL (cfT_D hpb.2 hpo.2 (Or.inr rfl)), ld_cd (M := mW M (cfT (mI M) b o 11)) hO (cfT_Do hd hpo.2), by rw [ccap_d hL, ccap_d hO]⟩
  have r : ∀ s k, cfT (mI M) b o s o k = mI M o k := fun s k => cfT_ob hd
  have u12 : u2 (cfT (mI M) b o 14) b 12 (mI M o 12) = cfT (mI M) b o 15 := u2_T (k := 12) hd (by omega) (by omega) rfl
  have u13 : u2 (cfT (mI M) b o 15) b 13 (mI M o 13) = cfT (mI M) b o 16 := u2_T (k := 13) hd (by omega) (by omega) rfl
  have u14 : u2 (cfT (mI M) b o 16) b 14 (mI M o 14) = cfT (mI M) b o 17 := u2_T (k := 14) hd (by omega) (by omega) rfl
  have u15 : u2 (cfT (mI M) b o 17) b 15 (mI M o 15) = cfT (mI M) b o 18 := u2_T (k := 15) hd (by omega) (by omega) rfl
  have u16 : u2 (cfT (mI M) b o 18) b 16 (mI M o 16) = cfT (mI M) b o 19 := u2_T (k := 16) hd (by omega) (by omega) rfl
  have u17 : u2 (cfT (mI M) b o 19) b 17 (mI M o 17) = cfT (mI M) b o 20 := u2_T (k := 17) hd (by omega) (by omega) rfl
  have hL2 : ∀ f, LedS (mW M f) b := fun f => hL
  have hO2 : ∀ f, LedS (mW M f) o := fun f => hO
  refine Gm_run (C := [(i_B_copy, e_B_copy), (i_C_copyRows, e_C_copyRows)]) (S := []) [some (.ref b), some (.ref o)] 200 k_L_copyFrom (okE_cons (ok_B_copy Z (d + 1)) (okE_cons (ok_C_copyRows Z d) okE_nil)) (ex_n rfl) ?_
  simp (disch := first | exact hL | exact hO | exact hL2 _ | exact hO2 _ | trivial | omega) only [run, go, jmp, seek, inS, e0, e1, e2, e3, e4, e5, tsw, e7, e8, e9, e10, e11, e12, splitA, rcv, clook, lget, lset, lset2, lkill, Option.toList, List.nil_append, List.cons_append, wsum, List.map_cons, List.map_nil, List.sum_cons, List.sum_nil, Value.category, Nat.reduceAdd, List.getD_cons_zero, List.getD_cons_succ, ↓reduceIte, if_true, if_false, Bool.false_eq_true, Nat.reduceLeDiff, Nat.reduceEqDiff, true_or, or_true, true_and, and_true, and_self, or_self, not_true, not_false_iff, mR_stI, mN_stI, isO_stI, isA_stI, mI_stI, mR_mW, mN_mW, isO_mW, isA_mW, mI_mW, mW_mW, stI_mW, p_L_copyFrom, ld_o hL, ld_og hL, ld_od hL, ld_r0 hL, ld_r1 hL, ld_r2 hL, ld_r3 hL, ld_r4 hL, ld_r5 hL, ld_r6 hL, ld_r7 hL, ld_r8 hL, ld_r9 hL, ld_r10 hL, ld_r11 hL, ld_a1 hL, ld_a2 hL, ld_a3 hL, ld_a4 hL, ld_a5 hL, ld_a6 hL, ld_a7 hL, ld_a8 hL, ld_a9 hL, ld_a11 hL, ld_a13 hL, ld_a14 hL, ld_o hO, ld_og hO, ld_od hO, ld_r0 hO, ld_r1 hO, ld_r2 hO, ld_r3 hO, ld_r4 hO, ld_r5 hO, ld_r6 hO, ld_r7 hO, ld_r8 hO, ld_r9 hO, ld_r10 hO, ld_r11 hO, ld_a1 hO, ld_a2 hO, ld_a3 hO, ld_a4 hO, ld_a5 hO, ld_a6 hO, ld_a7 hO, ld_a8 hO, ld_a9 hO, ld_a11 hO, ld_a13 hO, ld_a14 hO, i_B_copy, i_C_copyRows, pcc1, pcc2, pcc3, pcc4, pcc5, pcc6, pcc7, pcc8, pcc9, pcc14, c1, c2, c3, c4, c5, c6, c7, c8, c9, c14, pc_C_copyRows g10, c10, pc_C_copyRows g12, c12, r, u12, u13, u14, u15, u16, u17]
  exact ⟨rfl, rfl⟩
end
section
/-! ===== the whole bank, as it stands: what never changes but the order of the kept states ===== -/
def BkS (M : Mem) : Prop := mN M = 181 ∧ LedS M 20 ∧ LedS M 35 ∧ (∀ j, j < 8 → LedS M (52 + 15 * j)) ∧ mR M 50 0 = 51 ∧ (∀ i, i < 8 → ∃ j, j < 8 ∧ mR M 51 i = 52 + 15 * j) ∧ (∀ i k, i < 8 → k < 8 → mR M 51 i = mR M 51 k → i = k) ∧ (mR M 16 0 = 17 ∧ mR M 16 1 = 20 ∧ mR M 16 2 = 35 ∧ mR M 16 3 = 50 ∧ mR M 16 4 = 172 ∧ mR M 16 5 = 173) ∧ (mR M 17 0 = 18 ∧ mR M 17 1 = 19) ∧ (mR M 174 0 = 175 ∧ mR M 174 1 = 176 ∧ mR M 174 2 = 177 ∧ mR M 174 4 = 178 ∧ mR M 174 6 = 179 ∧ mR M 174 9 = 180)
theorem bk_mW {M : Mem} {f : Nat → Nat → Int32} : BkS (mW M f) = BkS M := rfl
theorem bk_now {M : Mem} (h : BkS M) : LedS M 20 := h.2.1
theorem bk_tri {M : Mem} (h : BkS M) : LedS M 35 := h.2.2.1
theorem bk_row {M : Mem} {j : Nat} (h : BkS M) (hj : j < 8) : LedS M (52 + 15 * j) := h.2.2.2.1 j hj
theorem bk_h0 {M : Mem} (h : BkS M) : mR M 50 0 = 51 := h.2.2.2.2.1
theorem bk_st {M : Mem} (h : BkS M) {i : Nat} (hi : i < 8) : ∃ j, j < 8 ∧ mR M 51 i = 52 + 15 * j := h.2.2.2.2.2.1 i hi
theorem bk_inj {M : Mem} (h : BkS M) : ∀ i k, i < 8 → k < 8 → mR M 51 i = mR M 51 k → i = k := h.2.2.2.2.2.2.1
theorem bk_b0 {M : Mem} (h : BkS M) : mR M 16 0 = 17 := h.2.2.2.2.2.2.2.1.1
theorem bk_b1 {M : Mem} (h : BkS M) : mR M 16 1 = 20 := h.2.2.2.2.2.2.2.1.2.1
theorem bk_b2 {M : Mem} (h : BkS M) : mR M 16 2 = 35 := h.2.2.2.2.2.2.2.1.2.2.1
theorem bk_b3 {M : Mem} (h : BkS M) : mR M 16 3 = 50 := h.2.2.2.2.2.2.2.1.2.2.2.1
theorem bk_b4 {M : Mem} (h : BkS M) : mR M 16 4 = 172 := h.2.2.2.2.2.2.2.1.2.2.2.2.1
theorem bk_b5 {M : Mem} (h : BkS M) : mR M 16 5 = 173 := h.2.2.2.2.2.2.2.1.2.2.2.2.2
theorem bk_v0 {M : Mem} (h : BkS M) : mR M 17 0 = 18 := h.2.2.2.2.2.2.2.2.1.1
theorem bk_v1 {M : Mem} (h : BkS M) : mR M 17 1 = 19 := h.2.2.2.2.2.2.2.2.1.2
theorem bk_m0 {M : Mem} (h : BkS M) : mR M 174 0 = 175 := h.2.2.2.2.2.2.2.2.2.1
theorem bk_m1 {M : Mem} (h : BkS M) : mR M 174 1 = 176 := h.2.2.2.2.2.2.2.2.2.2.1
theorem bk_m2 {M : Mem} (h : BkS M) : mR M 174 2 = 177 := h.2.2.2.2.2.2.2.2.2.2.2.1
theorem bk_m4 {M : Mem} (h : BkS M) : mR M 174 4 = 178 := h.2.2.2.2.2.2.2.2.2.2.2.2.1
theorem bk_m6 {M : Mem} (h : BkS M) : mR M 174 6 = 179 := h.2.2.2.2.2.2.2.2.2.2.2.2.2.1
theorem bk_m9 {M : Mem} (h : BkS M) : mR M 174 9 = 180 := h.2.2.2.2.2.2.2.2.2.2.2.2.2.2
theorem bk_O {M : Mem} (h : BkS M) {i ci : Nat} (hk : kd i = (ci + 3, cW ci)) (hi : i < 181) : isO M i ci = True := eq_true ⟨by rw [h.1]; exact hi, by rw [hk], by rw [hk]⟩
theorem bk_A {M : Mem} (h : BkS M) {i k n : Nat} (hk : kd i = (1, n)) (hi : i < 181) (hn : k < n) (hn2 : n < 2 ^ 31) : isA M i (nI k) = True := eq_true ⟨by rw [h.1]; exact hi, by rw [hk], by rw [hk]; exact vp_in_nI hn hn2⟩
theorem bk_l {M : Mem} (h : BkS M) {i : Nat} (hi : i < 181) : (i < mN M) = True := eq_true (by rw [h.1]; exact hi)
theorem bk_oB {M : Mem} (h : BkS M) : isO M 16 4 = True := bk_O h rfl (by omega)
theorem bk_oV {M : Mem} (h : BkS M) : isO M 17 3 = True := bk_O h rfl (by omega)
theorem bk_oH {M : Mem} (h : BkS M) : isO M 50 1 = True := bk_O h rfl (by omega)
theorem bk_oM {M : Mem} (h : BkS M) : isO M 174 5 = True := bk_O h rfl (by omega)
theorem kd51a : (kd 51).1 = 2 := rfl
theorem kd51b : (kd 51).2 = 8 := rfl
theorem vp_0 {n : Nat} (h : 0 < n) (h2 : n < 2 ^ 31) : vp_in 0 n = True := vpi (k := 0) h h2
theorem vp_78 : vp_in 7 8 = True := vpi (k := 7) (by omega) (by omega)
def mRW (M : Mem) (r : Nat → Nat → Nat) : Mem := (M.1, M.2.1, r, M.2.2.2)
theorem mR_mRW (M : Mem) (r : Nat → Nat → Nat) : mR (mRW M r) = r := rfl
theorem mL_mRW (M : Mem) (r : Nat → Nat → Nat) : mL (mRW M r) = mL M := rfl
theorem mN_mRW (M : Mem) (r : Nat → Nat → Nat) : mN (mRW M r) = mN M := rfl
theorem mI_mRW (M : Mem) (r : Nat → Nat → Nat) : mI (mRW M r) = mI M := rfl
theorem isO_mRW (M : Mem) (r : Nat → Nat → Nat) : isO (mRW M r) = isO M := rfl
theorem isA_mRW (M : Mem) (r : Nat → Nat → Nat) : isA (mRW M r) = isA M := rfl
theorem stR_mRW (M : Mem) (r : Nat → Nat → Nat) (a k v : Nat) : stR (mRW M r) a k v = mRW M (u2 r a k v) := rfl
theorem stI_mRW (M : Mem) (r : Nat → Nat → Nat) (a k : Nat) (v : Int32) : stI (mRW M r) a k v = mW (mRW M r) (u2 (mI M) a k v) := rfl
theorem mRW_self (M : Mem) : mRW M (mR M) = M := rfl
/-- the kept states moved on by one; the first comes last -/
def rotP (r : Nat → Nat → Nat) (i : Nat) : Nat → Nat → Nat := fun x y => if x = 51 ∧ y + 1 < i then r 51 (y + 1) else r x y
def rotR (r : Nat → Nat → Nat) : Nat → Nat → Nat := u2 (rotP r 8) 51 7 (r 51 0)
theorem rotP_1 (r : Nat → Nat → Nat) : rotP r 1 = r := by
  funext x y
  simp only [rotP]
  rw [if_neg (by omega)]
theorem rotP_s {r : Nat → Nat → Nat} {i : Nat} (hi : 1 ≤ i) : u2 (rotP r i) 51 (i - 1) (r 51 i) = rotP r (i + 1) := by
  funext x y
  simp only [rotP, u2_at]
  by_cases h1 : x = 51 ∧ y = i - 1
  · rw [if_pos h1, if_pos (by omega), h1.2, show i - 1 + 1 = i by omega]
  · rw [if_neg h1]
    by_cases h3 : x = 51 ∧ y + 1 < i
    · rw [if_pos h3, if_pos (by omega)]
    · rw [if_neg h3, if_neg (by omega)]
theorem rotP_i {r : Nat → Nat → Nat} {i : Nat} : rotP r i 51 i = r 51 i := by
  unfold rotP
  rw [if_neg (by omega)]
theorem rotP_o {r : Nat → Nat → Nat} {i x y : Nat} (h : x ≠ 51) : rotP r i x y = r x y := by
  unfold rotP
  rw [if_neg (fun q => h q.1)]
theorem rotR_o {r : Nat → Nat → Nat} {x y : Nat} (h : x ≠ 51) : rotR r x y = r x y := by
  unfold rotR
  rw [u2_ne h, rotP_o h]
theorem rotR_i {r : Nat → Nat → Nat} {i : Nat} (h : i < 7) : rotR r 51 i = r 51 (i + 1) := by
  unfold rotR rotP
  rw [u2_ne2 (by omega), if_pos ⟨rfl, by omega⟩]
theorem rotR_7 {r : Nat → Nat → Nat} : rotR r 51 7 = r 51 0 := u2_eq
theorem led_RW {M : Mem} {r : Nat → Nat → Nat} {b : Nat} (h : LedS M b) (hb : b + 14 < 51 ∨ 51 < b) (hr : ∀ x y, x ≠ 51 → r x y = mR M x y) : LedS (mRW M r) b := by
  obtain ⟨h1, h2, h3, h4, h5, h6, h7, h8, h9, h10⟩ := h
  refine ⟨h1, h2, fun j hj => ?_, ?_, ?_, ?_, ?_, ?_, ?_, ?_⟩
  · rw [mR_mRW, hr _ _ (by omega), h3 j hj]
  · rw [mR_mRW, hr _ _ (by omega), h4]
  · rw [mR_mRW, hr _ _ (by omega), h5]
  · rw [mR_mRW, hr _ _ (by omega), h6]
  · rw [mR_mRW, hr _ _ (by omega), h7]
  · rw [mR_mRW, hr _ _ (by omega), h8]
  · rw [mR_mRW, hr _ _ (by omega), h9]
  · rw [mR_mRW, hr _ _ (by omega), h10]
theorem bk_rot {M : Mem} (h : BkS M) : BkS (mRW M (rotR (mR M))) := by
  have hr : ∀ x y, x ≠ 51 → rotR (mR M) x y = mR M x y := fun x y h => rotR_o h
  obtain ⟨h1, h2, h3, h4, h5, h6, h7, h8, h9, h10⟩ := h
  have e : ∀ i, i < 8 → rotR (mR M) 51 i = mR M 51 (if i < 7 then i + 1 else 0) := fun i hi => by
    by_cases q : i < 7
    · rw [if_pos q, rotR_i q]
    · rw [if_neg q, show i = 7 by omega, rotR_7]
  refine ⟨h1, led_RW h2 (by omega) hr, led_RW h3 (by omega) hr, fun j hj => led_RW (h4 j hj) (by omega) hr, ?_, fun i hi => ?_, fun i k hi hk q => ?_, ?_, ?_, ?_⟩
  · rw [mR_mRW, hr _ _ (by omega), h5]
  · rw [mR_mRW, e i hi]
    exact h6 _ (by split <;> omega)
  · rw [mR_mRW, e i hi, e k hk] at q
    have := h7 _ _ (by split <;> omega) (by split <;> omega) q
    split at this <;> split at this <;> omega
  · simp only [mR_mRW, hr _ _ (show (16 : Nat) ≠ 51 by omega)]
    exact h8
  · simp only [mR_mRW, hr _ _ (show (17 : Nat) ≠ 51 by omega)]
    exact h9
  · simp only [mR_mRW, hr _ _ (show (174 : Nat) ≠ 51 by omega)]
    exact h10
def hs (f : Nat → Nat → Int32) : Nat := (f 50 1).toNatClampNeg
def HisD (f : Nat → Nat → Int32) : Prop := f 50 1 = nI (hs f) ∧ hs f ≤ 8 ∧ ∀ j, j < 8 → LedD f (52 + 15 * j)
def dropM (M : Mem) : Mem := mW (mRW M (rotR (mR M))) (u2 (mI M) 50 1 7)
theorem st_o {M : Mem} (h : BkS M) {i : Nat} (hi : i < 8) : isO M (mR M 51 i) 2 = True := by
  obtain ⟨j, hj, e⟩ := bk_st h hi
  rw [e]
  exact ld_o (bk_row h hj)
def e_H_dropOldest : Ent := (fun av M => ∃ (o : Nat), av = [.ref o] ∧ (o = 50 ∧ BkS M), fun av M r_ M_ => ∀ (o : Nat), av = [.ref o] → r_ = (none) ∧ M_ = (dropM M))
theorem pc_H_dropOldest {o : Nat} {M : Mem} {K : Option Value → Mem → Prop} (hp : o = 50 ∧ BkS M) : pcall e_H_dropOldest [.ref o] M K = K (none) (dropM M) := propext ⟨fun h => h.2 _ _ (fun o' e => by simp only [List.cons.injEq, Value.ref.injEq, Value.int.injEq, Value.long.injEq, and_true] at e; have q0 := e; obtain rfl := q0; exact ⟨rfl, rfl⟩), fun h => ⟨⟨o, rfl, hp⟩, fun r_ M_ q => by obtain ⟨rfl, rfl⟩ := q _ rfl; exact h⟩⟩
theorem mk_H_dropOldest {Z : Zt} {d : Nat} (h : ∀ (o : Nat) (M : Mem), (o = 50 ∧ BkS M) → Gm Z d s_H_dropOldest [.ref o] M (ex (none) (dropM M))) : okE Z d i_H_dropOldest e_H_dropOldest := by
  rintro av M ⟨o, rfl, hp⟩
  exact Gm.cons (h o M  hp) (fun r_ M_ q o' e => by simp only [List.cons.injEq, Value.ref.injEq, Value.int.injEq, Value.long.injEq, and_true] at e; have q0 := e; obtain rfl := q0; exact q)
set_option maxRecDepth 100000 in
set_option maxHeartbeats 4000000 in
theorem lp_H_dropOldest (Z : Zt) (d : Nat) {M : Mem} (hB : BkS M) : ∀ n i, i + n = 8 → 1 ≤ i → X Z (d + 1) s_H_dropOldest (mN M) (mN M) (ex none (dropM M)) 9 [some (.ref 50), some (.ref (mR M 51 0)), some (.int (nI i))] [] (mRW M (rotP (mR M) i)) := by
  intro n
  induction n with
  | zero =>
    intro i hi h1
    obtain rfl : i = 8 := by omega
    refine X_run (C := []) (S := [9]) 100 k_H_dropOldest okE_nil ?_
    simp (disch := first | trivial | assumption | omega) only [run, go, jmp, seek, inS, e0, e1, e2, e3, e4, e5, tsw, e7, e8, e9, e10, e11, e12, splitA, rcv, clook, lget, lset, lset2, lkill, Option.toList, List.nil_append, List.cons_append, wsum, List.map_cons, List.map_nil, List.sum_cons, List.sum_nil, Value.category, Nat.reduceAdd, List.getD_cons_zero, List.getD_cons_succ, ↓reduceIte, if_true, if_false, Bool.false_eq_true, Nat.reduceLeDiff, Nat.reduceEqDiff, true_or, or_true, true_and, and_true, and_self, or_self, not_true, not_false_iff, mR_stI, mN_stI, isO_stI, isA_stI, mI_stI, mR_mW, mN_mW, isO_mW, isA_mW, mI_mW, mW_mW, stI_mW, nI_addL, nI_mulL, nI_subL, nI_ltL, nI_leL, nI_Llt, nI_Lle, nI_eqL, nI_Leq, nI_add, pk_mul, nI_ltI, nI_leI, nI_eq, vpi, nI_clamp, nI_toN, p_H_dropOldest, bk_oH hB, isO_mRW, mR_mRW, mN_mRW, rotP_o, bk_h0 hB, bk_l hB, kd51a, kd51b, st_o hB, stR_mRW, stI_mRW, litN, vp_78]
    exact ⟨rfl, rfl⟩
  | succ n ih =>
    intro i hi h1
    refine X_run (C := []) (S := [9]) 100 k_H_dropOldest okE_nil ?_
    simp (disch := first | trivial | assumption | omega) only [run, go, jmp, seek, inS, e0, e1, e2, e3, e4, e5, tsw, e7, e8, e9, e10, e11, e12, splitA, rcv, clook, lget, lset, lset2, lkill, Option.toList, List.nil_append, List.cons_append, wsum, List.map_cons, List.map_nil, List.sum_cons, List.sum_nil, Value.category, Nat.reduceAdd, List.getD_cons_zero, List.getD_cons_succ, ↓reduceIte, if_true, if_false, Bool.false_eq_true, Nat.reduceLeDiff, Nat.reduceEqDiff, true_or, or_true, true_and, and_true, and_self, or_self, not_true, not_false_iff, mR_stI, mN_stI, isO_stI, isA_stI, mI_stI, mR_mW, mN_mW, isO_mW, isA_mW, mI_mW, mW_mW, stI_mW, nI_addL, nI_mulL, nI_subL, nI_ltL, nI_leL, nI_Llt, nI_Lle, nI_eqL, nI_Leq, nI_add, pk_mul, nI_ltI, nI_leI, nI_eq, vpi, nI_clamp, nI_toN, p_H_dropOldest, bk_oH hB, isO_mRW, mR_mRW, mN_mRW, rotP_o, bk_h0 hB, bk_l hB, kd51a, kd51b, st_o hB, stR_mRW, stI_mRW, litN, rotP_i, rotP_s]
    rw [if_neg (by omega)]
    exact ih (i + 1) (by omega) (by omega)
set_option maxRecDepth 100000 in
set_option maxHeartbeats 4000000 in
theorem ok_H_dropOldest (Z : Zt) (d : Nat) : okE Z (d + 1) i_H_dropOldest e_H_dropOldest := mk_H_dropOldest fun o M hp => by
  obtain ⟨rfl, hB⟩ := hp
  refine Gm_run (C := []) (S := [9]) [some (.ref 50), none, none] 100 k_H_dropOldest okE_nil (ex_n rfl) ?_
  simp (disch := first | trivial | assumption | omega) only [run, go, jmp, seek, inS, e0, e1, e2, e3, e4, e5, tsw, e7, e8, e9, e10, e11, e12, splitA, rcv, clook, lget, lset, lset2, lkill, Option.toList, List.nil_append, List.cons_append, wsum, List.map_cons, List.map_nil, List.sum_cons, List.sum_nil, Value.category, Nat.reduceAdd, List.getD_cons_zero, List.getD_cons_succ, ↓reduceIte, if_true, if_false, Bool.false_eq_true, Nat.reduceLeDiff, Nat.reduceEqDiff, true_or, or_true, true_and, and_true, and_self, or_self, not_true, not_false_iff, mR_stI, mN_stI, isO_stI, isA_stI, mI_stI, mR_mW, mN_mW, isO_mW, isA_mW, mI_mW, mW_mW, stI_mW, nI_addL, nI_mulL, nI_subL, nI_ltL, nI_leL, nI_Llt, nI_Lle, nI_eqL, nI_Leq, nI_add, pk_mul, nI_ltI, nI_leI, nI_eq, vpi, nI_clamp, nI_toN, p_H_dropOldest, bk_oH hB, bk_h0 hB, bk_l hB, kd51a, kd51b, vp_0]
  have := lp_H_dropOldest Z d hB 7 1 rfl (by omega)
  rw [rotP_1, mRW_self] at this
  exact this
def kpM1 (M : Mem) : Mem := if hs (mI M) < 8 then M else dropM M
def kpS1 (M : Mem) : Nat := if hs (mI M) < 8 then hs (mI M) else 7
noncomputable def kpM (M : Mem) : Mem := mW (kpM1 M) (u2 (cfF (mI (kpM1 M)) (mR (kpM1 M) 51 (kpS1 M)) 20) 50 1 (nI (kpS1 M + 1)))
theorem cfF_out {f : Nat → Nat → Int32} {b o x y : Nat} (h : x < b ∨ b + 15 ≤ x) : cfF f b o x y = f x y := cfT_out h
theorem LedD_o {f : Nat → Nat → Int32} {b k : Nat} {v : Int32} (h : LedD f b) (hb : b + 14 < 50 ∨ 50 < b) : LedD (u2 f 50 k v) b := LedD_congr h (u2_ne (by omega)) (u2_ne (by omega)) (u2_ne (by omega)) (u2_ne (by omega))
def e_H_keep : Ent := (fun av M => ∃ (o : Nat) (b : Nat), av = [.ref o, .ref b] ∧ (o = 50 ∧ b = 20 ∧ BkS M ∧ LedD (mI M) 20 ∧ HisD (mI M)), fun av M r_ M_ => ∀ (o : Nat) (b : Nat), av = [.ref o, .ref b] → r_ = (none) ∧ M_ = (kpM M))
theorem pc_H_keep {o : Nat} {b : Nat} {M : Mem} {K : Option Value → Mem → Prop} (hp : o = 50 ∧ b = 20 ∧ BkS M ∧ LedD (mI M) 20 ∧ HisD (mI M)) : pcall e_H_keep [.ref o, .ref b] M K = K (none) (kpM M) := propext ⟨fun h => h.2 _ _ (fun o' b' e => by simp only [List.cons.injEq, Value.ref.injEq, Value.int.injEq, Value.long.injEq, and_true] at e; obtain ⟨q0, q1⟩ := e; obtain rfl := q0; obtain rfl := q1; exact ⟨rfl, rfl⟩), fun h => ⟨⟨o, b, rfl, hp⟩, fun r_ M_ q => by obtain ⟨rfl, rfl⟩ := q _ _ rfl; exact h⟩⟩
theorem mk_H_keep {Z : Zt} {d : Nat} (h : ∀ (o : Nat) (b : Nat) (M : Mem), (o = 50 ∧ b = 20 ∧ BkS M ∧ LedD (mI M) 20 ∧ HisD (mI M)) → Gm Z d s_H_keep [.ref o, .ref b] M (ex (none) (kpM M))) : okE Z d i_H_keep e_H_keep := by
  rintro av M ⟨o, b, rfl, hp⟩
  exact Gm.cons (h o b M  hp) (fun r_ M_ q o' b' e => by simp only [List.cons.injEq, Value.ref.injEq, Value.int.injEq, Value.long.injEq, and_true] at e; obtain ⟨q0, q1⟩ := e; obtain rfl := q0; obtain rfl := q1; exact q)
set_option maxRecDepth 100000 in
set_option maxHeartbeats 4000000 in
theorem ok_H_keep (Z : Zt) (d : Nat) : okE Z (d + 4) i_H_keep e_H_keep := mk_H_keep fun o b M hp => by
  obtain ⟨rfl, rfl, hB, hD, hH⟩ := hp
  have hN := bk_now hB
  refine Gm_run (C := [(i_H_dropOldest, e_H_dropOldest), (i_L_copyFrom, e_L_copyFrom)]) (S := []) [some (.ref 50), some (.ref 20)] 100 k_H_keep (okE_cons (ok_H_dropOldest Z (d + 2)) (okE_cons (ok_L_copyFrom Z d) okE_nil)) (ex_n (by unfold kpM kpM1; split <;> rfl)) ?_
  by_cases h8 : hs (mI M) < 8
  · obtain ⟨j, hj, e⟩ := bk_st hB h8
    have hp : LedOk M (52 + 15 * j) ∧ LedOk M 20 ∧ (20 + 15 ≤ 52 + 15 * j ∨ 52 + 15 * j + 15 ≤ 20) := ⟨⟨bk_row hB hj, hH.2.2 j hj⟩, ⟨hN, hD⟩, by omega⟩
    have e5 : cfF (mI M) (52 + 15 * j) 20 50 1 = nI (hs (mI M)) := by rw [cfF_out (by omega), hH.1]
    simp (disch := first | trivial | assumption | omega) only [run, go, jmp, seek, inS, e0, e1, e2, e3, e4, e5, tsw, e7, e8, e9, e10, e11, e12, splitA, rcv, clook, lget, lset, lset2, lkill, Option.toList, List.nil_append, List.cons_append, wsum, List.map_cons, List.map_nil, List.sum_cons, List.sum_nil, Value.category, Nat.reduceAdd, List.getD_cons_zero, List.getD_cons_succ, ↓reduceIte, if_true, if_false, Bool.false_eq_true, Nat.reduceLeDiff, Nat.reduceEqDiff, true_or, or_true, true_and, and_true, and_self, or_self, not_true, not_false_iff, mR_stI, mN_stI, isO_stI, isA_stI, mI_stI, mR_mW, mN_mW, isO_mW, isA_mW, mI_mW, mW_mW, stI_mW, nI_addL, nI_mulL, nI_subL, nI_ltL, nI_leL, nI_Llt, nI_Lle, nI_eqL, nI_Leq, nI_add, pk_mul, nI_ltI, nI_leI, nI_eq, vpi, nI_clamp, nI_toN, p_H_keep, bk_oH hB, bk_h0 hB, bk_l hB, kd51a, kd51b, hH.1, i_H_dropOldest, i_L_copyFrom, e, ld_o (bk_row hB hj), pc_L_copyFrom hp, e5]
    rw [if_pos h8]
    refine ⟨rfl, ?_⟩
    unfold kpM
    rw [show kpM1 M = M from if_pos h8, show kpS1 M = hs (mI M) from if_pos h8, e]
  · have h7 : hs (mI M) = 8 := by have := hH.2.1; omega
    have hB2 : BkS (dropM M) := bk_rot hB
    obtain ⟨j, hj, e⟩ := bk_st hB2 (show 7 < 8 by omega)
    have hp : LedOk (dropM M) (52 + 15 * j) ∧ LedOk (dropM M) 20 ∧ (20 + 15 ≤ 52 + 15 * j ∨ 52 + 15 * j + 15 ≤ 20) := ⟨⟨bk_row hB2 hj, LedD_o (hH.2.2 j hj) (by omega)⟩, ⟨bk_now hB2, LedD_o hD (by omega)⟩, by omega⟩
    have e5 : cfF (mI (dropM M)) (52 + 15 * j) 20 50 1 = 7 := by rw [cfF_out (by omega)]; exact u2_eq (f := mI M) (a := 50) (k := 1)
    have e6 : mI (dropM M) 50 1 = 7 := u2_eq (f := mI M) (a := 50) (k := 1)
    simp (disch := first | trivial | assumption | omega) only [run, go, jmp, seek, inS, e0, e1, e2, e3, e4, e5, tsw, e7, e8, e9, e10, e11, e12, splitA, rcv, clook, lget, lset, lset2, lkill, Option.toList, List.nil_append, List.cons_append, wsum, List.map_cons, List.map_nil, List.sum_cons, List.sum_nil, Value.category, Nat.reduceAdd, List.getD_cons_zero, List.getD_cons_succ, ↓reduceIte, if_true, if_false, Bool.false_eq_true, Nat.reduceLeDiff, Nat.reduceEqDiff, true_or, or_true, true_and, and_true, and_self, or_self, not_true, not_false_iff, mR_stI, mN_stI, isO_stI, isA_stI, mI_stI, mR_mW, mN_mW, isO_mW, isA_mW, mI_mW, mW_mW, stI_mW, nI_addL, nI_mulL, nI_subL, nI_ltL, nI_leL, nI_Llt, nI_Lle, nI_eqL, nI_Leq, nI_add, pk_mul, nI_ltI, nI_leI, nI_eq, vpi, nI_clamp, nI_toN, p_H_keep, bk_oH hB, hH.1, h7, Nat.lt_irrefl, i_H_dropOldest, i_L_copyFrom, pc_H_dropOldest, bk_oH hB2, bk_h0 hB2, bk_l hB2, kd51a, kd51b, vp_78, litN, e6, e, ld_o (bk_row hB2 hj), pc_L_copyFrom hp, e5]
    refine ⟨rfl, ?_⟩
    unfold kpM
    rw [show kpM1 M = dropM M from if_neg h8, show kpS1 M = 7 from if_neg h8, e]
    rfl
noncomputable def rsM (M : Mem) : Mem := if hs (mI M) = 0 then M else mW M (cfF (u2 (mI M) 50 1 (nI (hs (mI M) - 1))) 20 (mR M 51 (hs (mI M) - 1)))
def e_H_restore : Ent := (fun av M => ∃ (o : Nat) (b : Nat), av = [.ref o, .ref b] ∧ (o = 50 ∧ b = 20 ∧ BkS M ∧ LedD (mI M) 20 ∧ HisD (mI M)), fun av M r_ M_ => ∀ (o : Nat) (b : Nat), av = [.ref o, .ref b] → r_ = (none) ∧ M_ = (rsM M))
theorem pc_H_restore {o : Nat} {b : Nat} {M : Mem} {K : Option Value → Mem → Prop} (hp : o = 50 ∧ b = 20 ∧ BkS M ∧ LedD (mI M) 20 ∧ HisD (mI M)) : pcall e_H_restore [.ref o, .ref b] M K = K (none) (rsM M) := propext ⟨fun h => h.2 _ _ (fun o' b' e => by simp only [List.cons.injEq, Value.ref.injEq, Value.int.injEq, Value.long.injEq, and_true] at e; obtain ⟨q0, q1⟩ := e; obtain rfl := q0; obtain rfl := q1; exact ⟨rfl, rfl⟩), fun h => ⟨⟨o, b, rfl, hp⟩, fun r_ M_ q => by obtain ⟨rfl, rfl⟩ := q _ _ rfl; exact h⟩⟩
theorem mk_H_restore {Z : Zt} {d : Nat} (h : ∀ (o : Nat) (b : Nat) (M : Mem), (o = 50 ∧ b = 20 ∧ BkS M ∧ LedD (mI M) 20 ∧ HisD (mI M)) → Gm Z d s_H_restore [.ref o, .ref b] M (ex (none) (rsM M))) : okE Z d i_H_restore e_H_restore := by
  rintro av M ⟨o, b, rfl, hp⟩
  exact Gm.cons (h o b M  hp) (fun r_ M_ q o' b' e => by simp only [List.cons.injEq, Value.ref.injEq, Value.int.injEq, Value.long.injEq, and_true] at e; obtain ⟨q0, q1⟩ := e; obtain rfl := q0; obtain rfl := q1; exact q)
set_option maxRecDepth 100000 in
set_option maxHeartbeats 4000000 in
theorem ok_H_restore (Z : Zt) (d : Nat) : okE Z (d + 4) i_H_restore e_H_restore := mk_H_restore fun o b M hp => by
  obtain ⟨rfl, rfl, hB, hD, hH⟩ := hp
  have hN := bk_now hB
  have h8 := hH.2.1
  refine Gm_run (C := [(i_L_copyFrom, e_L_copyFrom)]) (S := []) [some (.ref 50), some (.ref 20)] 100 k_H_restore (okE_cons (ok_L_copyFrom Z (d + 0)) okE_nil) (ex_n (by unfold rsM; split <;> rfl)) ?_
  by_cases h0 : hs (mI M) = 0
  · simp (disch := first | trivial | assumption | omega) only [run, go, jmp, seek, inS, e0, e1, e2, e3, e4, e5, tsw, e7, e8, e9, e10, e11, e12, splitA, rcv, clook, lget, lset, lset2, lkill, Option.toList, List.nil_append, List.cons_append, wsum, List.map_cons, List.map_nil, List.sum_cons, List.sum_nil, Value.category, Nat.reduceAdd, List.getD_cons_zero, List.getD_cons_succ, ↓reduceIte, if_true, if_false, Bool.false_eq_true, Nat.reduceLeDiff, Nat.reduceEqDiff, true_or, or_true, true_and, and_true, and_self, or_self, not_true, not_false_iff, mR_stI, mN_stI, isO_stI, isA_stI, mI_stI, mR_mW, mN_mW, isO_mW, isA_mW, mI_mW, mW_mW, stI_mW, nI_addL, nI_mulL, nI_subL, nI_ltL, nI_leL, nI_Llt, nI_Lle, nI_eqL, nI_Leq, nI_add, pk_mul, nI_ltI, nI_leI, nI_eq, vpi, nI_clamp, nI_toN, p_H_restore, bk_oH hB, hH.1, h0]
    exact ⟨rfl, (if_pos h0).symm⟩
  · obtain ⟨j, hj, e⟩ := bk_st hB (show hs (mI M) - 1 < 8 by omega)
    have hp : LedOk (mW M (u2 (mI M) 50 1 (nI (hs (mI M) - 1)))) 20 ∧ LedOk (mW M (u2 (mI M) 50 1 (nI (hs (mI M) - 1)))) (52 + 15 * j) ∧ (52 + 15 * j + 15 ≤ 20 ∨ 20 + 15 ≤ 52 + 15 * j) := ⟨⟨hN, LedD_o hD (by omega)⟩, ⟨bk_row hB hj, LedD_o (hH.2.2 j hj) (by omega)⟩, by omega⟩
    simp (disch := first | trivial | assumption | omega) only [run, go, jmp, seek, inS, e0, e1, e2, e3, e4, e5, tsw, e7, e8, e9, e10, e11, e12, splitA, rcv, clook, lget, lset, lset2, lkill, Option.toList, List.nil_append, List.cons_append, wsum, List.map_cons, List.map_nil, List.sum_cons, List.sum_nil, Value.category, Nat.reduceAdd, List.getD_cons_zero, List.getD_cons_succ, ↓reduceIte, if_true, if_false, Bool.false_eq_true, Nat.reduceLeDiff, Nat.reduceEqDiff, true_or, or_true, true_and, and_true, and_self, or_self, not_true, not_false_iff, mR_stI, mN_stI, isO_stI, isA_stI, mI_stI, mR_mW, mN_mW, isO_mW, isA_mW, mI_mW, mW_mW, stI_mW, nI_addL, nI_mulL, nI_subL, nI_ltL, nI_leL, nI_Llt, nI_Lle, nI_eqL, nI_Leq, nI_add, pk_mul, nI_ltI, nI_leI, nI_eq, vpi, nI_clamp, nI_toN, p_H_restore, bk_oH hB, bk_h0 hB, bk_l hB, kd51a, kd51b, hH.1, i_L_copyFrom, u2_eq, e, ld_o hN, pc_L_copyFrom hp]
    rw [if_neg (by omega)]
    refine ⟨rfl, ?_⟩
    unfold rsM
    rw [if_neg h0, e]
end
section
/-! ===== the JDK's texts ===== -/
def e_S_coder : Ent := (fun av M => ∃ (s : Nat), av = [.ref s] ∧ (2 ≤ s ∧ s < 6), fun av M r_ M_ => ∀ (s : Nat), av = [.ref s] → r_ = (some (.int 0)) ∧ M_ = (M))
theorem pc_S_coder {s : Nat} {M : Mem} {K : Option Value → Mem → Prop} (hp : 2 ≤ s ∧ s < 6) : pcall e_S_coder [.ref s] M K = K (some (.int 0)) (M) := propext ⟨fun h => h.2 _ _ (fun s' e => by simp only [List.cons.injEq, Value.ref.injEq, Value.int.injEq, Value.long.injEq, and_true] at e; have q0 := e; obtain rfl := q0; exact ⟨rfl, rfl⟩), fun h => ⟨⟨s, rfl, hp⟩, fun r_ M_ q => by obtain ⟨rfl, rfl⟩ := q _ rfl; exact h⟩⟩
theorem mk_S_coder {Z : Zt} {d : Nat} (h : ∀ (s : Nat) (M : Mem), (2 ≤ s ∧ s < 6) → Gm Z d s_S_coder [.ref s] M (ex (some (.int 0)) (M))) : okE Z d i_S_coder e_S_coder := by
  rintro av M ⟨s, rfl, hp⟩
  exact Gm.cons (h s M  hp) (fun r_ M_ q s' e => by simp only [List.cons.injEq, Value.ref.injEq, Value.int.injEq, Value.long.injEq, and_true] at e; have q0 := e; obtain rfl := q0; exact q)
set_option maxRecDepth 100000 in
set_option maxHeartbeats 4000000 in
theorem ok_S_coder (Z : Zt) (d : Nat) : okE Z (d + 1) i_S_coder e_S_coder := mk_S_coder fun s M hp => by
  refine Gm_run (C := []) (S := []) [some (.ref s)] 100 k_S_coder okE_nil (ex_n rfl) ?_
  simp (disch := first | trivial | assumption | omega) only [run, go, jmp, seek, inS, e0, e1, e2, e3, e4, e5, tsw, e7, e8, e9, e10, e11, e12, splitA, rcv, clook, lget, lset, lset2, lkill, Option.toList, List.nil_append, List.cons_append, wsum, List.map_cons, List.map_nil, List.sum_cons, List.sum_nil, Value.category, Nat.reduceAdd, List.getD_cons_zero, List.getD_cons_succ, ↓reduceIte, if_true, if_false, Bool.false_eq_true, Nat.reduceLeDiff, Nat.reduceEqDiff, true_or, or_true, true_and, and_true, and_self, or_self, not_true, not_false_iff, mR_stI, mN_stI, isO_stI, isA_stI, mI_stI, mR_mW, mN_mW, isO_mW, isA_mW, mI_mW, mW_mW, stI_mW, nI_addL, nI_mulL, nI_subL, nI_ltL, nI_leL, nI_Llt, nI_Lle, nI_eqL, nI_Leq, nI_add, pk_mul, nI_ltI, nI_leI, nI_eq, vpi, nI_clamp, nI_toN, p_S_coder, hp]
  exact ⟨⟨0, by omega, rfl⟩, rfl, rfl⟩
def slen (s : Nat) : Nat := lenL.getD (s - 2) 0
theorem slen_4 {s : Nat} (h : 2 ≤ s ∧ s < 6) : slen s < 5 := by
  have : s = 2 ∨ s = 3 ∨ s = 4 ∨ s = 5 := by omega
  rcases this with h | h | h | h <;> subst h <;> decide
theorem shr_0 (x : Int32) : x >>> ((0 : Int32) &&& 31) = x := by
  have : ((0 : Int32) &&& 31) = 0 := rfl
  rw [this]
  exact Int32.shiftRight_zero
def e_S_length : Ent := (fun av M => ∃ (s : Nat), av = [.ref s] ∧ (2 ≤ s ∧ s < 6), fun av M r_ M_ => ∀ (s : Nat), av = [.ref s] → r_ = (some (.int (nI (slen s)))) ∧ M_ = (M))
theorem pc_S_length {s : Nat} {M : Mem} {K : Option Value → Mem → Prop} (hp : 2 ≤ s ∧ s < 6) : pcall e_S_length [.ref s] M K = K (some (.int (nI (slen s)))) (M) := propext ⟨fun h => h.2 _ _ (fun s' e => by simp only [List.cons.injEq, Value.ref.injEq, Value.int.injEq, Value.long.injEq, and_true] at e; have q0 := e; obtain rfl := q0; exact ⟨rfl, rfl⟩), fun h => ⟨⟨s, rfl, hp⟩, fun r_ M_ q => by obtain ⟨rfl, rfl⟩ := q _ rfl; exact h⟩⟩
theorem mk_S_length {Z : Zt} {d : Nat} (h : ∀ (s : Nat) (M : Mem), (2 ≤ s ∧ s < 6) → Gm Z d s_S_length [.ref s] M (ex (some (.int (nI (slen s)))) (M))) : okE Z d i_S_length e_S_length := by
  rintro av M ⟨s, rfl, hp⟩
  exact Gm.cons (h s M  hp) (fun r_ M_ q s' e => by simp only [List.cons.injEq, Value.ref.injEq, Value.int.injEq, Value.long.injEq, and_true] at e; have q0 := e; obtain rfl := q0; exact q)
set_option maxRecDepth 100000 in
set_option maxHeartbeats 4000000 in
theorem ok_S_length (Z : Zt) (d : Nat) : okE Z (d + 2) i_S_length e_S_length := mk_S_length fun s M hp => by
  have ha : (6 ≤ s + 4) = True := eq_true (by omega)
  have ha2 : (s + 4 < 10) = True := eq_true (by omega)
  have q1 : lenL.getD (s + 4 - 6) 0 = slen s := by unfold slen; rw [show s + 4 - 6 = s - 2 by omega]
  refine Gm_run (C := [(i_S_coder, e_S_coder)]) (S := []) [some (.ref s)] 100 k_S_length (okE_cons (ok_S_coder Z d) okE_nil) (ex_n rfl) ?_
  simp (disch := first | trivial | assumption | omega) only [run, go, jmp, seek, inS, e0, e1, e2, e3, e4, e5, tsw, e7, e8, e9, e10, e11, e12, splitA, rcv, clook, lget, lset, lset2, lkill, Option.toList, List.nil_append, List.cons_append, wsum, List.map_cons, List.map_nil, List.sum_cons, List.sum_nil, Value.category, Nat.reduceAdd, List.getD_cons_zero, List.getD_cons_succ, ↓reduceIte, if_true, if_false, Bool.false_eq_true, Nat.reduceLeDiff, Nat.reduceEqDiff, true_or, or_true, true_and, and_true, and_self, or_self, not_true, not_false_iff, mR_stI, mN_stI, isO_stI, isA_stI, mI_stI, mR_mW, mN_mW, isO_mW, isA_mW, mI_mW, mW_mW, stI_mW, nI_addL, nI_mulL, nI_subL, nI_ltL, nI_leL, nI_Llt, nI_Lle, nI_eqL, nI_Leq, nI_add, pk_mul, nI_ltI, nI_leI, nI_eq, vpi, nI_clamp, nI_toN, p_S_length, hp, i_S_coder, pc_S_coder, shr_0, ha, ha2, q1]
  exact ⟨rfl, rfl⟩
def e_S_isLatin1 : Ent := (fun av M => ∃ (s : Nat), av = [.ref s] ∧ (2 ≤ s ∧ s < 6), fun av M r_ M_ => ∀ (s : Nat), av = [.ref s] → r_ = (some (.int 1)) ∧ M_ = (M))
theorem pc_S_isLatin1 {s : Nat} {M : Mem} {K : Option Value → Mem → Prop} (hp : 2 ≤ s ∧ s < 6) : pcall e_S_isLatin1 [.ref s] M K = K (some (.int 1)) (M) := propext ⟨fun h => h.2 _ _ (fun s' e => by simp only [List.cons.injEq, Value.ref.injEq, Value.int.injEq, Value.long.injEq, and_true] at e; have q0 := e; obtain rfl := q0; exact ⟨rfl, rfl⟩), fun h => ⟨⟨s, rfl, hp⟩, fun r_ M_ q => by obtain ⟨rfl, rfl⟩ := q _ rfl; exact h⟩⟩
theorem mk_S_isLatin1 {Z : Zt} {d : Nat} (h : ∀ (s : Nat) (M : Mem), (2 ≤ s ∧ s < 6) → Gm Z d s_S_isLatin1 [.ref s] M (ex (some (.int 1)) (M))) : okE Z d i_S_isLatin1 e_S_isLatin1 := by
  rintro av M ⟨s, rfl, hp⟩
  exact Gm.cons (h s M  hp) (fun r_ M_ q s' e => by simp only [List.cons.injEq, Value.ref.injEq, Value.int.injEq, Value.long.injEq, and_true] at e; have q0 := e; obtain rfl := q0; exact q)
set_option maxRecDepth 100000 in
set_option maxHeartbeats 4000000 in
theorem ok_S_isLatin1 (Z : Zt) (d : Nat) : okE Z (d + 1) i_S_isLatin1 e_S_isLatin1 := mk_S_isLatin1 fun s M hp => by
  refine Gm_run (C := []) (S := []) [some (.ref s)] 100 k_S_isLatin1 okE_nil (ex_n rfl) ?_
  simp (disch := first | trivial | assumption | omega) only [run, go, jmp, seek, inS, e0, e1, e2, e3, e4, e5, tsw, e7, e8, e9, e10, e11, e12, splitA, rcv, clook, lget, lset, lset2, lkill, Option.toList, List.nil_append, List.cons_append, wsum, List.map_cons, List.map_nil, List.sum_cons, List.sum_nil, Value.category, Nat.reduceAdd, List.getD_cons_zero, List.getD_cons_succ, ↓reduceIte, if_true, if_false, Bool.false_eq_true, Nat.reduceLeDiff, Nat.reduceEqDiff, true_or, or_true, true_and, and_true, and_self, or_self, not_true, not_false_iff, mR_stI, mN_stI, isO_stI, isA_stI, mI_stI, mR_mW, mN_mW, isO_mW, isA_mW, mI_mW, mW_mW, stI_mW, nI_addL, nI_mulL, nI_subL, nI_ltL, nI_leL, nI_Llt, nI_Lle, nI_eqL, nI_Leq, nI_add, pk_mul, nI_ltI, nI_leI, nI_eq, vpi, nI_clamp, nI_toN, p_S_isLatin1, hp]
  exact ⟨rfl, rfl⟩
def e_P_checkIndex : Ent := (fun av M => ∃ (i : Nat) (n : Nat) (o : Nat), av = [.int (nI i), .int (nI n), .ref o] ∧ i < 2 ^ 31 ∧ n < 2 ^ 31 ∧ (i < n), fun av M r_ M_ => ∀ (i : Nat) (n : Nat) (o : Nat), i < 2 ^ 31 → n < 2 ^ 31 → av = [.int (nI i), .int (nI n), .ref o] → r_ = (some (.int (nI i))) ∧ M_ = (M))
theorem pc_P_checkIndex {i : Nat} {n : Nat} {o : Nat} {M : Mem} {K : Option Value → Mem → Prop} (hp : i < n) (h_i : i < 2 ^ 31) (h_n : n < 2 ^ 31) : pcall e_P_checkIndex [.int (nI i), .int (nI n), .ref o] M K = K (some (.int (nI i))) (M) := propext ⟨fun h => h.2 _ _ (fun i' n' o' h_i' h_n' e => by simp only [List.cons.injEq, Value.ref.injEq, Value.int.injEq, Value.long.injEq, and_true] at e; obtain ⟨q0, q1, q2⟩ := e; obtain rfl := (nI_eq h_i h_i').mp q0; obtain rfl := (nI_eq h_n h_n').mp q1; obtain rfl := q2; exact ⟨rfl, rfl⟩), fun h => ⟨⟨i, n, o, rfl, h_i, h_n, hp⟩, fun r_ M_ q => by obtain ⟨rfl, rfl⟩ := q _ _ _ h_i h_n rfl; exact h⟩⟩
theorem mk_P_checkIndex {Z : Zt} {d : Nat} (h : ∀ (i : Nat) (n : Nat) (o : Nat) (M : Mem), i < 2 ^ 31 → n < 2 ^ 31 → (i < n) → Gm Z d s_P_checkIndex [.int (nI i), .int (nI n), .ref o] M (ex (some (.int (nI i))) (M))) : okE Z d i_P_checkIndex e_P_checkIndex := by
  rintro av M ⟨i, n, o, rfl, h_i, h_n, hp⟩
  exact Gm.cons (h i n o M h_i h_n hp) (fun r_ M_ q i' n' o' h_i' h_n' e => by simp only [List.cons.injEq, Value.ref.injEq, Value.int.injEq, Value.long.injEq, and_true] at e; obtain ⟨q0, q1, q2⟩ := e; obtain rfl := (nI_eq h_i h_i').mp q0; obtain rfl := (nI_eq h_n h_n').mp q1; obtain rfl := q2; exact q)
set_option maxRecDepth 100000 in
set_option maxHeartbeats 4000000 in
theorem ok_P_checkIndex (Z : Zt) (d : Nat) : okE Z (d + 1) i_P_checkIndex e_P_checkIndex := mk_P_checkIndex fun i n o M h1 h2 hp => by
  refine Gm_run (C := []) (S := []) [some (.int (nI i)), some (.int (nI n)), some (.ref o)] 100 k_P_checkIndex okE_nil (ex_n rfl) ?_
  simp (disch := first | trivial | assumption | omega) only [run, go, jmp, seek, inS, e0, e1, e2, e3, e4, e5, tsw, e7, e8, e9, e10, e11, e12, splitA, rcv, clook, lget, lset, lset2, lkill, Option.toList, List.nil_append, List.cons_append, wsum, List.map_cons, List.map_nil, List.sum_cons, List.sum_nil, Value.category, Nat.reduceAdd, List.getD_cons_zero, List.getD_cons_succ, ↓reduceIte, if_true, if_false, Bool.false_eq_true, Nat.reduceLeDiff, Nat.reduceEqDiff, true_or, or_true, true_and, and_true, and_self, or_self, not_true, not_false_iff, mR_stI, mN_stI, isO_stI, isA_stI, mI_stI, mR_mW, mN_mW, isO_mW, isA_mW, mI_mW, mW_mW, stI_mW, nI_addL, nI_mulL, nI_subL, nI_ltL, nI_leL, nI_Llt, nI_Lle, nI_eqL, nI_Leq, nI_add, pk_mul, nI_ltI, nI_leI, nI_eq, vpi, nI_clamp, nI_toN, p_P_checkIndex]
  rw [if_pos hp]
  exact ⟨rfl, rfl⟩
def e_S_checkIndex : Ent := (fun av M => ∃ (i : Nat) (n : Nat), av = [.int (nI i), .int (nI n)] ∧ i < 2 ^ 31 ∧ n < 2 ^ 31 ∧ (i < n), fun av M r_ M_ => ∀ (i : Nat) (n : Nat), i < 2 ^ 31 → n < 2 ^ 31 → av = [.int (nI i), .int (nI n)] → r_ = (none) ∧ M_ = (M))
theorem pc_S_checkIndex {i : Nat} {n : Nat} {M : Mem} {K : Option Value → Mem → Prop} (hp : i < n) (h_i : i < 2 ^ 31) (h_n : n < 2 ^ 31) : pcall e_S_checkIndex [.int (nI i), .int (nI n)] M K = K (none) (M) := propext ⟨fun h => h.2 _ _ (fun i' n' h_i' h_n' e => by simp only [List.cons.injEq, Value.ref.injEq, Value.int.injEq, Value.long.injEq, and_true] at e; obtain ⟨q0, q1⟩ := e; obtain rfl := (nI_eq h_i h_i').mp q0; obtain rfl := (nI_eq h_n h_n').mp q1; exact ⟨rfl, rfl⟩), fun h => ⟨⟨i, n, rfl, h_i, h_n, hp⟩, fun r_ M_ q => by obtain ⟨rfl, rfl⟩ := q _ _ h_i h_n rfl; exact h⟩⟩
theorem mk_S_checkIndex {Z : Zt} {d : Nat} (h : ∀ (i : Nat) (n : Nat) (M : Mem), i < 2 ^ 31 → n < 2 ^ 31 → (i < n) → Gm Z d s_S_checkIndex [.int (nI i), .int (nI n)] M (ex (none) (M))) : okE Z d i_S_checkIndex e_S_checkIndex := by
  rintro av M ⟨i, n, rfl, h_i, h_n, hp⟩
  exact Gm.cons (h i n M h_i h_n hp) (fun r_ M_ q i' n' h_i' h_n' e => by simp only [List.cons.injEq, Value.ref.injEq, Value.int.injEq, Value.long.injEq, and_true] at e; obtain ⟨q0, q1⟩ := e; obtain rfl := (nI_eq h_i h_i').mp q0; obtain rfl := (nI_eq h_n h_n').mp q1; exact q)
set_option maxRecDepth 100000 in
set_option maxHeartbeats 4000000 in
theorem ok_S_checkIndex (Z : Zt) (d : Nat) : okE Z (d + 2) i_S_checkIndex e_S_checkIndex := mk_S_checkIndex fun i n M h1 h2 hp => by
  refine Gm_run (C := [(i_P_checkIndex, e_P_checkIndex)]) (S := []) [some (.int (nI i)), some (.int (nI n))] 100 k_S_checkIndex (okE_cons (ok_P_checkIndex Z d) okE_nil) (ex_n rfl) ?_
  simp (disch := first | trivial | assumption | omega) only [run, go, jmp, seek, inS, e0, e1, e2, e3, e4, e5, tsw, e7, e8, e9, e10, e11, e12, splitA, rcv, clook, lget, lset, lset2, lkill, Option.toList, List.nil_append, List.cons_append, wsum, List.map_cons, List.map_nil, List.sum_cons, List.sum_nil, Value.category, Nat.reduceAdd, List.getD_cons_zero, List.getD_cons_succ, ↓reduceIte, if_true, if_false, Bool.false_eq_true, Nat.reduceLeDiff, Nat.reduceEqDiff, true_or, or_true, true_and, and_true, and_self, or_self, not_true, not_false_iff, mR_stI, mN_stI, isO_stI, isA_stI, mI_stI, mR_mW, mN_mW, isO_mW, isA_mW, mI_mW, mW_mW, stI_mW, nI_addL, nI_mulL, nI_subL, nI_ltL, nI_leL, nI_Llt, nI_Lle, nI_eqL, nI_Leq, nI_add, pk_mul, nI_ltI, nI_leI, nI_eq, vpi, nI_clamp, nI_toN, p_S_checkIndex, i_P_checkIndex, pc_P_checkIndex]
  exact ⟨rfl, rfl⟩
def chF (s i : Nat) : Int32 := (bytL.getD (s - 2) []).getD i 0
theorem chF_c : ∀ s, s < 6 → ∀ i, i < 4 → (∃ j : Nat, j < 128 ∧ chF s i = nI j) ∧ ((chF s i &&& 255).toUInt32 % 65536).toInt32 = chF s i := by
  intro s hs i hi
  have h1 : s = 0 ∨ s = 1 ∨ s = 2 ∨ s = 3 ∨ s = 4 ∨ s = 5 := by omega
  have h2 : i = 0 ∨ i = 1 ∨ i = 2 ∨ i = 3 := by omega
  refine ⟨⟨(chF s i).toNatClampNeg, ?_⟩, ?_⟩ <;> rcases h1 with h | h | h | h | h | h <;> subst h <;> rcases h2 with h | h | h | h <;> subst h <;> decide
def e_S1_charAt : Ent := (fun av M => ∃ (v : Nat) (i : Nat), av = [.ref v, .int (nI i)] ∧ i < 2 ^ 31 ∧ ((6 ≤ v ∧ v < 10) ∧ i < slen (v - 4)), fun av M r_ M_ => ∀ (v : Nat) (i : Nat), i < 2 ^ 31 → av = [.ref v, .int (nI i)] → r_ = (some (.int (chF (v - 4) i))) ∧ M_ = (M))
theorem pc_S1_charAt {v : Nat} {i : Nat} {M : Mem} {K : Option Value → Mem → Prop} (hp : (6 ≤ v ∧ v < 10) ∧ i < slen (v - 4)) (h_i : i < 2 ^ 31) : pcall e_S1_charAt [.ref v, .int (nI i)] M K = K (some (.int (chF (v - 4) i))) (M) := propext ⟨fun h => h.2 _ _ (fun v' i' h_i' e => by simp only [List.cons.injEq, Value.ref.injEq, Value.int.injEq, Value.long.injEq, and_true] at e; obtain ⟨q0, q1⟩ := e; obtain rfl := q0; obtain rfl := (nI_eq h_i h_i').mp q1; exact ⟨rfl, rfl⟩), fun h => ⟨⟨v, i, rfl, h_i, hp⟩, fun r_ M_ q => by obtain ⟨rfl, rfl⟩ := q _ _ h_i rfl; exact h⟩⟩
theorem mk_S1_charAt {Z : Zt} {d : Nat} (h : ∀ (v : Nat) (i : Nat) (M : Mem), i < 2 ^ 31 → ((6 ≤ v ∧ v < 10) ∧ i < slen (v - 4)) → Gm Z d s_S1_charAt [.ref v, .int (nI i)] M (ex (some (.int (chF (v - 4) i))) (M))) : okE Z d i_S1_charAt e_S1_charAt := by
  rintro av M ⟨v, i, rfl, h_i, hp⟩
  exact Gm.cons (h v i M h_i hp) (fun r_ M_ q v' i' h_i' e => by simp only [List.cons.injEq, Value.ref.injEq, Value.int.injEq, Value.long.injEq, and_true] at e; obtain ⟨q0, q1⟩ := e; obtain rfl := q0; obtain rfl := (nI_eq h_i h_i').mp q1; exact q)
set_option maxRecDepth 100000 in
set_option maxHeartbeats 4000000 in
theorem ok_S1_charAt (Z : Zt) (d : Nat) : okE Z (d + 3) i_S1_charAt e_S1_charAt := mk_S1_charAt fun v i M h1 hp => by
  obtain ⟨hv, hi⟩ := hp
  have h4 := slen_4 (s := v - 4) (by omega)
  have q1 : lenL.getD (v - 6) 0 = slen (v - 4) := by unfold slen; rw [show v - 4 - 2 = v - 6 by omega]
  have q2 : (bytL.getD (v - 6) []).getD i 0 = chF (v - 4) i := by unfold chF; rw [show v - 4 - 2 = v - 6 by omega]
  have hc := chF_c (v - 4) (by omega) i (by omega)
  refine Gm_run (C := [(i_S_checkIndex, e_S_checkIndex)]) (S := []) [some (.ref v), some (.int (nI i))] 100 k_S1_charAt (okE_cons (ok_S_checkIndex Z d) okE_nil) (ex_n rfl) ?_
  simp (disch := first | trivial | assumption | omega) only [run, go, jmp, seek, inS, e0, e1, e2, e3, e4, e5, tsw, e7, e8, e9, e10, e11, e12, splitA, rcv, clook, lget, lset, lset2, lkill, Option.toList, List.nil_append, List.cons_append, wsum, List.map_cons, List.map_nil, List.sum_cons, List.sum_nil, Value.category, Nat.reduceAdd, List.getD_cons_zero, List.getD_cons_succ, ↓reduceIte, if_true, if_false, Bool.false_eq_true, Nat.reduceLeDiff, Nat.reduceEqDiff, true_or, or_true, true_and, and_true, and_self, or_self, not_true, not_false_iff, mR_stI, mN_stI, isO_stI, isA_stI, mI_stI, mR_mW, mN_mW, isO_mW, isA_mW, mI_mW, mW_mW, stI_mW, nI_addL, nI_mulL, nI_subL, nI_ltL, nI_leL, nI_Llt, nI_Lle, nI_eqL, nI_Leq, nI_add, pk_mul, nI_ltI, nI_leI, nI_eq, vpi, nI_clamp, nI_toN, p_S1_charAt, i_S_checkIndex, pc_S_checkIndex, hv, q1, q2, hc.2]
  exact ⟨hc.1, rfl, rfl⟩
def e_S_charAt : Ent := (fun av M => ∃ (s : Nat) (i : Nat), av = [.ref s, .int (nI i)] ∧ i < 2 ^ 31 ∧ ((2 ≤ s ∧ s < 6) ∧ i < slen s), fun av M r_ M_ => ∀ (s : Nat) (i : Nat), i < 2 ^ 31 → av = [.ref s, .int (nI i)] → r_ = (some (.int (chF s i))) ∧ M_ = (M))
theorem pc_S_charAt {s : Nat} {i : Nat} {M : Mem} {K : Option Value → Mem → Prop} (hp : (2 ≤ s ∧ s < 6) ∧ i < slen s) (h_i : i < 2 ^ 31) : pcall e_S_charAt [.ref s, .int (nI i)] M K = K (some (.int (chF s i))) (M) := propext ⟨fun h => h.2 _ _ (fun s' i' h_i' e => by simp only [List.cons.injEq, Value.ref.injEq, Value.int.injEq, Value.long.injEq, and_true] at e; obtain ⟨q0, q1⟩ := e; obtain rfl := q0; obtain rfl := (nI_eq h_i h_i').mp q1; exact ⟨rfl, rfl⟩), fun h => ⟨⟨s, i, rfl, h_i, hp⟩, fun r_ M_ q => by obtain ⟨rfl, rfl⟩ := q _ _ h_i rfl; exact h⟩⟩
theorem mk_S_charAt {Z : Zt} {d : Nat} (h : ∀ (s : Nat) (i : Nat) (M : Mem), i < 2 ^ 31 → ((2 ≤ s ∧ s < 6) ∧ i < slen s) → Gm Z d s_S_charAt [.ref s, .int (nI i)] M (ex (some (.int (chF s i))) (M))) : okE Z d i_S_charAt e_S_charAt := by
  rintro av M ⟨s, i, rfl, h_i, hp⟩
  exact Gm.cons (h s i M h_i hp) (fun r_ M_ q s' i' h_i' e => by simp only [List.cons.injEq, Value.ref.injEq, Value.int.injEq, Value.long.injEq, and_true] at e; obtain ⟨q0, q1⟩ := e; obtain rfl := q0; obtain rfl := (nI_eq h_i h_i').mp q1; exact q)
set_option maxRecDepth 100000 in
set_option maxHeartbeats 4000000 in
theorem ok_S_charAt (Z : Zt) (d : Nat) : okE Z (d + 4) i_S_charAt e_S_charAt := mk_S_charAt fun s i M h1 hp => by
  obtain ⟨hv, hi⟩ := hp
  have h4 := slen_4 hv
  have hc := chF_c s (by omega) i (by omega)
  have hp : (6 ≤ s + 4 ∧ s + 4 < 10) ∧ i < slen (s + 4 - 4) := ⟨by omega, hi⟩
  refine Gm_run (C := [(i_S_isLatin1, e_S_isLatin1), (i_S1_charAt, e_S1_charAt)]) (S := []) [some (.ref s), some (.int (nI i))] 100 k_S_charAt (okE_cons (ok_S_isLatin1 Z (d + 2)) (okE_cons (ok_S1_charAt Z d) okE_nil)) (ex_n rfl) ?_
  simp (disch := first | trivial | assumption | omega) only [run, go, jmp, seek, inS, e0, e1, e2, e3, e4, e5, tsw, e7, e8, e9, e10, e11, e12, splitA, rcv, clook, lget, lset, lset2, lkill, Option.toList, List.nil_append, List.cons_append, wsum, List.map_cons, List.map_nil, List.sum_cons, List.sum_nil, Value.category, Nat.reduceAdd, List.getD_cons_zero, List.getD_cons_succ, ↓reduceIte, if_true, if_false, Bool.false_eq_true, Nat.reduceLeDiff, Nat.reduceEqDiff, true_or, or_true, true_and, and_true, and_self, or_self, not_true, not_false_iff, mR_stI, mN_stI, isO_stI, isA_stI, mI_stI, mR_mW, mN_mW, isO_mW, isA_mW, mI_mW, mW_mW, stI_mW, nI_addL, nI_mulL, nI_subL, nI_ltL, nI_leL, nI_Llt, nI_Lle, nI_eqL, nI_Leq, nI_add, pk_mul, nI_ltI, nI_leI, nI_eq, vpi, nI_clamp, nI_toN, p_S_charAt, i_S_isLatin1, i_S1_charAt, pc_S_isLatin1 hv, pc_S1_charAt hp, hv, Nat.add_sub_cancel]
  exact ⟨hc.1, rfl, rfl⟩
/-! ===== the text of the bank ===== -/
def tl (f : Nat → Nat → Int32) : Nat := (f 17 2).toNatClampNeg
def TxD (f : Nat → Nat → Int32) : Prop := f 17 2 = nI (tl f) ∧ tl f ≤ 60
def e_V_nameOf : Ent := (fun av M => ∃ (r : Nat), av = [.int (nI r)] ∧ r < 2 ^ 31 ∧ (True), fun av M r_ M_ => ∀ (r : Nat), r < 2 ^ 31 → av = [.int (nI r)] → r_ = (some (.ref (if r < 3 then r + 2 else 5))) ∧ M_ = (M))
theorem pc_V_nameOf {r : Nat} {M : Mem} {K : Option Value → Mem → Prop} (hp : True) (h_r : r < 2 ^ 31) : pcall e_V_nameOf [.int (nI r)] M K = K (some (.ref (if r < 3 then r + 2 else 5))) (M) := propext ⟨fun h => h.2 _ _ (fun r' h_r' e => by simp only [List.cons.injEq, Value.ref.injEq, Value.int.injEq, Value.long.injEq, and_true] at e; have q0 := e; obtain rfl := (nI_eq h_r h_r').mp q0; exact ⟨rfl, rfl⟩), fun h => ⟨⟨r, rfl, h_r, hp⟩, fun r_ M_ q => by obtain ⟨rfl, rfl⟩ := q _ h_r rfl; exact h⟩⟩
theorem mk_V_nameOf {Z : Zt} {d : Nat} (h : ∀ (r : Nat) (M : Mem), r < 2 ^ 31 → (True) → Gm Z d s_V_nameOf [.int (nI r)] M (ex (some (.ref (if r < 3 then r + 2 else 5))) (M))) : okE Z d i_V_nameOf e_V_nameOf := by
  rintro av M ⟨r, rfl, h_r, hp⟩
  exact Gm.cons (h r M h_r hp) (fun r_ M_ q r' h_r' e => by simp only [List.cons.injEq, Value.ref.injEq, Value.int.injEq, Value.long.injEq, and_true] at e; have q0 := e; obtain rfl := (nI_eq h_r h_r').mp q0; exact q)
set_option maxRecDepth 100000 in
set_option maxHeartbeats 4000000 in
theorem ok_V_nameOf (Z : Zt) (d : Nat) : okE Z (d + 1) i_V_nameOf e_V_nameOf := mk_V_nameOf fun r M h1 hp => by
  refine Gm_run (C := []) (S := []) [some (.int (nI r))] 100 k_V_nameOf okE_nil (ex_n rfl) ?_
  simp (disch := first | trivial | assumption | omega) only [run, go, jmp, seek, inS, e0, e1, e2, e3, e4, e5, tsw, e7, e8, e9, e10, e11, e12, splitA, rcv, clook, lget, lset, lset2, lkill, Option.toList, List.nil_append, List.cons_append, wsum, List.map_cons, List.map_nil, List.sum_cons, List.sum_nil, Value.category, Nat.reduceAdd, List.getD_cons_zero, List.getD_cons_succ, ↓reduceIte, if_true, if_false, Bool.false_eq_true, Nat.reduceLeDiff, Nat.reduceEqDiff, true_or, or_true, true_and, and_true, and_self, or_self, not_true, not_false_iff, mR_stI, mN_stI, isO_stI, isA_stI, mI_stI, mR_mW, mN_mW, isO_mW, isA_mW, mI_mW, mW_mW, stI_mW, nI_addL, nI_mulL, nI_subL, nI_ltL, nI_leL, nI_Llt, nI_Lle, nI_eqL, nI_Leq, nI_add, pk_mul, nI_ltI, nI_leI, nI_eq, vpi, nI_clamp, nI_toN, p_V_nameOf]
  by_cases h0 : r = 0
  · subst h0
    simp [ex]
  · by_cases h2 : r = 1
    · subst h2
      simp [ex]
    · by_cases h3 : r = 2
      · subst h3
        simp [ex]
      · rw [if_neg h0, if_neg h2, if_neg h3, if_neg (by omega)]
        exact ⟨rfl, rfl⟩
/-- the byte at a place; the class tells NONE behind the end -/
def byF (f : Nat → Nat → Int32) (i : Nat) : Int32 := if i < tl f then f 18 i else -1000003
def e_V_byteAt : Ent := (fun av M => ∃ (o : Nat) (i : Nat), av = [.ref o, .int (nI i)] ∧ i < 2 ^ 31 ∧ (o = 17 ∧ BkS M ∧ TxD (mI M)), fun av M r_ M_ => ∀ (o : Nat) (i : Nat), i < 2 ^ 31 → av = [.ref o, .int (nI i)] → r_ = (some (.int (byF (mI M) i))) ∧ M_ = (M))
theorem pc_V_byteAt {o : Nat} {i : Nat} {M : Mem} {K : Option Value → Mem → Prop} (hp : o = 17 ∧ BkS M ∧ TxD (mI M)) (h_i : i < 2 ^ 31) : pcall e_V_byteAt [.ref o, .int (nI i)] M K = K (some (.int (byF (mI M) i))) (M) := propext ⟨fun h => h.2 _ _ (fun o' i' h_i' e => by simp only [List.cons.injEq, Value.ref.injEq, Value.int.injEq, Value.long.injEq, and_true] at e; obtain ⟨q0, q1⟩ := e; obtain rfl := q0; obtain rfl := (nI_eq h_i h_i').mp q1; exact ⟨rfl, rfl⟩), fun h => ⟨⟨o, i, rfl, h_i, hp⟩, fun r_ M_ q => by obtain ⟨rfl, rfl⟩ := q _ _ h_i rfl; exact h⟩⟩
theorem mk_V_byteAt {Z : Zt} {d : Nat} (h : ∀ (o : Nat) (i : Nat) (M : Mem), i < 2 ^ 31 → (o = 17 ∧ BkS M ∧ TxD (mI M)) → Gm Z d s_V_byteAt [.ref o, .int (nI i)] M (ex (some (.int (byF (mI M) i))) (M))) : okE Z d i_V_byteAt e_V_byteAt := by
  rintro av M ⟨o, i, rfl, h_i, hp⟩
  exact Gm.cons (h o i M h_i hp) (fun r_ M_ q o' i' h_i' e => by simp only [List.cons.injEq, Value.ref.injEq, Value.int.injEq, Value.long.injEq, and_true] at e; obtain ⟨q0, q1⟩ := e; obtain rfl := q0; obtain rfl := (nI_eq h_i h_i').mp q1; exact q)
set_option maxRecDepth 100000 in
set_option maxHeartbeats 4000000 in
theorem ok_V_byteAt (Z : Zt) (d : Nat) : okE Z (d + 1) i_V_byteAt e_V_byteAt := mk_V_byteAt fun o i M h1 hp => by
  obtain ⟨rfl, hB, hT⟩ := hp
  have hl := hT.2
  refine Gm_run (C := []) (S := []) [some (.ref 17), some (.int (nI i))] 100 k_V_byteAt okE_nil (ex_n rfl) ?_
  simp (disch := first | trivial | assumption | omega) only [run, go, jmp, seek, inS, e0, e1, e2, e3, e4, e5, tsw, e7, e8, e9, e10, e11, e12, splitA, rcv, clook, lget, lset, lset2, lkill, Option.toList, List.nil_append, List.cons_append, wsum, List.map_cons, List.map_nil, List.sum_cons, List.sum_nil, Value.category, Nat.reduceAdd, List.getD_cons_zero, List.getD_cons_succ, ↓reduceIte, if_true, if_false, Bool.false_eq_true, Nat.reduceLeDiff, Nat.reduceEqDiff, true_or, or_true, true_and, and_true, and_self, or_self, not_true, not_false_iff, mR_stI, mN_stI, isO_stI, isA_stI, mI_stI, mR_mW, mN_mW, isO_mW, isA_mW, mI_mW, mW_mW, stI_mW, nI_addL, nI_mulL, nI_subL, nI_ltL, nI_leL, nI_Llt, nI_Lle, nI_eqL, nI_Leq, nI_add, pk_mul, nI_ltI, nI_leI, nI_eq, vpi, nI_clamp, nI_toN, p_V_byteAt, bk_oV hB, bk_v0 hB, hT.1]
  by_cases h : i < tl (mI M)
  · have hA : isA M 18 (nI i) = True := bk_A hB (n := 60) rfl (by omega) (by omega) (by omega)
    simp only [hA, true_and]
    rw [if_neg (by omega), if_neg (by omega), if_neg (by omega)]
    exact ⟨by rw [byF, if_pos h], rfl⟩
  · rw [if_neg (by omega), if_pos (by omega)]
    exact ⟨by rw [byF, if_neg h], rfl⟩
def dgF (f : Nat → Nat → Int32) (i : Nat) : Prop := 48 ≤ byF f i ∧ byF f i ≤ 57
def e_V_isDigit : Ent := (fun av M => ∃ (o : Nat) (i : Nat), av = [.ref o, .int (nI i)] ∧ i < 2 ^ 31 ∧ (o = 17 ∧ BkS M ∧ TxD (mI M)), fun av M r_ M_ => ∀ (o : Nat) (i : Nat), i < 2 ^ 31 → av = [.ref o, .int (nI i)] → r_ = (some (.int (bv (dgF (mI M) i)))) ∧ M_ = (M))
theorem pc_V_isDigit {o : Nat} {i : Nat} {M : Mem} {K : Option Value → Mem → Prop} (hp : o = 17 ∧ BkS M ∧ TxD (mI M)) (h_i : i < 2 ^ 31) : pcall e_V_isDigit [.ref o, .int (nI i)] M K = K (some (.int (bv (dgF (mI M) i)))) (M) := propext ⟨fun h => h.2 _ _ (fun o' i' h_i' e => by simp only [List.cons.injEq, Value.ref.injEq, Value.int.injEq, Value.long.injEq, and_true] at e; obtain ⟨q0, q1⟩ := e; obtain rfl := q0; obtain rfl := (nI_eq h_i h_i').mp q1; exact ⟨rfl, rfl⟩), fun h => ⟨⟨o, i, rfl, h_i, hp⟩, fun r_ M_ q => by obtain ⟨rfl, rfl⟩ := q _ _ h_i rfl; exact h⟩⟩
theorem mk_V_isDigit {Z : Zt} {d : Nat} (h : ∀ (o : Nat) (i : Nat) (M : Mem), i < 2 ^ 31 → (o = 17 ∧ BkS M ∧ TxD (mI M)) → Gm Z d s_V_isDigit [.ref o, .int (nI i)] M (ex (some (.int (bv (dgF (mI M) i)))) (M))) : okE Z d i_V_isDigit e_V_isDigit := by
  rintro av M ⟨o, i, rfl, h_i, hp⟩
  exact Gm.cons (h o i M h_i hp) (fun r_ M_ q o' i' h_i' e => by simp only [List.cons.injEq, Value.ref.injEq, Value.int.injEq, Value.long.injEq, and_true] at e; obtain ⟨q0, q1⟩ := e; obtain rfl := q0; obtain rfl := (nI_eq h_i h_i').mp q1; exact q)
set_option maxRecDepth 100000 in
set_option maxHeartbeats 4000000 in
theorem ok_V_isDigit (Z : Zt) (d : Nat) : okE Z (d + 2) i_V_isDigit e_V_isDigit := mk_V_isDigit fun o i M h1 hp => by
  obtain ⟨rfl, hB, hT⟩ := hp
  refine Gm_run (C := [(i_V_byteAt, e_V_byteAt), (i_B_within, e_B_within)]) (S := []) [some (.ref 17), some (.int (nI i))] 100 k_V_isDigit (okE_cons (ok_V_byteAt Z d) (okE_cons (ok_B_within Z d) okE_nil)) (ex_n rfl) ?_
  simp (disch := first | trivial | assumption | omega) only [run, go, jmp, seek, inS, e0, e1, e2, e3, e4, e5, tsw, e7, e8, e9, e10, e11, e12, splitA, rcv, clook, lget, lset, lset2, lkill, Option.toList, List.nil_append, List.cons_append, wsum, List.map_cons, List.map_nil, List.sum_cons, List.sum_nil, Value.category, Nat.reduceAdd, List.getD_cons_zero, List.getD_cons_succ, ↓reduceIte, if_true, if_false, Bool.false_eq_true, Nat.reduceLeDiff, Nat.reduceEqDiff, true_or, or_true, true_and, and_true, and_self, or_self, not_true, not_false_iff, mR_stI, mN_stI, isO_stI, isA_stI, mI_stI, mR_mW, mN_mW, isO_mW, isA_mW, mI_mW, mW_mW, stI_mW, nI_addL, nI_mulL, nI_subL, nI_ltL, nI_leL, nI_Llt, nI_Lle, nI_eqL, nI_Leq, nI_add, pk_mul, nI_ltI, nI_leI, nI_eq, vpi, nI_clamp, nI_toN, p_V_isDigit, bk_oV hB, i_V_byteAt, i_B_within, pc_V_byteAt (o := 17) (i := i) (M := M) ⟨rfl, hB, hT⟩, pc_B_within, bv_01]
  exact ⟨rfl, rfl⟩
/-- the first place from i on whose byte is not such a one -/
def skN (P : Int32 → Bool) (t : Nat → Int32) (n : Nat) : Nat → Nat → Nat
  | 0, i => i
  | k + 1, i => if i < n ∧ P (t i) = true then skN P t n k (i + 1) else i
def skF (P : Int32 → Bool) (t : Nat → Int32) (n i : Nat) : Nat := skN P t n (n - i) i
theorem skF_s {P : Int32 → Bool} {t : Nat → Int32} {n i : Nat} (h : i < n) (h2 : P (t i) = true) : skF P t n i = skF P t n (i + 1) := by
  unfold skF
  rw [show n - i = (n - (i + 1)) + 1 by omega, skN, if_pos ⟨h, h2⟩]
theorem skF_e {P : Int32 → Bool} {t : Nat → Int32} {n i : Nat} (h : ¬ (i < n ∧ P (t i) = true)) : skF P t n i = i := by
  unfold skF
  cases hk : n - i with
  | zero => rfl
  | succ k => rw [skN, if_neg h]
theorem skF_le {P : Int32 → Bool} {t : Nat → Int32} {n : Nat} : ∀ k i, n - i = k → i ≤ skF P t n i ∧ (i ≤ n → skF P t n i ≤ n) := by
  intro k
  induction k with
  | zero => intro i h; rw [skF_e (by omega)]; exact ⟨Nat.le_refl _, id⟩
  | succ k ih =>
    intro i h
    by_cases q : i < n ∧ P (t i) = true
    · rw [skF_s q.1 q.2]
      have := ih (i + 1) (by omega)
      exact ⟨by omega, fun z => this.2 (by omega)⟩
    · rw [skF_e q]
      exact ⟨Nat.le_refl _, id⟩
theorem skF_a {P : Int32 → Bool} {t : Nat → Int32} {n i : Nat} : i ≤ skF P t n i := (skF_le _ i rfl).1
theorem skF_b {P : Int32 → Bool} {t : Nat → Int32} {n i : Nat} (h : i ≤ n) : skF P t n i ≤ n := (skF_le _ i rfl).2 h
def isB_ : Int32 → Bool := fun x => decide (x = 32)
def isL_ : Int32 → Bool := fun x => decide (97 ≤ x ∧ x ≤ 122)
def abF (f : Nat → Nat → Int32) (i : Nat) : Nat := skF isB_ (f 18) (tl f) i
def alF (f : Nat → Nat → Int32) (i : Nat) : Nat := skF isL_ (f 18) (tl f) i
def e_V_afterBlanks : Ent := (fun av M => ∃ (o : Nat) (i : Nat), av = [.ref o, .int (nI i)] ∧ i < 2 ^ 31 ∧ (o = 17 ∧ BkS M ∧ TxD (mI M) ∧ i < 1000), fun av M r_ M_ => ∀ (o : Nat) (i : Nat), i < 2 ^ 31 → av = [.ref o, .int (nI i)] → r_ = (some (.int (nI (abF (mI M) i)))) ∧ M_ = (M))
theorem pc_V_afterBlanks {o : Nat} {i : Nat} {M : Mem} {K : Option Value → Mem → Prop} (hp : o = 17 ∧ BkS M ∧ TxD (mI M) ∧ i < 1000) (h_i : i < 2 ^ 31) : pcall e_V_afterBlanks [.ref o, .int (nI i)] M K = K (some (.int (nI (abF (mI M) i)))) (M) := propext ⟨fun h => h.2 _ _ (fun o' i' h_i' e => by simp only [List.cons.injEq, Value.ref.injEq, Value.int.injEq, Value.long.injEq, and_true] at e; obtain ⟨q0, q1⟩ := e; obtain rfl := q0; obtain rfl := (nI_eq h_i h_i').mp q1; exact ⟨rfl, rfl⟩), fun h => ⟨⟨o, i, rfl, h_i, hp⟩, fun r_ M_ q => by obtain ⟨rfl, rfl⟩ := q _ _ h_i rfl; exact h⟩⟩
theorem mk_V_afterBlanks {Z : Zt} {d : Nat} (h : ∀ (o : Nat) (i : Nat) (M : Mem), i < 2 ^ 31 → (o = 17 ∧ BkS M ∧ TxD (mI M) ∧ i < 1000) → Gm Z d s_V_afterBlanks [.ref o, .int (nI i)] M (ex (some (.int (nI (abF (mI M) i)))) (M))) : okE Z d i_V_afterBlanks e_V_afterBlanks := by
  rintro av M ⟨o, i, rfl, h_i, hp⟩
  exact Gm.cons (h o i M h_i hp) (fun r_ M_ q o' i' h_i' e => by simp only [List.cons.injEq, Value.ref.injEq, Value.int.injEq, Value.long.injEq, and_true] at e; obtain ⟨q0, q1⟩ := e; obtain rfl := q0; obtain rfl := (nI_eq h_i h_i').mp q1; exact q)
set_option maxRecDepth 100000 in
set_option maxHeartbeats 4000000 in
theorem lp_V_afterBlanks (Z : Zt) (d : Nat) {M : Mem} {w : Int32} (hB : BkS M) (hT : TxD (mI M)) : ∀ n i, tl (mI M) - i = n → i < 2000 → X Z (d + 2) s_V_afterBlanks (mN M) (mN M) (ex (some (.int (nI (abF (mI M) i)))) M) 2 [some (.ref 17), some (.int w), some (.int (nI i))] [] M := by
  have hl := hT.2
  intro n
  induction n with
  | zero =>
    intro i hi h2
    refine X_run (C := []) (S := [2]) 100 k_V_afterBlanks okE_nil ?_
    simp (disch := first | trivial | assumption | omega) only [run, go, jmp, seek, inS, e0, e1, e2, e3, e4, e5, tsw, e7, e8, e9, e10, e11, e12, splitA, rcv, clook, lget, lset, lset2, lkill, Option.toList, List.nil_append, List.cons_append, wsum, List.map_cons, List.map_nil, List.sum_cons, List.sum_nil, Value.category, Nat.reduceAdd, List.getD_cons_zero, List.getD_cons_succ, ↓reduceIte, if_true, if_false, Bool.false_eq_true, Nat.reduceLeDiff, Nat.reduceEqDiff, true_or, or_true, true_and, and_true, and_self, or_self, not_true, not_false_iff, mR_stI, mN_stI, isO_stI, isA_stI, mI_stI, mR_mW, mN_mW, isO_mW, isA_mW, mI_mW, mW_mW, stI_mW, nI_addL, nI_mulL, nI_subL, nI_ltL, nI_leL, nI_Llt, nI_Lle, nI_eqL, nI_Leq, nI_add, pk_mul, nI_ltI, nI_leI, nI_eq, vpi, nI_clamp, nI_toN, p_V_afterBlanks, bk_oV hB, hT.1]
    rw [if_pos (by omega), abF, skF_e (by omega)]
    exact ⟨rfl, rfl⟩
  | succ n ih =>
    intro i hi h2
    refine X_run (C := [(i_V_byteAt, e_V_byteAt)]) (S := [2]) 100 k_V_afterBlanks (okE_cons (ok_V_byteAt Z d) okE_nil) ?_
    simp (disch := first | trivial | assumption | omega) only [run, go, jmp, seek, inS, e0, e1, e2, e3, e4, e5, tsw, e7, e8, e9, e10, e11, e12, splitA, rcv, clook, lget, lset, lset2, lkill, Option.toList, List.nil_append, List.cons_append, wsum, List.map_cons, List.map_nil, List.sum_cons, List.sum_nil, Value.category, Nat.reduceAdd, List.getD_cons_zero, List.getD_cons_succ, ↓reduceIte, if_true, if_false, Bool.false_eq_true, Nat.reduceLeDiff, Nat.reduceEqDiff, true_or, or_true, true_and, and_true, and_self, or_self, not_true, not_false_iff, mR_stI, mN_stI, isO_stI, isA_stI, mI_stI, mR_mW, mN_mW, isO_mW, isA_mW, mI_mW, mW_mW, stI_mW, nI_addL, nI_mulL, nI_subL, nI_ltL, nI_leL, nI_Llt, nI_Lle, nI_eqL, nI_Leq, nI_add, pk_mul, nI_ltI, nI_leI, nI_eq, vpi, nI_clamp, nI_toN, p_V_afterBlanks, bk_oV hB, hT.1, i_V_byteAt, pc_V_byteAt (o := 17) (i := i) (M := M) ⟨rfl, hB, hT⟩]
    rw [if_neg (show ¬ tl (mI M) ≤ i by omega), byF, if_pos (show i < tl (mI M) by omega)]
    split
    · next h =>
      have e : abF (mI M) i = abF (mI M) (i + 1) := skF_s (by omega) (decide_eq_true h)
      rw [e]
      exact ih (i + 1) (by omega) (by omega)
    · next h =>
      rw [abF, skF_e (fun q => h (of_decide_eq_true q.2))]
      exact ⟨rfl, rfl⟩
set_option maxRecDepth 100000 in
set_option maxHeartbeats 4000000 in
theorem ok_V_afterBlanks (Z : Zt) (d : Nat) : okE Z (d + 2) i_V_afterBlanks e_V_afterBlanks := mk_V_afterBlanks fun o i M h1 hp => by
  obtain ⟨rfl, hB, hT, hi⟩ := hp
  refine Gm_run (C := []) (S := [2]) [some (.ref 17), some (.int (nI i)), none] 100 k_V_afterBlanks okE_nil (ex_n rfl) ?_
  simp (disch := first | trivial | assumption | omega) only [run, go, jmp, seek, inS, e0, e1, e2, e3, e4, e5, tsw, e7, e8, e9, e10, e11, e12, splitA, rcv, clook, lget, lset, lset2, lkill, Option.toList, List.nil_append, List.cons_append, wsum, List.map_cons, List.map_nil, List.sum_cons, List.sum_nil, Value.category, Nat.reduceAdd, List.getD_cons_zero, List.getD_cons_succ, ↓reduceIte, if_true, if_false, Bool.false_eq_true, Nat.reduceLeDiff, Nat.reduceEqDiff, true_or, or_true, true_and, and_true, and_self, or_self, not_true, not_false_iff, mR_stI, mN_stI, isO_stI, isA_stI, mI_stI, mR_mW, mN_mW, isO_mW, isA_mW, mI_mW, mW_mW, stI_mW, nI_addL, nI_mulL, nI_subL, nI_ltL, nI_leL, nI_Llt, nI_Lle, nI_eqL, nI_Leq, nI_add, pk_mul, nI_ltI, nI_leI, nI_eq, vpi, nI_clamp, nI_toN, p_V_afterBlanks]
  exact lp_V_afterBlanks Z d hB hT _ i rfl (by omega)
def e_V_afterLetters : Ent := (fun av M => ∃ (o : Nat) (i : Nat), av = [.ref o, .int (nI i)] ∧ i < 2 ^ 31 ∧ (o = 17 ∧ BkS M ∧ TxD (mI M) ∧ i < 1000), fun av M r_ M_ => ∀ (o : Nat) (i : Nat), i < 2 ^ 31 → av = [.ref o, .int (nI i)] → r_ = (some (.int (nI (alF (mI M) i)))) ∧ M_ = (M))
theorem pc_V_afterLetters {o : Nat} {i : Nat} {M : Mem} {K : Option Value → Mem → Prop} (hp : o = 17 ∧ BkS M ∧ TxD (mI M) ∧ i < 1000) (h_i : i < 2 ^ 31) : pcall e_V_afterLetters [.ref o, .int (nI i)] M K = K (some (.int (nI (alF (mI M) i)))) (M) := propext ⟨fun h => h.2 _ _ (fun o' i' h_i' e => by simp only [List.cons.injEq, Value.ref.injEq, Value.int.injEq, Value.long.injEq, and_true] at e; obtain ⟨q0, q1⟩ := e; obtain rfl := q0; obtain rfl := (nI_eq h_i h_i').mp q1; exact ⟨rfl, rfl⟩), fun h => ⟨⟨o, i, rfl, h_i, hp⟩, fun r_ M_ q => by obtain ⟨rfl, rfl⟩ := q _ _ h_i rfl; exact h⟩⟩
theorem mk_V_afterLetters {Z : Zt} {d : Nat} (h : ∀ (o : Nat) (i : Nat) (M : Mem), i < 2 ^ 31 → (o = 17 ∧ BkS M ∧ TxD (mI M) ∧ i < 1000) → Gm Z d s_V_afterLetters [.ref o, .int (nI i)] M (ex (some (.int (nI (alF (mI M) i)))) (M))) : okE Z d i_V_afterLetters e_V_afterLetters := by
  rintro av M ⟨o, i, rfl, h_i, hp⟩
  exact Gm.cons (h o i M h_i hp) (fun r_ M_ q o' i' h_i' e => by simp only [List.cons.injEq, Value.ref.injEq, Value.int.injEq, Value.long.injEq, and_true] at e; obtain ⟨q0, q1⟩ := e; obtain rfl := q0; obtain rfl := (nI_eq h_i h_i').mp q1; exact q)
set_option maxRecDepth 100000 in
set_option maxHeartbeats 4000000 in
theorem lp_V_afterLetters (Z : Zt) (d : Nat) {M : Mem} {w : Int32} (hB : BkS M) (hT : TxD (mI M)) : ∀ n i, tl (mI M) - i = n → i < 2000 → X Z (d + 2) s_V_afterLetters (mN M) (mN M) (ex (some (.int (nI (alF (mI M) i)))) M) 2 [some (.ref 17), some (.int w), some (.int (nI i))] [] M := by
  have hl := hT.2
  intro n
  induction n with
  | zero =>
    intro i hi h2
    refine X_run (C := []) (S := [2]) 100 k_V_afterLetters okE_nil ?_
    simp (disch := first | trivial | assumption | omega) only [run, go, jmp, seek, inS, e0, e1, e2, e3, e4, e5, tsw, e7, e8, e9, e10, e11, e12, splitA, rcv, clook, lget, lset, lset2, lkill, Option.toList, List.nil_append, List.cons_append, wsum, List.map_cons, List.map_nil, List.sum_cons, List.sum_nil, Value.category, Nat.reduceAdd, List.getD_cons_zero, List.getD_cons_succ, ↓reduceIte, if_true, if_false, Bool.false_eq_true, Nat.reduceLeDiff, Nat.reduceEqDiff, true_or, or_true, true_and, and_true, and_self, or_self, not_true, not_false_iff, mR_stI, mN_stI, isO_stI, isA_stI, mI_stI, mR_mW, mN_mW, isO_mW, isA_mW, mI_mW, mW_mW, stI_mW, nI_addL, nI_mulL, nI_subL, nI_ltL, nI_leL, nI_Llt, nI_Lle, nI_eqL, nI_Leq, nI_add, pk_mul, nI_ltI, nI_leI, nI_eq, vpi, nI_clamp, nI_toN, p_V_afterLetters, bk_oV hB, hT.1]
    rw [if_pos (by omega), alF, skF_e (by omega)]
    exact ⟨rfl, rfl⟩
  | succ n ih =>
    intro i hi h2
    refine X_run (C := [(i_V_byteAt, e_V_byteAt), (i_B_within, e_B_within)]) (S := [2]) 100 k_V_afterLetters (okE_cons (ok_V_byteAt Z d) (okE_cons (ok_B_within Z d) okE_nil)) ?_
    simp (disch := first | trivial | assumption | omega) only [run, go, jmp, seek, inS, e0, e1, e2, e3, e4, e5, tsw, e7, e8, e9, e10, e11, e12, splitA, rcv, clook, lget, lset, lset2, lkill, Option.toList, List.nil_append, List.cons_append, wsum, List.map_cons, List.map_nil, List.sum_cons, List.sum_nil, Value.category, Nat.reduceAdd, List.getD_cons_zero, List.getD_cons_succ, ↓reduceIte, if_true, if_false, Bool.false_eq_true, Nat.reduceLeDiff, Nat.reduceEqDiff, true_or, or_true, true_and, and_true, and_self, or_self, not_true, not_false_iff, mR_stI, mN_stI, isO_stI, isA_stI, mI_stI, mR_mW, mN_mW, isO_mW, isA_mW, mI_mW, mW_mW, stI_mW, nI_addL, nI_mulL, nI_subL, nI_ltL, nI_leL, nI_Llt, nI_Lle, nI_eqL, nI_Leq, nI_add, pk_mul, nI_ltI, nI_leI, nI_eq, vpi, nI_clamp, nI_toN, p_V_afterLetters, bk_oV hB, hT.1, i_V_byteAt, pc_V_byteAt (o := 17) (i := i) (M := M) ⟨rfl, hB, hT⟩, i_B_within, pc_B_within, bv_0]
    have hb : byF (mI M) i = mI M 18 i := if_pos (show i < tl (mI M) by omega)
    rw [if_neg (show ¬ tl (mI M) ≤ i by omega), hb]
    by_cases h : 97 ≤ mI M 18 i ∧ mI M 18 i ≤ 122
    · rw [if_neg (fun q => q h)]
      have e : alF (mI M) i = alF (mI M) (i + 1) := skF_s (by omega) (decide_eq_true h)
      rw [e]
      exact ih (i + 1) (by omega) (by omega)
    · rw [if_pos h, alF, skF_e (fun q => h (of_decide_eq_true q.2))]
      exact ⟨rfl, rfl⟩
set_option maxRecDepth 100000 in
set_option maxHeartbeats 4000000 in
theorem ok_V_afterLetters (Z : Zt) (d : Nat) : okE Z (d + 2) i_V_afterLetters e_V_afterLetters := mk_V_afterLetters fun o i M h1 hp => by
  obtain ⟨rfl, hB, hT, hi⟩ := hp
  refine Gm_run (C := []) (S := [2]) [some (.ref 17), some (.int (nI i)), none] 100 k_V_afterLetters okE_nil (ex_n rfl) ?_
  simp (disch := first | trivial | assumption | omega) only [run, go, jmp, seek, inS, e0, e1, e2, e3, e4, e5, tsw, e7, e8, e9, e10, e11, e12, splitA, rcv, clook, lget, lset, lset2, lkill, Option.toList, List.nil_append, List.cons_append, wsum, List.map_cons, List.map_nil, List.sum_cons, List.sum_nil, Value.category, Nat.reduceAdd, List.getD_cons_zero, List.getD_cons_succ, ↓reduceIte, if_true, if_false, Bool.false_eq_true, Nat.reduceLeDiff, Nat.reduceEqDiff, true_or, or_true, true_and, and_true, and_self, or_self, not_true, not_false_iff, mR_stI, mN_stI, isO_stI, isA_stI, mI_stI, mR_mW, mN_mW, isO_mW, isA_mW, mI_mW, mW_mW, stI_mW, nI_addL, nI_mulL, nI_subL, nI_ltL, nI_leL, nI_Llt, nI_Lle, nI_eqL, nI_Leq, nI_add, pk_mul, nI_ltI, nI_leI, nI_eq, vpi, nI_clamp, nI_toN, p_V_afterLetters]
  exact lp_V_afterLetters Z d hB hT _ i rfl (by omega)
/-- the number that the bytes from i on are, k of them -/
def nuF (f : Nat → Nat → Int32) : Nat → Nat → Int32 → Int32
  | 0, _, a => a
  | k + 1, i, a => nuF f k (i + 1) (10 * a + byF f i - 48)
def e_V_numberBetween : Ent := (fun av M => ∃ (o : Nat) (a : Nat) (e : Nat), av = [.ref o, .int (nI a), .int (nI e)] ∧ a < 2 ^ 31 ∧ e < 2 ^ 31 ∧ (o = 17 ∧ BkS M ∧ TxD (mI M) ∧ a ≤ e ∧ e < 1000), fun av M r_ M_ => ∀ (o : Nat) (a : Nat) (e : Nat), a < 2 ^ 31 → e < 2 ^ 31 → av = [.ref o, .int (nI a), .int (nI e)] → r_ = (some (.int (nuF (mI M) (e - a) a 0))) ∧ M_ = (M))
theorem pc_V_numberBetween {o : Nat} {a : Nat} {e : Nat} {M : Mem} {K : Option Value → Mem → Prop} (hp : o = 17 ∧ BkS M ∧ TxD (mI M) ∧ a ≤ e ∧ e < 1000) (h_a : a < 2 ^ 31) (h_e : e < 2 ^ 31) : pcall e_V_numberBetween [.ref o, .int (nI a), .int (nI e)] M K = K (some (.int (nuF (mI M) (e - a) a 0))) (M) := propext ⟨fun h => h.2 _ _ (fun o' a' e' h_a' h_e' e => by simp only [List.cons.injEq, Value.ref.injEq, Value.int.injEq, Value.long.injEq, and_true] at e; obtain ⟨q0, q1, q2⟩ := e; obtain rfl := q0; obtain rfl := (nI_eq h_a h_a').mp q1; obtain rfl := (nI_eq h_e h_e').mp q2; exact ⟨rfl, rfl⟩), fun h => ⟨⟨o, a, e, rfl, h_a, h_e, hp⟩, fun r_ M_ q => by obtain ⟨rfl, rfl⟩ := q _ _ _ h_a h_e rfl; exact h⟩⟩
theorem mk_V_numberBetween {Z : Zt} {d : Nat} (h : ∀ (o : Nat) (a : Nat) (e : Nat) (M : Mem), a < 2 ^ 31 → e < 2 ^ 31 → (o = 17 ∧ BkS M ∧ TxD (mI M) ∧ a ≤ e ∧ e < 1000) → Gm Z d s_V_numberBetween [.ref o, .int (nI a), .int (nI e)] M (ex (some (.int (nuF (mI M) (e - a) a 0))) (M))) : okE Z d i_V_numberBetween e_V_numberBetween := by
  rintro av M ⟨o, a, e, rfl, h_a, h_e, hp⟩
  exact Gm.cons (h o a e M h_a h_e hp) (fun r_ M_ q o' a' e' h_a' h_e' e => by simp only [List.cons.injEq, Value.ref.injEq, Value.int.injEq, Value.long.injEq, and_true] at e; obtain ⟨q0, q1, q2⟩ := e; obtain rfl := q0; obtain rfl := (nI_eq h_a h_a').mp q1; obtain rfl := (nI_eq h_e h_e').mp q2; exact q)
set_option maxRecDepth 100000 in
set_option maxHeartbeats 4000000 in
theorem lp_V_numberBetween (Z : Zt) (d : Nat) {M : Mem} {w : Int32} {e : Nat} (hB : BkS M) (hT : TxD (mI M)) (he : e < 1000) : ∀ n i a, i + n = e → X Z (d + 2) s_V_numberBetween (mN M) (mN M) (ex (some (.int (nuF (mI M) n i a))) M) 5 [some (.ref 17), some (.int w), some (.int (nI e)), some (.int a), some (.int (nI i))] [] M := by
  intro n
  induction n with
  | zero =>
    intro i a hi
    refine X_run (C := []) (S := [5]) 100 k_V_numberBetween okE_nil ?_
    simp (disch := first | trivial | assumption | omega) only [run, go, jmp, seek, inS, e0, e1, e2, e3, e4, e5, tsw, e7, e8, e9, e10, e11, e12, splitA, rcv, clook, lget, lset, lset2, lkill, Option.toList, List.nil_append, List.cons_append, wsum, List.map_cons, List.map_nil, List.sum_cons, List.sum_nil, Value.category, Nat.reduceAdd, List.getD_cons_zero, List.getD_cons_succ, ↓reduceIte, if_true, if_false, Bool.false_eq_true, Nat.reduceLeDiff, Nat.reduceEqDiff, true_or, or_true, true_and, and_true, and_self, or_self, not_true, not_false_iff, mR_stI, mN_stI, isO_stI, isA_stI, mI_stI, mR_mW, mN_mW, isO_mW, isA_mW, mI_mW, mW_mW, stI_mW, nI_addL, nI_mulL, nI_subL, nI_ltL, nI_leL, nI_Llt, nI_Lle, nI_eqL, nI_Leq, nI_add, pk_mul, nI_ltI, nI_leI, nI_eq, vpi, nI_clamp, nI_toN, p_V_numberBetween]
    rw [if_pos (by omega)]
    exact ⟨rfl, rfl⟩
  | succ n ih =>
    intro i a hi
    refine X_run (C := [(i_V_byteAt, e_V_byteAt)]) (S := [5]) 100 k_V_numberBetween (okE_cons (ok_V_byteAt Z d) okE_nil) ?_
    simp (disch := first | trivial | assumption | omega) only [run, go, jmp, seek, inS, e0, e1, e2, e3, e4, e5, tsw, e7, e8, e9, e10, e11, e12, splitA, rcv, clook, lget, lset, lset2, lkill, Option.toList, List.nil_append, List.cons_append, wsum, List.map_cons, List.map_nil, List.sum_cons, List.sum_nil, Value.category, Nat.reduceAdd, List.getD_cons_zero, List.getD_cons_succ, ↓reduceIte, if_true, if_false, Bool.false_eq_true, Nat.reduceLeDiff, Nat.reduceEqDiff, true_or, or_true, true_and, and_true, and_self, or_self, not_true, not_false_iff, mR_stI, mN_stI, isO_stI, isA_stI, mI_stI, mR_mW, mN_mW, isO_mW, isA_mW, mI_mW, mW_mW, stI_mW, nI_addL, nI_mulL, nI_subL, nI_ltL, nI_leL, nI_Llt, nI_Lle, nI_eqL, nI_Leq, nI_add, pk_mul, nI_ltI, nI_leI, nI_eq, vpi, nI_clamp, nI_toN, p_V_numberBetween, bk_oV hB, i_V_byteAt, pc_V_byteAt (o := 17) (i := i) (M := M) ⟨rfl, hB, hT⟩]
    rw [if_neg (by omega)]
    exact ih (i + 1) _ (by omega)
set_option maxRecDepth 100000 in
set_option maxHeartbeats 4000000 in
theorem ok_V_numberBetween (Z : Zt) (d : Nat) : okE Z (d + 2) i_V_numberBetween e_V_numberBetween := mk_V_numberBetween fun o a e M h1 h2 hp => by
  obtain ⟨rfl, hB, hT, ha, he⟩ := hp
  refine Gm_run (C := []) (S := [5]) [some (.ref 17), some (.int (nI a)), some (.int (nI e)), none, none] 100 k_V_numberBetween okE_nil (ex_n rfl) ?_
  simp (disch := first | trivial | assumption | omega) only [run, go, jmp, seek, inS, e0, e1, e2, e3, e4, e5, tsw, e7, e8, e9, e10, e11, e12, splitA, rcv, clook, lget, lset, lset2, lkill, Option.toList, List.nil_append, List.cons_append, wsum, List.map_cons, List.map_nil, List.sum_cons, List.sum_nil, Value.category, Nat.reduceAdd, List.getD_cons_zero, List.getD_cons_succ, ↓reduceIte, if_true, if_false, Bool.false_eq_true, Nat.reduceLeDiff, Nat.reduceEqDiff, true_or, or_true, true_and, and_true, and_self, or_self, not_true, not_false_iff, mR_stI, mN_stI, isO_stI, isA_stI, mI_stI, mR_mW, mN_mW, isO_mW, isA_mW, mI_mW, mW_mW, stI_mW, nI_addL, nI_mulL, nI_subL, nI_ltL, nI_leL, nI_Llt, nI_Lle, nI_eqL, nI_Leq, nI_add, pk_mul, nI_ltI, nI_leI, nI_eq, vpi, nI_clamp, nI_toN, p_V_numberBetween]
  exact lp_V_numberBetween Z d hB hT he _ a 0 (by omega)
end
section
theorem bv_n0 {p : Prop} (h : p) : ¬ bv p = 0 := by rw [bv_T h]; decide
/-- whether the bytes from a to e are the text s -/
def isW (f : Nat → Nat → Int32) (s a e : Nat) : Prop := e - a = slen s ∧ ∀ i, i < slen s → byF f (a + i) = chF s i
def e_V_isBetween : Ent := (fun av M => ∃ (o : Nat) (s : Nat) (a : Nat) (e : Nat), av = [.ref o, .ref s, .int (nI a), .int (nI e)] ∧ a < 2 ^ 31 ∧ e < 2 ^ 31 ∧ (o = 17 ∧ BkS M ∧ TxD (mI M) ∧ (2 ≤ s ∧ s < 6) ∧ a ≤ e ∧ e < 1000), fun av M r_ M_ => ∀ (o : Nat) (s : Nat) (a : Nat) (e : Nat), a < 2 ^ 31 → e < 2 ^ 31 → av = [.ref o, .ref s, .int (nI a), .int (nI e)] → r_ = (some (.int (bv (isW (mI M) s a e)))) ∧ M_ = (M))
theorem pc_V_isBetween {o : Nat} {s : Nat} {a : Nat} {e : Nat} {M : Mem} {K : Option Value → Mem → Prop} (hp : o = 17 ∧ BkS M ∧ TxD (mI M) ∧ (2 ≤ s ∧ s < 6) ∧ a ≤ e ∧ e < 1000) (h_a : a < 2 ^ 31) (h_e : e < 2 ^ 31) : pcall e_V_isBetween [.ref o, .ref s, .int (nI a), .int (nI e)] M K = K (some (.int (bv (isW (mI M) s a e)))) (M) := propext ⟨fun h => h.2 _ _ (fun o' s' a' e' h_a' h_e' e => by simp only [List.cons.injEq, Value.ref.injEq, Value.int.injEq, Value.long.injEq, and_true] at e; obtain ⟨q0, q1, q2, q3⟩ := e; obtain rfl := q0; obtain rfl := q1; obtain rfl := (nI_eq h_a h_a').mp q2; obtain rfl := (nI_eq h_e h_e').mp q3; exact ⟨rfl, rfl⟩), fun h => ⟨⟨o, s, a, e, rfl, h_a, h_e, hp⟩, fun r_ M_ q => by obtain ⟨rfl, rfl⟩ := q _ _ _ _ h_a h_e rfl; exact h⟩⟩
theorem mk_V_isBetween {Z : Zt} {d : Nat} (h : ∀ (o : Nat) (s : Nat) (a : Nat) (e : Nat) (M : Mem), a < 2 ^ 31 → e < 2 ^ 31 → (o = 17 ∧ BkS M ∧ TxD (mI M) ∧ (2 ≤ s ∧ s < 6) ∧ a ≤ e ∧ e < 1000) → Gm Z d s_V_isBetween [.ref o, .ref s, .int (nI a), .int (nI e)] M (ex (some (.int (bv (isW (mI M) s a e)))) (M))) : okE Z d i_V_isBetween e_V_isBetween := by
  rintro av M ⟨o, s, a, e, rfl, h_a, h_e, hp⟩
  exact Gm.cons (h o s a e M h_a h_e hp) (fun r_ M_ q o' s' a' e' h_a' h_e' e => by simp only [List.cons.injEq, Value.ref.injEq, Value.int.injEq, Value.long.injEq, and_true] at e; obtain ⟨q0, q1, q2, q3⟩ := e; obtain rfl := q0; obtain rfl := q1; obtain rfl := (nI_eq h_a h_a').mp q2; obtain rfl := (nI_eq h_e h_e').mp q3; exact q)
set_option maxRecDepth 100000 in
set_option maxHeartbeats 4000000 in
theorem lp_V_isBetween (Z : Zt) (d : Nat) {M : Mem} {s a e : Nat} (hB : BkS M) (hT : TxD (mI M)) (hs : 2 ≤ s ∧ s < 6) (hx : e - a = slen s) (ha : a ≤ e) (he : e < 1000) : ∀ n i, i + n = slen s → (∀ j, j < i → byF (mI M) (a + j) = chF s j) → X Z (d + 5) s_V_isBetween (mN M) (mN M) (ex (some (.int (bv (isW (mI M) s a e)))) M) 15 [some (.ref 17), some (.ref s), some (.int (nI a)), some (.int (nI e)), some (.int (nI i))] [] M := by
  have h4 := slen_4 hs
  intro n
  induction n with
  | zero =>
    intro i hi hj
    refine X_run (C := [(i_S_length, e_S_length)]) (S := [15]) 100 k_V_isBetween (okE_cons (ok_S_length Z (d + 2)) okE_nil) ?_
    simp (disch := first | trivial | assumption | omega) only [run, go, jmp, seek, inS, e0, e1, e2, e3, e4, e5, tsw, e7, e8, e9, e10, e11, e12, splitA, rcv, clook, lget, lset, lset2, lkill, Option.toList, List.nil_append, List.cons_append, wsum, List.map_cons, List.map_nil, List.sum_cons, List.sum_nil, Value.category, Nat.reduceAdd, List.getD_cons_zero, List.getD_cons_succ, ↓reduceIte, if_true, if_false, Bool.false_eq_true, Nat.reduceLeDiff, Nat.reduceEqDiff, true_or, or_true, true_and, and_true, and_self, or_self, not_true, not_false_iff, mR_stI, mN_stI, isO_stI, isA_stI, mI_stI, mR_mW, mN_mW, isO_mW, isA_mW, mI_mW, mW_mW, stI_mW, nI_addL, nI_mulL, nI_subL, nI_ltL, nI_leL, nI_Llt, nI_Lle, nI_eqL, nI_Leq, nI_add, pk_mul, nI_ltI, nI_leI, nI_eq, vpi, nI_clamp, nI_toN, p_V_isBetween, hs, i_S_length, pc_S_length]
    rw [if_pos (by omega)]
    exact ⟨by rw [bv_T ⟨hx, fun j q => hj j (by omega)⟩], rfl⟩
  | succ n ih =>
    intro i hi hj
    refine X_run (C := [(i_S_length, e_S_length), (i_V_byteAt, e_V_byteAt), (i_S_charAt, e_S_charAt)]) (S := [15]) 100 k_V_isBetween (okE_cons (ok_S_length Z (d + 2)) (okE_cons (ok_V_byteAt Z (d + 3)) (okE_cons (ok_S_charAt Z d) okE_nil))) ?_
    simp (disch := first | trivial | assumption | omega) only [run, go, jmp, seek, inS, e0, e1, e2, e3, e4, e5, tsw, e7, e8, e9, e10, e11, e12, splitA, rcv, clook, lget, lset, lset2, lkill, Option.toList, List.nil_append, List.cons_append, wsum, List.map_cons, List.map_nil, List.sum_cons, List.sum_nil, Value.category, Nat.reduceAdd, List.getD_cons_zero, List.getD_cons_succ, ↓reduceIte, if_true, if_false, Bool.false_eq_true, Nat.reduceLeDiff, Nat.reduceEqDiff, true_or, or_true, true_and, and_true, and_self, or_self, not_true, not_false_iff, mR_stI, mN_stI, isO_stI, isA_stI, mI_stI, mR_mW, mN_mW, isO_mW, isA_mW, mI_mW, mW_mW, stI_mW, nI_addL, nI_mulL, nI_subL, nI_ltL, nI_leL, nI_Llt, nI_Lle, nI_eqL, nI_Leq, nI_add, pk_mul, nI_ltI, nI_leI, nI_eq, vpi, nI_clamp, nI_toN, p_V_isBetween, hs, bk_oV hB, i_S_length, pc_S_length, i_V_byteAt, pc_V_byteAt (o := 17) (i := a + i) (M := M) ⟨rfl, hB, hT⟩, i_S_charAt, pc_S_charAt (s := s) (i := i) (M := M) ⟨hs, by omega⟩]
    rw [if_neg (show ¬ slen s ≤ i by omega)]
    by_cases h : byF (mI M) (a + i) = chF s i
    · rw [if_pos h]
      refine ih (i + 1) (by omega) fun j q => ?_
      by_cases z : j = i
      · rw [z]; exact h
      · exact hj j (by omega)
    · rw [if_neg h]
      exact ⟨by rw [bv_F (fun q => h (q.2 i (by omega)))], rfl⟩
set_option maxRecDepth 100000 in
set_option maxHeartbeats 4000000 in
theorem ok_V_isBetween (Z : Zt) (d : Nat) : okE Z (d + 5) i_V_isBetween e_V_isBetween := mk_V_isBetween fun o s a e M h1 h2 hp => by
  obtain ⟨rfl, hB, hT, hs, ha, he⟩ := hp
  have h4 := slen_4 hs
  refine Gm_run (C := [(i_S_length, e_S_length)]) (S := [15]) [some (.ref 17), some (.ref s), some (.int (nI a)), some (.int (nI e)), none] 100 k_V_isBetween (okE_cons (ok_S_length Z (d + 2)) okE_nil) (ex_n rfl) ?_
  simp (disch := first | trivial | assumption | omega) only [run, go, jmp, seek, inS, e0, e1, e2, e3, e4, e5, tsw, e7, e8, e9, e10, e11, e12, splitA, rcv, clook, lget, lset, lset2, lkill, Option.toList, List.nil_append, List.cons_append, wsum, List.map_cons, List.map_nil, List.sum_cons, List.sum_nil, Value.category, Nat.reduceAdd, List.getD_cons_zero, List.getD_cons_succ, ↓reduceIte, if_true, if_false, Bool.false_eq_true, Nat.reduceLeDiff, Nat.reduceEqDiff, true_or, or_true, true_and, and_true, and_self, or_self, not_true, not_false_iff, mR_stI, mN_stI, isO_stI, isA_stI, mI_stI, mR_mW, mN_mW, isO_mW, isA_mW, mI_mW, mW_mW, stI_mW, nI_addL, nI_mulL, nI_subL, nI_ltL, nI_leL, nI_Llt, nI_Lle, nI_eqL, nI_Leq, nI_add, pk_mul, nI_ltI, nI_leI, nI_eq, vpi, nI_clamp, nI_toN, p_V_isBetween, hs, i_S_length, pc_S_length, pk_sub]
  by_cases h : e - a = slen s
  · rw [if_pos h]
    exact lp_V_isBetween Z d hB hT hs h ha he (slen s) 0 (by omega) (fun j q => absurd q (by omega))
  · rw [if_neg h]
    exact ⟨by rw [bv_F (fun q => h q.1)], rfl⟩
noncomputable def nmN (f : Nat → Nat → Int32) (a e : Nat) : Nat := @ite _ (isW f 2 a e) (Classical.propDecidable _) 0 (@ite _ (isW f 3 a e) (Classical.propDecidable _) 1 (@ite _ (isW f 4 a e) (Classical.propDecidable _) 2 (@ite _ (isW f 5 a e) (Classical.propDecidable _) 3 4)))
noncomputable def nmI (f : Nat → Nat → Int32) (a e : Nat) : Int32 := if nmN f a e = 4 then -1 else nI (nmN f a e)
theorem nmN_no {f : Nat → Nat → Int32} {a e : Nat} (h : ∀ k, k < 4 → ¬ isW f (k + 2) a e) : nmN f a e = 4 := by
  unfold nmN
  rw [if_neg (h 0 (by omega)), if_neg (h 1 (by omega)), if_neg (h 2 (by omega)), if_neg (h 3 (by omega))]
theorem nmN_at {f : Nat → Nat → Int32} {a e r : Nat} (hr : r < 4) (h : ∀ k, k < r → ¬ isW f (k + 2) a e) (h2 : isW f (r + 2) a e) : nmN f a e = r := by
  unfold nmN
  have : r = 0 ∨ r = 1 ∨ r = 2 ∨ r = 3 := by omega
  rcases this with q | q | q | q <;> subst q
  · rw [if_pos h2]
  · rw [if_neg (h 0 (by omega)), if_pos h2]
  · rw [if_neg (h 0 (by omega)), if_neg (h 1 (by omega)), if_pos h2]
  · rw [if_neg (h 0 (by omega)), if_neg (h 1 (by omega)), if_neg (h 2 (by omega)), if_pos h2]
theorem nmN_le (f : Nat → Nat → Int32) (a e : Nat) : nmN f a e ≤ 4 := by
  unfold nmN
  split
  · omega
  · split
    · omega
    · split
      · omega
      · split <;> omega
def e_V_nameBetween : Ent := (fun av M => ∃ (o : Nat) (a : Nat) (e : Nat), av = [.ref o, .int (nI a), .int (nI e)] ∧ a < 2 ^ 31 ∧ e < 2 ^ 31 ∧ (o = 17 ∧ BkS M ∧ TxD (mI M) ∧ a ≤ e ∧ e < 1000), fun av M r_ M_ => ∀ (o : Nat) (a : Nat) (e : Nat), a < 2 ^ 31 → e < 2 ^ 31 → av = [.ref o, .int (nI a), .int (nI e)] → r_ = (some (.int (nmI (mI M) a e))) ∧ M_ = (M))
theorem pc_V_nameBetween {o : Nat} {a : Nat} {e : Nat} {M : Mem} {K : Option Value → Mem → Prop} (hp : o = 17 ∧ BkS M ∧ TxD (mI M) ∧ a ≤ e ∧ e < 1000) (h_a : a < 2 ^ 31) (h_e : e < 2 ^ 31) : pcall e_V_nameBetween [.ref o, .int (nI a), .int (nI e)] M K = K (some (.int (nmI (mI M) a e))) (M) := propext ⟨fun h => h.2 _ _ (fun o' a' e' h_a' h_e' e => by simp only [List.cons.injEq, Value.ref.injEq, Value.int.injEq, Value.long.injEq, and_true] at e; obtain ⟨q0, q1, q2⟩ := e; obtain rfl := q0; obtain rfl := (nI_eq h_a h_a').mp q1; obtain rfl := (nI_eq h_e h_e').mp q2; exact ⟨rfl, rfl⟩), fun h => ⟨⟨o, a, e, rfl, h_a, h_e, hp⟩, fun r_ M_ q => by obtain ⟨rfl, rfl⟩ := q _ _ _ h_a h_e rfl; exact h⟩⟩
theorem mk_V_nameBetween {Z : Zt} {d : Nat} (h : ∀ (o : Nat) (a : Nat) (e : Nat) (M : Mem), a < 2 ^ 31 → e < 2 ^ 31 → (o = 17 ∧ BkS M ∧ TxD (mI M) ∧ a ≤ e ∧ e < 1000) → Gm Z d s_V_nameBetween [.ref o, .int (nI a), .int (nI e)] M (ex (some (.int (nmI (mI M) a e))) (M))) : okE Z d i_V_nameBetween e_V_nameBetween := by
  rintro av M ⟨o, a, e, rfl, h_a, h_e, hp⟩
  exact Gm.cons (h o a e M h_a h_e hp) (fun r_ M_ q o' a' e' h_a' h_e' e => by simp only [List.cons.injEq, Value.ref.injEq, Value.int.injEq, Value.long.injEq, and_true] at e; obtain ⟨q0, q1, q2⟩ := e; obtain rfl := q0; obtain rfl := (nI_eq h_a h_a').mp q1; obtain rfl := (nI_eq h_e h_e').mp q2; exact q)
set_option maxRecDepth 100000 in
set_option maxHeartbeats 4000000 in
theorem lp_V_nameBetween (Z : Zt) (d : Nat) {M : Mem} {a e : Nat} (hB : BkS M) (hT : TxD (mI M)) (ha : a ≤ e) (he : e < 1000) : ∀ n r, r + n = 4 → (∀ j, j < r → ¬ isW (mI M) (j + 2) a e) → X Z (d + 6) s_V_nameBetween (mN M) (mN M) (ex (some (.int (nmI (mI M) a e))) M) 2 [some (.ref 17), some (.int (nI a)), some (.int (nI e)), some (.int (nI r))] [] M := by
  intro n
  induction n with
  | zero =>
    intro r hr hj
    obtain rfl : r = 4 := by omega
    refine X_run (C := []) (S := [2]) 100 k_V_nameBetween okE_nil ?_
    simp (disch := first | trivial | assumption | omega) only [run, go, jmp, seek, inS, e0, e1, e2, e3, e4, e5, tsw, e7, e8, e9, e10, e11, e12, splitA, rcv, clook, lget, lset, lset2, lkill, Option.toList, List.nil_append, List.cons_append, wsum, List.map_cons, List.map_nil, List.sum_cons, List.sum_nil, Value.category, Nat.reduceAdd, List.getD_cons_zero, List.getD_cons_succ, ↓reduceIte, if_true, if_false, Bool.false_eq_true, Nat.reduceLeDiff, Nat.reduceEqDiff, true_or, or_true, true_and, and_true, and_self, or_self, not_true, not_false_iff, mR_stI, mN_stI, isO_stI, isA_stI, mI_stI, mR_mW, mN_mW, isO_mW, isA_mW, mI_mW, mW_mW, stI_mW, nI_addL, nI_mulL, nI_subL, nI_ltL, nI_leL, nI_Llt, nI_Lle, nI_eqL, nI_Leq, nI_add, pk_mul, nI_ltI, nI_leI, nI_eq, vpi, nI_clamp, nI_toN, p_V_nameBetween]
    exact ⟨by rw [nmI, if_pos (nmN_no hj)], rfl⟩
  | succ n ih =>
    intro r hr hj
    have hs : (if r < 3 then r + 2 else 5) = r + 2 := by
      by_cases q : r < 3
      · rw [if_pos q]
      · rw [if_neg q]; omega
    refine X_run (C := [(i_V_nameOf, e_V_nameOf), (i_V_isBetween, e_V_isBetween)]) (S := [2]) 100 k_V_nameBetween (okE_cons (ok_V_nameOf Z (d + 4)) (okE_cons (ok_V_isBetween Z d) okE_nil)) ?_
    simp (disch := first | trivial | assumption | omega) only [run, go, jmp, seek, inS, e0, e1, e2, e3, e4, e5, tsw, e7, e8, e9, e10, e11, e12, splitA, rcv, clook, lget, lset, lset2, lkill, Option.toList, List.nil_append, List.cons_append, wsum, List.map_cons, List.map_nil, List.sum_cons, List.sum_nil, Value.category, Nat.reduceAdd, List.getD_cons_zero, List.getD_cons_succ, ↓reduceIte, if_true, if_false, Bool.false_eq_true, Nat.reduceLeDiff, Nat.reduceEqDiff, true_or, or_true, true_and, and_true, and_self, or_self, not_true, not_false_iff, mR_stI, mN_stI, isO_stI, isA_stI, mI_stI, mR_mW, mN_mW, isO_mW, isA_mW, mI_mW, mW_mW, stI_mW, nI_addL, nI_mulL, nI_subL, nI_ltL, nI_leL, nI_Llt, nI_Lle, nI_eqL, nI_Leq, nI_add, pk_mul, nI_ltI, nI_leI, nI_eq, vpi, nI_clamp, nI_toN, p_V_nameBetween, bk_oV hB, i_V_nameOf, pc_V_nameOf, hs, i_V_isBetween, pc_V_isBetween (o := 17) (s := r + 2) (a := a) (e := e) (M := M) ⟨rfl, hB, hT, by omega, ha, he⟩, bv_0]
    rw [if_neg (show ¬ 4 ≤ r by omega)]
    by_cases h : isW (mI M) (r + 2) a e
    · rw [if_neg (bv_n0 h)]
      refine ⟨?_, rfl⟩
      have := nmN_at (by omega) hj h
      rw [nmI, this, if_neg (by omega)]
    · rw [if_pos (bv_F h)]
      refine ih (r + 1) (by omega) fun j q => ?_
      by_cases z : j = r
      · rw [z]; exact h
      · exact hj j (by omega)
set_option maxRecDepth 100000 in
set_option maxHeartbeats 4000000 in
theorem ok_V_nameBetween (Z : Zt) (d : Nat) : okE Z (d + 6) i_V_nameBetween e_V_nameBetween := mk_V_nameBetween fun o a e M h1 h2 hp => by
  obtain ⟨rfl, hB, hT, ha, he⟩ := hp
  refine Gm_run (C := []) (S := [2]) [some (.ref 17), some (.int (nI a)), some (.int (nI e)), none] 100 k_V_nameBetween okE_nil (ex_n rfl) ?_
  simp (disch := first | trivial | assumption | omega) only [run, go, jmp, seek, inS, e0, e1, e2, e3, e4, e5, tsw, e7, e8, e9, e10, e11, e12, splitA, rcv, clook, lget, lset, lset2, lkill, Option.toList, List.nil_append, List.cons_append, wsum, List.map_cons, List.map_nil, List.sum_cons, List.sum_nil, Value.category, Nat.reduceAdd, List.getD_cons_zero, List.getD_cons_succ, ↓reduceIte, if_true, if_false, Bool.false_eq_true, Nat.reduceLeDiff, Nat.reduceEqDiff, true_or, or_true, true_and, and_true, and_self, or_self, not_true, not_false_iff, mR_stI, mN_stI, isO_stI, isA_stI, mI_stI, mR_mW, mN_mW, isO_mW, isA_mW, mI_mW, mW_mW, stI_mW, nI_addL, nI_mulL, nI_subL, nI_ltL, nI_leL, nI_Llt, nI_Lle, nI_eqL, nI_Leq, nI_add, pk_mul, nI_ltI, nI_leI, nI_eq, vpi, nI_clamp, nI_toN, p_V_nameBetween]
  exact lp_V_nameBetween Z d hB hT ha he 4 0 rfl (fun j q => absurd q (by omega))
/-- a byte put behind the text -/
def apF (f : Nat → Nat → Int32) (v : Int32) : Nat → Nat → Int32 := if tl f < 60 then u2 (u2 f 18 (tl f) v) 17 2 (nI (tl f + 1)) else f
def e_V_append : Ent := (fun av M => ∃ (o : Nat) (v : Int32), av = [.ref o, .int v] ∧ (o = 17 ∧ BkS M ∧ TxD (mI M)), fun av M r_ M_ => ∀ (o : Nat) (v : Int32), av = [.ref o, .int v] → r_ = (some (.int (bv (tl (mI M) < 60)))) ∧ M_ = (mW M (apF (mI M) v)))
theorem pc_V_append {o : Nat} {v : Int32} {M : Mem} {K : Option Value → Mem → Prop} (hp : o = 17 ∧ BkS M ∧ TxD (mI M)) : pcall e_V_append [.ref o, .int v] M K = K (some (.int (bv (tl (mI M) < 60)))) (mW M (apF (mI M) v)) := propext ⟨fun h => h.2 _ _ (fun o' v' e => by simp only [List.cons.injEq, Value.ref.injEq, Value.int.injEq, Value.long.injEq, and_true] at e; obtain ⟨q0, q1⟩ := e; obtain rfl := q0; obtain rfl := q1; exact ⟨rfl, rfl⟩), fun h => ⟨⟨o, v, rfl, hp⟩, fun r_ M_ q => by obtain ⟨rfl, rfl⟩ := q _ _ rfl; exact h⟩⟩
theorem mk_V_append {Z : Zt} {d : Nat} (h : ∀ (o : Nat) (v : Int32) (M : Mem), (o = 17 ∧ BkS M ∧ TxD (mI M)) → Gm Z d s_V_append [.ref o, .int v] M (ex (some (.int (bv (tl (mI M) < 60)))) (mW M (apF (mI M) v)))) : okE Z d i_V_append e_V_append := by
  rintro av M ⟨o, v, rfl, hp⟩
  exact Gm.cons (h o v M  hp) (fun r_ M_ q o' v' e => by simp only [List.cons.injEq, Value.ref.injEq, Value.int.injEq, Value.long.injEq, and_true] at e; obtain ⟨q0, q1⟩ := e; obtain rfl := q0; obtain rfl := q1; exact q)
set_option maxRecDepth 100000 in
set_option maxHeartbeats 4000000 in
theorem ok_V_append (Z : Zt) (d : Nat) : okE Z (d + 1) i_V_append e_V_append := mk_V_append fun o v M hp => by
  obtain ⟨rfl, hB, hT⟩ := hp
  have hl := hT.2
  refine Gm_run (C := []) (S := []) [some (.ref 17), some (.int v)] 100 k_V_append okE_nil (ex_n rfl) ?_
  simp (disch := first | trivial | assumption | omega) only [run, go, jmp, seek, inS, e0, e1, e2, e3, e4, e5, tsw, e7, e8, e9, e10, e11, e12, splitA, rcv, clook, lget, lset, lset2, lkill, Option.toList, List.nil_append, List.cons_append, wsum, List.map_cons, List.map_nil, List.sum_cons, List.sum_nil, Value.category, Nat.reduceAdd, List.getD_cons_zero, List.getD_cons_succ, ↓reduceIte, if_true, if_false, Bool.false_eq_true, Nat.reduceLeDiff, Nat.reduceEqDiff, true_or, or_true, true_and, and_true, and_self, or_self, not_true, not_false_iff, mR_stI, mN_stI, isO_stI, isA_stI, mI_stI, mR_mW, mN_mW, isO_mW, isA_mW, mI_mW, mW_mW, stI_mW, nI_addL, nI_mulL, nI_subL, nI_ltL, nI_leL, nI_Llt, nI_Lle, nI_eqL, nI_Leq, nI_add, pk_mul, nI_ltI, nI_leI, nI_eq, vpi, nI_clamp, nI_toN, p_V_append, bk_oV hB, bk_v0 hB, hT.1]
  by_cases h : tl (mI M) < 60
  · have hA : isA M 18 (nI (tl (mI M))) = True := bk_A hB (n := 60) rfl (by omega) (by omega) (by omega)
    have hu : u2 (mI M) 18 (tl (mI M)) v 17 2 = nI (tl (mI M)) := by rw [u2_ne (by omega), hT.1]
    rw [if_pos h]
    simp (disch := first | trivial | assumption | omega) only [run, go, jmp, seek, inS, e0, e1, e2, e3, e4, e5, tsw, e7, e8, e9, e10, e11, e12, splitA, rcv, clook, lget, lset, lset2, lkill, Option.toList, List.nil_append, List.cons_append, wsum, List.map_cons, List.map_nil, List.sum_cons, List.sum_nil, Value.category, Nat.reduceAdd, List.getD_cons_zero, List.getD_cons_succ, ↓reduceIte, if_true, if_false, Bool.false_eq_true, Nat.reduceLeDiff, Nat.reduceEqDiff, true_or, or_true, true_and, and_true, and_self, or_self, not_true, not_false_iff, mR_stI, mN_stI, isO_stI, isA_stI, mI_stI, mR_mW, mN_mW, isO_mW, isA_mW, mI_mW, mW_mW, stI_mW, nI_addL, nI_mulL, nI_subL, nI_ltL, nI_leL, nI_Llt, nI_Lle, nI_eqL, nI_Leq, nI_add, pk_mul, nI_ltI, nI_leI, nI_eq, vpi, nI_clamp, nI_toN, hA, bk_oV hB, hu]
    exact ⟨by rw [bv_T h], by rw [apF, if_pos h]⟩
  · rw [if_neg h]
    exact ⟨by rw [bv_F h], by rw [apF, if_neg h]; rfl⟩
def huF (f : Nat → Nat → Int32) : Prop := ∃ i, i < 4 ∧ 0 < f 19 i
def e_V_hasUnits : Ent := (fun av M => ∃ (o : Nat), av = [.ref o] ∧ (o = 17 ∧ BkS M), fun av M r_ M_ => ∀ (o : Nat), av = [.ref o] → r_ = (some (.int (bv (huF (mI M))))) ∧ M_ = (M))
theorem pc_V_hasUnits {o : Nat} {M : Mem} {K : Option Value → Mem → Prop} (hp : o = 17 ∧ BkS M) : pcall e_V_hasUnits [.ref o] M K = K (some (.int (bv (huF (mI M))))) (M) := propext ⟨fun h => h.2 _ _ (fun o' e => by simp only [List.cons.injEq, Value.ref.injEq, Value.int.injEq, Value.long.injEq, and_true] at e; have q0 := e; obtain rfl := q0; exact ⟨rfl, rfl⟩), fun h => ⟨⟨o, rfl, hp⟩, fun r_ M_ q => by obtain ⟨rfl, rfl⟩ := q _ rfl; exact h⟩⟩
theorem mk_V_hasUnits {Z : Zt} {d : Nat} (h : ∀ (o : Nat) (M : Mem), (o = 17 ∧ BkS M) → Gm Z d s_V_hasUnits [.ref o] M (ex (some (.int (bv (huF (mI M))))) (M))) : okE Z d i_V_hasUnits e_V_hasUnits := by
  rintro av M ⟨o, rfl, hp⟩
  exact Gm.cons (h o M  hp) (fun r_ M_ q o' e => by simp only [List.cons.injEq, Value.ref.injEq, Value.int.injEq, Value.long.injEq, and_true] at e; have q0 := e; obtain rfl := q0; exact q)
set_option maxRecDepth 100000 in
set_option maxHeartbeats 4000000 in
theorem lp_V_hasUnits (Z : Zt) (d : Nat) {M : Mem} (hB : BkS M) : ∀ n r, r + n = 4 → (∀ j, j < r → ¬ 0 < mI M 19 j) → X Z (d + 1) s_V_hasUnits (mN M) (mN M) (ex (some (.int (bv (huF (mI M))))) M) 2 [some (.ref 17), some (.int (nI r))] [] M := by
  intro n
  induction n with
  | zero =>
    intro r hr hj
    obtain rfl : r = 4 := by omega
    refine X_run (C := []) (S := [2]) 100 k_V_hasUnits okE_nil ?_
    simp (disch := first | trivial | assumption | omega) only [run, go, jmp, seek, inS, e0, e1, e2, e3, e4, e5, tsw, e7, e8, e9, e10, e11, e12, splitA, rcv, clook, lget, lset, lset2, lkill, Option.toList, List.nil_append, List.cons_append, wsum, List.map_cons, List.map_nil, List.sum_cons, List.sum_nil, Value.category, Nat.reduceAdd, List.getD_cons_zero, List.getD_cons_succ, ↓reduceIte, if_true, if_false, Bool.false_eq_true, Nat.reduceLeDiff, Nat.reduceEqDiff, true_or, or_true, true_and, and_true, and_self, or_self, not_true, not_false_iff, mR_stI, mN_stI, isO_stI, isA_stI, mI_stI, mR_mW, mN_mW, isO_mW, isA_mW, mI_mW, mW_mW, stI_mW, nI_addL, nI_mulL, nI_subL, nI_ltL, nI_leL, nI_Llt, nI_Lle, nI_eqL, nI_Leq, nI_add, pk_mul, nI_ltI, nI_leI, nI_eq, vpi, nI_clamp, nI_toN, p_V_hasUnits]
    exact ⟨by rw [bv_F (fun ⟨i, h1, h2⟩ => hj i h1 h2)], rfl⟩
  | succ n ih =>
    intro r hr hj
    have hA : isA M 19 (nI r) = True := bk_A hB (n := 4) rfl (by omega) (by omega) (by omega)
    refine X_run (C := []) (S := [2]) 100 k_V_hasUnits okE_nil ?_
    simp (disch := first | trivial | assumption | omega) only [run, go, jmp, seek, inS, e0, e1, e2, e3, e4, e5, tsw, e7, e8, e9, e10, e11, e12, splitA, rcv, clook, lget, lset, lset2, lkill, Option.toList, List.nil_append, List.cons_append, wsum, List.map_cons, List.map_nil, List.sum_cons, List.sum_nil, Value.category, Nat.reduceAdd, List.getD_cons_zero, List.getD_cons_succ, ↓reduceIte, if_true, if_false, Bool.false_eq_true, Nat.reduceLeDiff, Nat.reduceEqDiff, true_or, or_true, true_and, and_true, and_self, or_self, not_true, not_false_iff, mR_stI, mN_stI, isO_stI, isA_stI, mI_stI, mR_mW, mN_mW, isO_mW, isA_mW, mI_mW, mW_mW, stI_mW, nI_addL, nI_mulL, nI_subL, nI_ltL, nI_leL, nI_Llt, nI_Lle, nI_eqL, nI_Leq, nI_add, pk_mul, nI_ltI, nI_leI, nI_eq, vpi, nI_clamp, nI_toN, p_V_hasUnits, bk_oV hB, bk_v1 hB, hA]
    rw [if_neg (show ¬ 4 ≤ r by omega)]
    by_cases h : 0 < mI M 19 r
    · rw [if_neg (Int32.not_le.mpr h)]
      exact ⟨by rw [bv_T ⟨r, by omega, h⟩], rfl⟩
    · rw [if_pos (Int32.not_lt.mp h)]
      refine ih (r + 1) (by omega) fun j q => ?_
      by_cases z : j = r
      · rw [z]; exact h
      · exact hj j (by omega)
set_option maxRecDepth 100000 in
set_option maxHeartbeats 4000000 in
theorem ok_V_hasUnits (Z : Zt) (d : Nat) : okE Z (d + 1) i_V_hasUnits e_V_hasUnits := mk_V_hasUnits fun o M hp => by
  obtain ⟨rfl, hB⟩ := hp
  refine Gm_run (C := []) (S := [2]) [some (.ref 17), none] 100 k_V_hasUnits okE_nil (ex_n rfl) ?_
  simp (disch := first | trivial | assumption | omega) only [run, go, jmp, seek, inS, e0, e1, e2, e3, e4, e5, tsw, e7, e8, e9, e10, e11, e12, splitA, rcv, clook, lget, lset, lset2, lkill, Option.toList, List.nil_append, List.cons_append, wsum, List.map_cons, List.map_nil, List.sum_cons, List.sum_nil, Value.category, Nat.reduceAdd, List.getD_cons_zero, List.getD_cons_succ, ↓reduceIte, if_true, if_false, Bool.false_eq_true, Nat.reduceLeDiff, Nat.reduceEqDiff, true_or, or_true, true_and, and_true, and_self, or_self, not_true, not_false_iff, mR_stI, mN_stI, isO_stI, isA_stI, mI_stI, mR_mW, mN_mW, isO_mW, isA_mW, mI_mW, mW_mW, stI_mW, nI_addL, nI_mulL, nI_subL, nI_ltL, nI_leL, nI_Llt, nI_Lle, nI_eqL, nI_Leq, nI_add, pk_mul, nI_ltI, nI_leI, nI_eq, vpi, nI_clamp, nI_toN, p_V_hasUnits]
  exact lp_V_hasUnits Z d hB 4 0 rfl (fun j q => absurd q (by omega))
end
section
def rwF (f : Nat → Nat → Int32) (a : Nat) (u : Nat → Int32) : Nat → Nat → Int32 := fun x y => if x = a then u y else f x y
def upF (u : Nat → Int32) (r : Nat) (v : Int32) : Nat → Int32 := fun y => if y = r then v else u y
theorem rwF_u {f : Nat → Nat → Int32} {a r : Nat} {u : Nat → Int32} {v : Int32} : u2 (rwF f a u) a r v = rwF f a (upF u r v) := by
  funext x y
  simp only [rwF, upF, u2_at]
  by_cases h : x = a
  · by_cases h2 : y = r
    · rw [if_pos ⟨h, h2⟩, if_pos h, if_pos h2]
    · rw [if_neg (fun q => h2 q.2), if_pos h, if_pos h, if_neg h2]
  · rw [if_neg (fun q => h q.1), if_neg h, if_neg h]
theorem rowF_o {f : Nat → Nat → Int32} {a x y : Nat} {u : Nat → Int32} (h : x ≠ a) : rwF f a u x y = f x y := by
  unfold rwF
  rw [if_neg h]
theorem tl_row {f : Nat → Nat → Int32} {u : Nat → Int32} : tl (rwF f 19 u) = tl f := rfl
theorem by_row {f : Nat → Nat → Int32} {u : Nat → Int32} : byF (rwF f 19 u) = byF f := rfl
theorem ab_row {f : Nat → Nat → Int32} {u : Nat → Int32} : abF (rwF f 19 u) = abF f := rfl
theorem al_row {f : Nat → Nat → Int32} {u : Nat → Int32} : alF (rwF f 19 u) = alF f := rfl
theorem dg_row {f : Nat → Nat → Int32} {u : Nat → Int32} : dgF (rwF f 19 u) = dgF f := rfl
theorem nu_row {f : Nat → Nat → Int32} {u : Nat → Int32} : ∀ k i a, nuF (rwF f 19 u) k i a = nuF f k i a := by
  intro k
  induction k with
  | zero => intro i a; rfl
  | succ k ih => intro i a; exact ih _ _
theorem nm_row {f : Nat → Nat → Int32} {u : Nat → Int32} : nmI (rwF f 19 u) = nmI f := rfl
theorem tx_row {f : Nat → Nat → Int32} {u : Nat → Int32} (h : TxD f) : TxD (rwF f 19 u) := h
def snB (v : Int32) (r : Nat) : Int32 := (v >>> (nI r &&& 31)) &&& 1
def snO (v : Int32) (r : Nat) : Int32 := v ||| ((1 : Int32) <<< (nI r &&& 31))
noncomputable def enF (f : Nat → Nat → Int32) (a : Nat) : Nat := @ite _ (dgF f (a + 1)) (Classical.propDecidable _) (a + 2) (a + 1)
noncomputable def rvS (f : Nat → Nat → Int32) : Nat → Nat → Int32 → (Nat → Int32) → Int32 × (Nat → Int32)
  | 0, _, _, u => (-1000003, u)
  | k + 1, i, v, u => if i < tl f then (if nmN f i (alF f i) = 4 ∨ ¬ snB v (nmN f i (alF f i)) = 0 then (nI i, u) else @ite _ (dgF f (abF f (alF f i))) (Classical.propDecidable _) (rvS f k (abF f (enF f (abF f (alF f i)))) (snO v (nmN f i (alF f i))) (upF u (nmN f i (alF f i)) (nuF f (enF f (abF f (alF f i)) - abF f (alF f i)) (abF f (alF f i)) 0))) (nI (abF f (alF f i)), u)) else (-1000003, u)
noncomputable def rvF (f : Nat → Nat → Int32) : Int32 × (Nat → Int32) := rvS f 5 (abF f 0) 0 (fun y => if y < 4 then 0 else f 19 y)
theorem dg_lt {f : Nat → Nat → Int32} {i : Nat} (h : dgF f i) : i < tl f := by
  unfold dgF byF at h
  by_cases q : i < tl f
  · exact q
  · rw [if_neg q] at h
    exact absurd h.1 (by decide)
theorem en_le {f : Nat → Nat → Int32} {a : Nat} (h : dgF f a) : a < enF f a ∧ enF f a ≤ tl f ∧ enF f a ≤ a + 2 := by
  have := dg_lt h
  unfold enF
  split
  · next q => have := dg_lt q; omega
  · omega
def e_V_read : Ent := (fun av M => ∃ (o : Nat), av = [.ref o] ∧ (o = 17 ∧ BkS M ∧ TxD (mI M)), fun av M r_ M_ => ∀ (o : Nat), av = [.ref o] → r_ = (some (.int (rvF (mI M)).1)) ∧ M_ = (mW M (rwF (mI M) 19 (rvF (mI M)).2)))
theorem pc_V_read {o : Nat} {M : Mem} {K : Option Value → Mem → Prop} (hp : o = 17 ∧ BkS M ∧ TxD (mI M)) : pcall e_V_read [.ref o] M K = K (some (.int (rvF (mI M)).1)) (mW M (rwF (mI M) 19 (rvF (mI M)).2)) := propext ⟨fun h => h.2 _ _ (fun o' e => by simp only [List.cons.injEq, Value.ref.injEq, Value.int.injEq, Value.long.injEq, and_true] at e; have q0 := e; obtain rfl := q0; exact ⟨rfl, rfl⟩), fun h => ⟨⟨o, rfl, hp⟩, fun r_ M_ q => by obtain ⟨rfl, rfl⟩ := q _ rfl; exact h⟩⟩
theorem mk_V_read {Z : Zt} {d : Nat} (h : ∀ (o : Nat) (M : Mem), (o = 17 ∧ BkS M ∧ TxD (mI M)) → Gm Z d s_V_read [.ref o] M (ex (some (.int (rvF (mI M)).1)) (mW M (rwF (mI M) 19 (rvF (mI M)).2)))) : okE Z d i_V_read e_V_read := by
  rintro av M ⟨o, rfl, hp⟩
  exact Gm.cons (h o M  hp) (fun r_ M_ q o' e => by simp only [List.cons.injEq, Value.ref.injEq, Value.int.injEq, Value.long.injEq, and_true] at e; have q0 := e; obtain rfl := q0; exact q)
set_option maxRecDepth 100000 in
set_option maxHeartbeats 4000000 in
theorem lp_V_read (Z : Zt) (d : Nat) {M : Mem} (hB : BkS M) (hT : TxD (mI M)) : ∀ n k i v u w4 w5, k + n = 5 → i ≤ tl (mI M) → X Z (d + 7) s_V_read (mN M) (mN M) (ex (some (.int (rvS (mI M) n i v u).1)) (mW M (rwF (mI M) 19 (rvS (mI M) n i v u).2))) 30 [some (.ref 17), some (.int v), some (.int (nI i)), some (.int (nI k)), w4, w5] [] (mW M (rwF (mI M) 19 u)) := by
  have hl := hT.2
  have hlen : ∀ u, rwF (mI M) 19 u 17 2 = nI (tl (mI M)) := fun u => hT.1
  have hC : ∀ q ∈ [(i_V_afterBlanks, e_V_afterBlanks), (i_V_afterLetters, e_V_afterLetters), (i_V_nameBetween, e_V_nameBetween), (i_V_isDigit, e_V_isDigit), (i_V_numberBetween, e_V_numberBetween)], okE Z (d + 6) q.1 q.2 := okE_cons (ok_V_afterBlanks Z (d + 4)) (okE_cons (ok_V_afterLetters Z (d + 4)) (okE_cons (ok_V_nameBetween Z d) (okE_cons (ok_V_isDigit Z (d + 4)) (okE_cons (ok_V_numberBetween Z (d + 4)) okE_nil))))
  intro n
  induction n with
  | zero =>
    intro k i v u w4 w5 hk hi
    obtain rfl : k = 5 := by omega
    refine X_run (C := []) (S := [30, 35]) 100 k_V_read okE_nil ?_
    simp (disch := first | trivial | assumption | omega) only [run, go, jmp, seek, inS, e0, e1, e2, e3, e4, e5, tsw, e7, e8, e9, e10, e11, e12, splitA, rcv, clook, lget, lset, lset2, lkill, Option.toList, List.nil_append, List.cons_append, wsum, List.map_cons, List.map_nil, List.sum_cons, List.sum_nil, Value.category, Nat.reduceAdd, List.getD_cons_zero, List.getD_cons_succ, ↓reduceIte, if_true, if_false, Bool.false_eq_true, Nat.reduceLeDiff, Nat.reduceEqDiff, true_or, or_true, true_and, and_true, and_self, or_self, not_true, not_false_iff, mR_stI, mN_stI, isO_stI, isA_stI, mI_stI, mR_mW, mN_mW, isO_mW, isA_mW, mI_mW, mW_mW, stI_mW, nI_addL, nI_mulL, nI_subL, nI_ltL, nI_leL, nI_Llt, nI_Lle, nI_eqL, nI_Leq, nI_add, pk_mul, nI_ltI, nI_leI, nI_eq, vpi, nI_clamp, nI_toN, p_V_read]
    exact ⟨rfl, rfl⟩
  | succ n ih =>
    intro k i v u w4 w5 hk hi
    refine X_run (C := []) (S := [30, 43]) 200 k_V_read okE_nil ?_
    by_cases h1 : i < tl (mI M)
    · have ha1 : i ≤ alF (mI M) i := skF_a
      have ha2 : alF (mI M) i ≤ tl (mI M) := skF_b hi
      have hb1 : alF (mI M) i ≤ abF (mI M) (alF (mI M) i) := skF_a
      have hb2 : abF (mI M) (alF (mI M) i) ≤ tl (mI M) := skF_b ha2
      have hn := nmN_le (mI M) i (alF (mI M) i)
      simp (disch := first | trivial | assumption | omega) only [run, go, jmp, seek, inS, e0, e1, e2, e3, e4, e5, tsw, e7, e8, e9, e10, e11, e12, splitA, rcv, clook, lget, lset, lset2, lkill, Option.toList, List.nil_append, List.cons_append, wsum, List.map_cons, List.map_nil, List.sum_cons, List.sum_nil, Value.category, Nat.reduceAdd, List.getD_cons_zero, List.getD_cons_succ, ↓reduceIte, if_true, if_false, Bool.false_eq_true, Nat.reduceLeDiff, Nat.reduceEqDiff, true_or, or_true, true_and, and_true, and_self, or_self, not_true, not_false_iff, mR_stI, mN_stI, isO_stI, isA_stI, mI_stI, mR_mW, mN_mW, isO_mW, isA_mW, mI_mW, mW_mW, stI_mW, nI_addL, nI_mulL, nI_subL, nI_ltL, nI_leL, nI_Llt, nI_Lle, nI_eqL, nI_Leq, nI_add, pk_mul, nI_ltI, nI_leI, nI_eq, vpi, nI_clamp, nI_toN, p_V_read, bk_oV hB, hlen]
      rw [if_neg (show ¬ 4 < k by omega), if_neg (show ¬ tl (mI M) ≤ i by omega)]
      refine X_run (S := [30, 75]) 200 k_V_read hC ?_
      by_cases h2 : nmN (mI M) i (alF (mI M) i) = 4
      · have hx : nmI (mI M) i (alF (mI M) i) = -1 := if_pos h2
        have hr : rvS (mI M) (n + 1) i v u = (nI i, u) := by rw [rvS, if_pos h1, if_pos (Or.inl h2)]
        simp (disch := first | trivial | assumption | omega) only [run, go, jmp, seek, inS, e0, e1, e2, e3, e4, e5, tsw, e7, e8, e9, e10, e11, e12, splitA, rcv, clook, lget, lset, lset2, lkill, Option.toList, List.nil_append, List.cons_append, wsum, List.map_cons, List.map_nil, List.sum_cons, List.sum_nil, Value.category, Nat.reduceAdd, List.getD_cons_zero, List.getD_cons_succ, ↓reduceIte, if_true, if_false, Bool.false_eq_true, Nat.reduceLeDiff, Nat.reduceEqDiff, true_or, or_true, true_and, and_true, and_self, or_self, not_true, not_false_iff, mR_stI, mN_stI, isO_stI, isA_stI, mI_stI, mR_mW, mN_mW, isO_mW, isA_mW, mI_mW, mW_mW, stI_mW, nI_addL, nI_mulL, nI_subL, nI_ltL, nI_leL, nI_Llt, nI_Lle, nI_eqL, nI_Leq, nI_add, pk_mul, nI_ltI, nI_leI, nI_eq, vpi, nI_clamp, nI_toN, p_V_read, bk_oV hB, i_V_afterLetters, i_V_nameBetween, i_V_afterBlanks, pc_V_afterLetters (o := 17) (i := i) (M := mW M (rwF (mI M) 19 u)) ⟨rfl, hB, hT, by omega⟩, al_row, pc_V_nameBetween (o := 17) (a := i) (e := alF (mI M) i) (M := mW M (rwF (mI M) 19 u)) ⟨rfl, hB, hT, by omega, by omega⟩, nm_row, hx, m1_neg, hr]
        exact ⟨rfl, rfl⟩
      · have hx : nmI (mI M) i (alF (mI M) i) = nI (nmN (mI M) i (alF (mI M) i)) := if_neg h2
        have hr4 : nmN (mI M) i (alF (mI M) i) < 4 := by omega
        simp (disch := first | trivial | assumption | omega) only [run, go, jmp, seek, inS, e0, e1, e2, e3, e4, e5, tsw, e7, e8, e9, e10, e11, e12, splitA, rcv, clook, lget, lset, lset2, lkill, Option.toList, List.nil_append, List.cons_append, wsum, List.map_cons, List.map_nil, List.sum_cons, List.sum_nil, Value.category, Nat.reduceAdd, List.getD_cons_zero, List.getD_cons_succ, ↓reduceIte, if_true, if_false, Bool.false_eq_true, Nat.reduceLeDiff, Nat.reduceEqDiff, true_or, or_true, true_and, and_true, and_self, or_self, not_true, not_false_iff, mR_stI, mN_stI, isO_stI, isA_stI, mI_stI, mR_mW, mN_mW, isO_mW, isA_mW, mI_mW, mW_mW, stI_mW, nI_addL, nI_mulL, nI_subL, nI_ltL, nI_leL, nI_Llt, nI_Lle, nI_eqL, nI_Leq, nI_add, pk_mul, nI_ltI, nI_leI, nI_eq, vpi, nI_clamp, nI_toN, p_V_read, bk_oV hB, i_V_afterLetters, i_V_nameBetween, i_V_afterBlanks, pc_V_afterLetters (o := 17) (i := i) (M := mW M (rwF (mI M) 19 u)) ⟨rfl, hB, hT, by omega⟩, al_row, pc_V_nameBetween (o := 17) (a := i) (e := alF (mI M) i) (M := mW M (rwF (mI M) 19 u)) ⟨rfl, hB, hT, by omega, by omega⟩, nm_row, hx, Nat.not_lt_zero]
        by_cases h3 : snB v (nmN (mI M) i (alF (mI M) i)) = 0
        · have h3' : v >>> (nI (nmN (mI M) i (alF (mI M) i)) &&& 31) &&& 1 = 0 := h3
          rw [if_pos h3']
          refine X_run (S := [30, 99]) 200 k_V_read hC ?_
          simp (disch := first | trivial | assumption | omega) only [run, go, jmp, seek, inS, e0, e1, e2, e3, e4, e5, tsw, e7, e8, e9, e10, e11, e12, splitA, rcv, clook, lget, lset, lset2, lkill, Option.toList, List.nil_append, List.cons_append, wsum, List.map_cons, List.map_nil, List.sum_cons, List.sum_nil, Value.category, Nat.reduceAdd, List.getD_cons_zero, List.getD_cons_succ, ↓reduceIte, if_true, if_false, Bool.false_eq_true, Nat.reduceLeDiff, Nat.reduceEqDiff, true_or, or_true, true_and, and_true, and_self, or_self, not_true, not_false_iff, mR_stI, mN_stI, isO_stI, isA_stI, mI_stI, mR_mW, mN_mW, isO_mW, isA_mW, mI_mW, mW_mW, stI_mW, nI_addL, nI_mulL, nI_subL, nI_ltL, nI_leL, nI_Llt, nI_Lle, nI_eqL, nI_Leq, nI_add, pk_mul, nI_ltI, nI_leI, nI_eq, vpi, nI_clamp, nI_toN, p_V_read, bk_oV hB, i_V_afterLetters, i_V_nameBetween, i_V_afterBlanks, i_V_isDigit, pc_V_afterBlanks (o := 17) (i := alF (mI M) i) (M := mW M (rwF (mI M) 19 u)) ⟨rfl, hB, hT, by omega⟩, ab_row, pc_V_isDigit (o := 17) (i := abF (mI M) (alF (mI M) i)) (M := mW M (rwF (mI M) 19 u)) ⟨rfl, hB, hT⟩, dg_row]
          by_cases h4 : dgF (mI M) (abF (mI M) (alF (mI M) i))
          · have he := en_le h4
            have hr : rvS (mI M) (n + 1) i v u = rvS (mI M) n (abF (mI M) (enF (mI M) (abF (mI M) (alF (mI M) i)))) (snO v (nmN (mI M) i (alF (mI M) i))) (upF u (nmN (mI M) i (alF (mI M) i)) (nuF (mI M) (enF (mI M) (abF (mI M) (alF (mI M) i)) - abF (mI M) (alF (mI M) i)) (abF (mI M) (alF (mI M) i)) 0)) := by rw [rvS, if_pos h1, if_neg (fun q => q.elim h2 (fun q => q h3)), if_pos h4]
            rw [if_neg (bv_n0 h4), hr]
            refine X_run (S := [30, 118]) 200 k_V_read hC ?_
            have hnx : X Z (d + 7) s_V_read (mN M) (mN M) (ex (some (.int (rvS (mI M) n (abF (mI M) (enF (mI M) (abF (mI M) (alF (mI M) i)))) (snO v (nmN (mI M) i (alF (mI M) i))) (upF u (nmN (mI M) i (alF (mI M) i)) (nuF (mI M) (enF (mI M) (abF (mI M) (alF (mI M) i)) - abF (mI M) (alF (mI M) i)) (abF (mI M) (alF (mI M) i)) 0))).1)) (mW M (rwF (mI M) 19 (rvS (mI M) n (abF (mI M) (enF (mI M) (abF (mI M) (alF (mI M) i)))) (snO v (nmN (mI M) i (alF (mI M) i))) (upF u (nmN (mI M) i (alF (mI M) i)) (nuF (mI M) (enF (mI M) (abF (mI M) (alF (mI M) i)) - abF (mI M) (alF (mI M) i)) (abF (mI M) (alF (mI M) i)) 0))).2))) 118 [some (.ref 17), some (.int (snO v (nmN (mI M) i (alF (mI M) i)))), some (.int (nI (abF (mI M) (alF (mI M) i)))), some (.int (nI k)), some (.int (nI (alF (mI M) i))), some (.int (nI (nmN (mI M) i (alF (mI M) i))))] [.int (nI (enF (mI M) (abF (mI M) (alF (mI M) i))))] (mW M (rwF (mI M) 19 u)) := by
              have hA : isA M 19 (nI (nmN (mI M) i (alF (mI M) i))) = True := bk_A hB (n := 4) rfl (by omega) hr4 (by omega)
              refine X_run (S := [30]) 200 k_V_read hC ?_
              simp (disch := first | trivial | assumption | omega) only [run, go, jmp, seek, inS, e0, e1, e2, e3, e4, e5, tsw, e7, e8, e9, e10, e11, e12, splitA, rcv, clook, lget, lset, lset2, lkill, Option.toList, List.nil_append, List.cons_append, wsum, List.map_cons, List.map_nil, List.sum_cons, List.sum_nil, Value.category, Nat.reduceAdd, List.getD_cons_zero, List.getD_cons_succ, ↓reduceIte, if_true, if_false, Bool.false_eq_true, Nat.reduceLeDiff, Nat.reduceEqDiff, true_or, or_true, true_and, and_true, and_self, or_self, not_true, not_false_iff, mR_stI, mN_stI, isO_stI, isA_stI, mI_stI, mR_mW, mN_mW, isO_mW, isA_mW, mI_mW, mW_mW, stI_mW, nI_addL, nI_mulL, nI_subL, nI_ltL, nI_leL, nI_Llt, nI_Lle, nI_eqL, nI_Leq, nI_add, pk_mul, nI_ltI, nI_leI, nI_eq, vpi, nI_clamp, nI_toN, p_V_read, bk_oV hB, bk_v1 hB, i_V_afterLetters, i_V_nameBetween, i_V_afterBlanks, i_V_isDigit, i_V_numberBetween, pc_V_numberBetween (o := 17) (a := abF (mI M) (alF (mI M) i)) (e := enF (mI M) (abF (mI M) (alF (mI M) i))) (M := mW M (rwF (mI M) 19 u)) ⟨rfl, hB, hT, by omega, by omega⟩, nu_row, hA, rwF_u, pc_V_afterBlanks (o := 17) (i := enF (mI M) (abF (mI M) (alF (mI M) i))) (M := mW M (rwF (mI M) 19 (upF u (nmN (mI M) i (alF (mI M) i)) (nuF (mI M) (enF (mI M) (abF (mI M) (alF (mI M) i)) - abF (mI M) (alF (mI M) i)) (abF (mI M) (alF (mI M) i)) 0)))) ⟨rfl, hB, hT, by omega⟩, ab_row]
              exact ih (k + 1) _ _ _ _ _ (by omega) (skF_b he.2.1)
            simp (disch := first | trivial | assumption | omega) only [run, go, jmp, seek, inS, e0, e1, e2, e3, e4, e5, tsw, e7, e8, e9, e10, e11, e12, splitA, rcv, clook, lget, lset, lset2, lkill, Option.toList, List.nil_append, List.cons_append, wsum, List.map_cons, List.map_nil, List.sum_cons, List.sum_nil, Value.category, Nat.reduceAdd, List.getD_cons_zero, List.getD_cons_succ, ↓reduceIte, if_true, if_false, Bool.false_eq_true, Nat.reduceLeDiff, Nat.reduceEqDiff, true_or, or_true, true_and, and_true, and_self, or_self, not_true, not_false_iff, mR_stI, mN_stI, isO_stI, isA_stI, mI_stI, mR_mW, mN_mW, isO_mW, isA_mW, mI_mW, mW_mW, stI_mW, nI_addL, nI_mulL, nI_subL, nI_ltL, nI_leL, nI_Llt, nI_Lle, nI_eqL, nI_Leq, nI_add, pk_mul, nI_ltI, nI_leI, nI_eq, vpi, nI_clamp, nI_toN, p_V_read, bk_oV hB, i_V_afterLetters, i_V_nameBetween, i_V_afterBlanks, i_V_isDigit, pc_V_isDigit (o := 17) (i := abF (mI M) (alF (mI M) i) + 1) (M := mW M (rwF (mI M) 19 u)) ⟨rfl, hB, hT⟩, dg_row]
            by_cases h5 : dgF (mI M) (abF (mI M) (alF (mI M) i) + 1)
            · rw [if_neg (bv_n0 h5)]
              rw [show enF (mI M) (abF (mI M) (alF (mI M) i)) = abF (mI M) (alF (mI M) i) + 2 from if_pos h5] at hnx ⊢
              exact hnx
            · rw [if_pos (bv_F h5)]
              rw [show enF (mI M) (abF (mI M) (alF (mI M) i)) = abF (mI M) (alF (mI M) i) + 1 from if_neg h5] at hnx ⊢
              exact hnx
          · have hr : rvS (mI M) (n + 1) i v u = (nI (abF (mI M) (alF (mI M) i)), u) := by rw [rvS, if_pos h1, if_neg (fun q => q.elim h2 (fun q => q h3)), if_neg h4]
            rw [if_pos (bv_F h4), hr]
            exact ⟨rfl, rfl⟩
        · have hr : rvS (mI M) (n + 1) i v u = (nI i, u) := by rw [rvS, if_pos h1, if_pos (Or.inr h3)]
          have h3' : ¬ v >>> (nI (nmN (mI M) i (alF (mI M) i)) &&& 31) &&& 1 = 0 := h3
          rw [if_neg h3', hr]
          exact ⟨rfl, rfl⟩
    · have hr : rvS (mI M) (n + 1) i v u = (-1000003, u) := by rw [rvS, if_neg h1]
      simp (disch := first | trivial | assumption | omega) only [run, go, jmp, seek, inS, e0, e1, e2, e3, e4, e5, tsw, e7, e8, e9, e10, e11, e12, splitA, rcv, clook, lget, lset, lset2, lkill, Option.toList, List.nil_append, List.cons_append, wsum, List.map_cons, List.map_nil, List.sum_cons, List.sum_nil, Value.category, Nat.reduceAdd, List.getD_cons_zero, List.getD_cons_succ, ↓reduceIte, if_true, if_false, Bool.false_eq_true, Nat.reduceLeDiff, Nat.reduceEqDiff, true_or, or_true, true_and, and_true, and_self, or_self, not_true, not_false_iff, mR_stI, mN_stI, isO_stI, isA_stI, mI_stI, mR_mW, mN_mW, isO_mW, isA_mW, mI_mW, mW_mW, stI_mW, nI_addL, nI_mulL, nI_subL, nI_ltL, nI_leL, nI_Llt, nI_Lle, nI_eqL, nI_Leq, nI_add, pk_mul, nI_ltI, nI_leI, nI_eq, vpi, nI_clamp, nI_toN, p_V_read, bk_oV hB, hlen, hr]
      rw [if_neg (show ¬ 4 < k by omega), if_pos (show tl (mI M) ≤ i by omega)]
      exact ⟨rfl, rfl⟩
def zuF (u : Nat → Int32) (i : Nat) : Nat → Int32 := fun y => if y < i then 0 else u y
theorem zuF_0 (u : Nat → Int32) : zuF u 0 = u := by
  funext y
  unfold zuF
  rw [if_neg (by omega)]
theorem zuF_s (u : Nat → Int32) (i : Nat) : upF (zuF u i) i 0 = zuF u (i + 1) := by
  funext y
  show (if y = i then 0 else if y < i then 0 else u y) = if y < i + 1 then 0 else u y
  by_cases h : y = i
  · rw [if_pos h, if_pos (by omega)]
  · rw [if_neg h]
    by_cases h2 : y < i
    · rw [if_pos h2, if_pos (by omega)]
    · rw [if_neg h2, if_neg (by omega)]
theorem rwF_self (f : Nat → Nat → Int32) (a : Nat) : rwF f a (f a) = f := by
  funext x y
  unfold rwF
  by_cases h : x = a
  · rw [if_pos h, h]
  · rw [if_neg h]
set_option maxRecDepth 100000 in
set_option maxHeartbeats 4000000 in
theorem lz_V_read (Z : Zt) (d : Nat) {M : Mem} (hB : BkS M) (hT : TxD (mI M)) : ∀ n i w1 w2 w3 w4, i + n = 4 → X Z (d + 7) s_V_read (mN M) (mN M) (ex (some (.int (rvF (mI M)).1)) (mW M (rwF (mI M) 19 (rvF (mI M)).2))) 2 [some (.ref 17), some (.int (nI i)), w1, w2, w3, w4] [] (mW M (rwF (mI M) 19 (zuF (mI M 19) i))) := by
  intro n
  induction n with
  | zero =>
    intro i w1 w2 w3 w4 hi
    obtain rfl : i = 4 := by omega
    have hq : ∀ K, pcall e_V_afterBlanks [.ref 17, .int 0] (mW M (rwF (mI M) 19 (zuF (mI M 19) 4))) K = K (some (.int (nI (abF (mI M) 0)))) (mW M (rwF (mI M) 19 (zuF (mI M 19) 4))) := fun K => pc_V_afterBlanks (o := 17) (i := 0) (M := mW M (rwF (mI M) 19 (zuF (mI M 19) 4))) (K := K) ⟨rfl, hB, hT, by omega⟩ (by omega)
    refine X_run (C := [(i_V_afterBlanks, e_V_afterBlanks)]) (S := [2, 30]) 100 k_V_read (okE_cons (ok_V_afterBlanks Z (d + 4)) okE_nil) ?_
    simp (disch := first | trivial | assumption | omega) only [run, go, jmp, seek, inS, e0, e1, e2, e3, e4, e5, tsw, e7, e8, e9, e10, e11, e12, splitA, rcv, clook, lget, lset, lset2, lkill, Option.toList, List.nil_append, List.cons_append, wsum, List.map_cons, List.map_nil, List.sum_cons, List.sum_nil, Value.category, Nat.reduceAdd, List.getD_cons_zero, List.getD_cons_succ, ↓reduceIte, if_true, if_false, Bool.false_eq_true, Nat.reduceLeDiff, Nat.reduceEqDiff, true_or, or_true, true_and, and_true, and_self, or_self, not_true, not_false_iff, mR_stI, mN_stI, isO_stI, isA_stI, mI_stI, mR_mW, mN_mW, isO_mW, isA_mW, mI_mW, mW_mW, stI_mW, nI_addL, nI_mulL, nI_subL, nI_ltL, nI_leL, nI_Llt, nI_Lle, nI_eqL, nI_Leq, nI_add, pk_mul, nI_ltI, nI_leI, nI_eq, vpi, nI_clamp, nI_toN, p_V_read, i_V_afterBlanks, bk_oV hB, hq]
    exact lp_V_read Z d hB hT 5 0 (abF (mI M) 0) 0 _ _ _ rfl (skF_b (Nat.zero_le _))
  | succ n ih =>
    intro i w1 w2 w3 w4 hi
    have hA : isA M 19 (nI i) = True := bk_A hB (n := 4) rfl (by omega) (by omega) (by omega)
    refine X_run (C := []) (S := [2, 20]) 100 k_V_read okE_nil ?_
    simp (disch := first | trivial | assumption | omega) only [run, go, jmp, seek, inS, e0, e1, e2, e3, e4, e5, tsw, e7, e8, e9, e10, e11, e12, splitA, rcv, clook, lget, lset, lset2, lkill, Option.toList, List.nil_append, List.cons_append, wsum, List.map_cons, List.map_nil, List.sum_cons, List.sum_nil, Value.category, Nat.reduceAdd, List.getD_cons_zero, List.getD_cons_succ, ↓reduceIte, if_true, if_false, Bool.false_eq_true, Nat.reduceLeDiff, Nat.reduceEqDiff, true_or, or_true, true_and, and_true, and_self, or_self, not_true, not_false_iff, mR_stI, mN_stI, isO_stI, isA_stI, mI_stI, mR_mW, mN_mW, isO_mW, isA_mW, mI_mW, mW_mW, stI_mW, nI_addL, nI_mulL, nI_subL, nI_ltL, nI_leL, nI_Llt, nI_Lle, nI_eqL, nI_Leq, nI_add, pk_mul, nI_ltI, nI_leI, nI_eq, vpi, nI_clamp, nI_toN, p_V_read, bk_oV hB, bk_v1 hB, hA, rwF_u, zuF_s]
    rw [if_neg (show ¬ 4 ≤ i by omega)]
    exact ih (i + 1) _ _ _ _ (by omega)
set_option maxRecDepth 100000 in
set_option maxHeartbeats 4000000 in
theorem ok_V_read (Z : Zt) (d : Nat) : okE Z (d + 7) i_V_read e_V_read := mk_V_read fun o M hp => by
  obtain ⟨rfl, hB, hT⟩ := hp
  refine Gm_run (C := []) (S := [2]) [some (.ref 17), none, none, none, none, none] 100 k_V_read okE_nil (ex_n rfl) ?_
  simp (disch := first | trivial | assumption | omega) only [run, go, jmp, seek, inS, e0, e1, e2, e3, e4, e5, tsw, e7, e8, e9, e10, e11, e12, splitA, rcv, clook, lget, lset, lset2, lkill, Option.toList, List.nil_append, List.cons_append, wsum, List.map_cons, List.map_nil, List.sum_cons, List.sum_nil, Value.category, Nat.reduceAdd, List.getD_cons_zero, List.getD_cons_succ, ↓reduceIte, if_true, if_false, Bool.false_eq_true, Nat.reduceLeDiff, Nat.reduceEqDiff, true_or, or_true, true_and, and_true, and_self, or_self, not_true, not_false_iff, mR_stI, mN_stI, isO_stI, isA_stI, mI_stI, mR_mW, mN_mW, isO_mW, isA_mW, mI_mW, mW_mW, stI_mW, nI_addL, nI_mulL, nI_subL, nI_ltL, nI_leL, nI_Llt, nI_Lle, nI_eqL, nI_Leq, nI_add, pk_mul, nI_ltI, nI_leI, nI_eq, vpi, nI_clamp, nI_toN, p_V_read]
  have := lz_V_read Z d hB hT 4 0 none none none none rfl
  rw [zuF_0, rwF_self] at this
  exact this
end
section
/-! ===== the bank in use ===== -/
def WB (M : Mem) : Prop := BkS M ∧ LedD (mI M) 20 ∧ LedD (mI M) 35 ∧ HisD (mI M) ∧ TxD (mI M)
theorem nw_o {M : Mem} (h : BkS M) : isO M 20 2 = True := bk_O h rfl (by omega)
theorem nw_og {M : Mem} (h : BkS M) : isO M 30 0 = True := bk_O h rfl (by omega)
theorem nw_od {M : Mem} (h : BkS M) : isO M 32 0 = True := bk_O h rfl (by omega)
theorem nw_ot {M : Mem} (h : BkS M) : isO M 35 2 = True := bk_O h rfl (by omega)
theorem nw_r0 {M : Mem} (h : BkS M) : mR M 20 0 = 21 := ld_r0 (bk_now h)
theorem nw_r1 {M : Mem} (h : BkS M) : mR M 20 1 = 22 := ld_r1 (bk_now h)
theorem nw_r2 {M : Mem} (h : BkS M) : mR M 20 2 = 23 := ld_r2 (bk_now h)
theorem nw_r3 {M : Mem} (h : BkS M) : mR M 20 3 = 24 := ld_r3 (bk_now h)
theorem nw_r4 {M : Mem} (h : BkS M) : mR M 20 4 = 25 := ld_r4 (bk_now h)
theorem nw_r5 {M : Mem} (h : BkS M) : mR M 20 5 = 26 := ld_r5 (bk_now h)
theorem nw_r6 {M : Mem} (h : BkS M) : mR M 20 6 = 27 := ld_r6 (bk_now h)
theorem nw_r7 {M : Mem} (h : BkS M) : mR M 20 7 = 28 := ld_r7 (bk_now h)
theorem nw_r8 {M : Mem} (h : BkS M) : mR M 20 8 = 29 := ld_r8 (bk_now h)
theorem nw_r9 {M : Mem} (h : BkS M) : mR M 20 9 = 30 := ld_r9 (bk_now h)
theorem nw_r10 {M : Mem} (h : BkS M) : mR M 20 10 = 32 := ld_r10 (bk_now h)
theorem nw_r11 {M : Mem} (h : BkS M) : mR M 20 11 = 34 := ld_r11 (bk_now h)
theorem nw_a1 {M : Mem} (h : BkS M) {k : Nat} (hk : k < 4) : isA M 21 (nI k) = True := bk_A h (n := 4) rfl (by omega) hk (by omega)
theorem nw_a2 {M : Mem} (h : BkS M) {k : Nat} (hk : k < 4) : isA M 22 (nI k) = True := bk_A h (n := 4) rfl (by omega) hk (by omega)
theorem nw_a3 {M : Mem} (h : BkS M) {k : Nat} (hk : k < 4) : isA M 23 (nI k) = True := bk_A h (n := 4) rfl (by omega) hk (by omega)
theorem nw_a4 {M : Mem} (h : BkS M) {k : Nat} (hk : k < 6) : isA M 24 (nI k) = True := bk_A h (n := 6) rfl (by omega) hk (by omega)
theorem nw_a5 {M : Mem} (h : BkS M) {k : Nat} (hk : k < 6) : isA M 25 (nI k) = True := bk_A h (n := 6) rfl (by omega) hk (by omega)
theorem nw_a6 {M : Mem} (h : BkS M) {k : Nat} (hk : k < 6) : isA M 26 (nI k) = True := bk_A h (n := 6) rfl (by omega) hk (by omega)
theorem nw_a7 {M : Mem} (h : BkS M) {k : Nat} (hk : k < 24) : isA M 27 (nI k) = True := bk_A h (n := 24) rfl (by omega) hk (by omega)
theorem nw_a8 {M : Mem} (h : BkS M) {k : Nat} (hk : k < 24) : isA M 28 (nI k) = True := bk_A h (n := 24) rfl (by omega) hk (by omega)
theorem nw_a9 {M : Mem} (h : BkS M) {k : Nat} (hk : k < 24) : isA M 29 (nI k) = True := bk_A h (n := 24) rfl (by omega) hk (by omega)
theorem nw_a14 {M : Mem} (h : BkS M) {k : Nat} (hk : k < 6) : isA M 34 (nI k) = True := bk_A h (n := 6) rfl (by omega) hk (by omega)
theorem nw_as {M : Mem} (h : BkS M) {k : Nat} (hk : k < 24) : isA M 172 (nI k) = True := bk_A h (n := 24) rfl (by omega) hk (by omega)
theorem nw_at {M : Mem} (h : BkS M) {k : Nat} (hk : k < 6) : isA M 173 (nI k) = True := bk_A h (n := 6) rfl (by omega) hk (by omega)
theorem I_nI {v : Int32} (h : 0 ≤ v) : ∃ k, v = nI k ∧ k < 2 ^ 31 ∧ v.toNatClampNeg = k := by
  have h2 := v.toInt_lt
  have h0 : 0 ≤ v.toInt := by
    have := Int32.le_iff_toInt_le.mp h
    exact this
  refine ⟨v.toInt.toNat, ?_, by omega, ?_⟩
  · apply Int32.toInt_inj.mp
    rw [nI_toInt (by omega)]
    omega
  · rfl
theorem I_lt {v : Int32} {n : Nat} (h : 0 ≤ v) (h2 : v < nI n) (hn : n < 2 ^ 31) : ∃ k, v = nI k ∧ k < n := by
  obtain ⟨k, hk, hk2, -⟩ := I_nI h
  subst hk
  exact ⟨k, rfl, (nI_ltI hk2 hn).mp h2⟩
theorem kp_w (M : Mem) : ∃ f r, kpM M = mW (mRW M r) f := by
  unfold kpM kpM1
  split
  · exact ⟨_, mR M, rfl⟩
  · exact ⟨_, _, rfl⟩
theorem kpM1_B {M : Mem} (h : BkS M) : BkS (kpM1 M) := by
  unfold kpM1
  split
  · exact h
  · exact bk_rot h
theorem kpM1_i {M : Mem} {x y : Nat} (h : x ≠ 50) : mI (kpM1 M) x y = mI M x y := by
  unfold kpM1
  split
  · rfl
  · exact u2_ne h
theorem kpS1_le {M : Mem} (h : HisD (mI M)) : kpS1 M < 8 := by
  unfold kpS1
  split <;> omega
theorem kp_i {M : Mem} (hB : BkS M) (hH : HisD (mI M)) {x y : Nat} (h : x < 50 ∨ 171 < x) : mI (kpM M) x y = mI M x y := by
  obtain ⟨j, hj, e⟩ := bk_st (kpM1_B hB) (kpS1_le hH)
  show u2 (cfF (mI (kpM1 M)) (mR (kpM1 M) 51 (kpS1 M)) 20) 50 1 (nI (kpS1 M + 1)) x y = mI M x y
  rw [u2_ne (by omega), e, cfF_out (by omega), kpM1_i (by omega)]
theorem kp_B {M : Mem} (hB : BkS M) : BkS (kpM M) := kpM1_B hB
theorem LedD_cg {f g : Nat → Nat → Int32} {b : Nat} (h : LedD f b) (h1 : ∀ k, g b k = f b k) (h2 : ∀ k, g (b + 10) k = f (b + 10) k) (h3 : ∀ k, g (b + 12) k = f (b + 12) k) : LedD g b := LedD_congr h (h1 12) (h1 13) (h2 2) (h3 2)
theorem kp_W {M : Mem} (h : WB M) : WB (kpM M) := by
  obtain ⟨hB, hD, hD2, hH, hT⟩ := h
  have hB1 := kpM1_B hB
  obtain ⟨j, hj, e⟩ := bk_st hB1 (kpS1_le hH)
  have k := fun x y h => kp_i hB hH (x := x) (y := y) h
  have h50 : mI (kpM M) 50 1 = nI (kpS1 M + 1) := u2_eq (f := cfF (mI (kpM1 M)) (mR (kpM1 M) 51 (kpS1 M)) 20) (a := 50) (k := 1)
  have hle := kpS1_le hH
  have hhs : hs (mI (kpM M)) = kpS1 M + 1 := by unfold hs; rw [h50, nI_toN (by omega)]
  refine ⟨hB1, LedD_cg hD (fun y => k _ y (by omega)) (fun y => k _ y (by omega)) (fun y => k _ y (by omega)), LedD_cg hD2 (fun y => k _ y (by omega)) (fun y => k _ y (by omega)) (fun y => k _ y (by omega)), ⟨by rw [hhs, h50], by omega, fun i hi => ?_⟩, ?_⟩
  · have q : LedD (cfF (mI (kpM1 M)) (mR (kpM1 M) 51 (kpS1 M)) 20) (52 + 15 * i) := by
      rw [e]
      have q1 : ∀ b, b ≠ 50 → LedD (mI M) b → b + 10 ≠ 50 → b + 12 ≠ 50 → LedD (mI (kpM1 M)) b := fun b h1 h h2 h3 => LedD_cg h (fun y => kpM1_i h1) (fun y => kpM1_i h2) (fun y => kpM1_i h3)
      by_cases z : i = j
      · rw [z]
        exact cfF_D (q1 20 (by omega) hD (by omega) (by omega))
      · exact LedD_cg (q1 _ (by omega) (hH.2.2 i hi) (by omega) (by omega)) (fun y => cfF_out (by omega)) (fun y => cfF_out (by omega)) (fun y => cfF_out (by omega))
    exact LedD_cg q (fun y => u2_ne (by omega)) (fun y => u2_ne (by omega)) (fun y => u2_ne (by omega))
  · unfold TxD tl
    rw [k 17 2 (by omega)]
    exact hT
end
section
theorem bv_Tr : bv True = 1 := bv_T trivial
theorem bv_Fa : bv False = 0 := bv_F id
theorem one_n0 : ((1 : Int32) = 0) = False := by decide
theorem fa_not_lt {a b : Int32} : (a < b) = ¬ b ≤ a := propext Int32.not_le.symm
abbrev vT (f : Nat → Nat → Int32) (t : Int32) : Prop := 0 ≤ t ∧ t < nI (lnT f 20)
abbrev vR (r : Int32) : Prop := 0 ≤ r ∧ r < 4
theorem vT_nI {f : Nat → Nat → Int32} {t : Int32} (hD : LedD f 20) (h : vT f t) : ∃ k, t = nI k ∧ k < lnT f 20 ∧ k < 6 := by
  have h6 : lnT f 20 ≤ 6 := hD.2.2.2.2.2.1
  obtain ⟨k, hk, hk2⟩ := I_lt h.1 h.2 (by omega)
  exact ⟨k, hk, hk2, by omega⟩
theorem vR_nI {r : Int32} (h : vR r) : ∃ k, r = nI k ∧ k < 4 := I_lt (n := 4) h.1 h.2 (by omega)
def tyR (f : Nat → Nat → Int32) (v : Int32) : Int32 := if 0 ≤ v ∧ v ≤ 127 then (if tl f < 60 then nI (tl f + 1) else -1000002) else -1000000
def tyF (f : Nat → Nat → Int32) (v : Int32) : Nat → Nat → Int32 := if 0 ≤ v ∧ v ≤ 127 then apF f v else f
def e_B_type : Ent := (fun av M => ∃ (o : Nat) (v : Int32), av = [.ref o, .int v] ∧ (o = 16 ∧ WB M), fun av M r_ M_ => ∀ (o : Nat) (v : Int32), av = [.ref o, .int v] → r_ = (some (.int (tyR (mI M) v))) ∧ M_ = (mW M (tyF (mI M) v)))
theorem pc_B_type {o : Nat} {v : Int32} {M : Mem} {K : Option Value → Mem → Prop} (hp : o = 16 ∧ WB M) : pcall e_B_type [.ref o, .int v] M K = K (some (.int (tyR (mI M) v))) (mW M (tyF (mI M) v)) := propext ⟨fun h => h.2 _ _ (fun o' v' e => by simp only [List.cons.injEq, Value.ref.injEq, Value.int.injEq, Value.long.injEq, and_true] at e; obtain ⟨q0, q1⟩ := e; obtain rfl := q0; obtain rfl := q1; exact ⟨rfl, rfl⟩), fun h => ⟨⟨o, v, rfl, hp⟩, fun r_ M_ q => by obtain ⟨rfl, rfl⟩ := q _ _ rfl; exact h⟩⟩
theorem mk_B_type {Z : Zt} {d : Nat} (h : ∀ (o : Nat) (v : Int32) (M : Mem), (o = 16 ∧ WB M) → Gm Z d s_B_type [.ref o, .int v] M (ex (some (.int (tyR (mI M) v))) (mW M (tyF (mI M) v)))) : okE Z d i_B_type e_B_type := by
  rintro av M ⟨o, v, rfl, hp⟩
  exact Gm.cons (h o v M  hp) (fun r_ M_ q o' v' e => by simp only [List.cons.injEq, Value.ref.injEq, Value.int.injEq, Value.long.injEq, and_true] at e; obtain ⟨q0, q1⟩ := e; obtain rfl := q0; obtain rfl := q1; exact q)
set_option maxRecDepth 100000 in
set_option maxHeartbeats 4000000 in
theorem ok_B_type (Z : Zt) (d : Nat) : okE Z (d + 2) i_B_type e_B_type := mk_B_type fun o v M hp => by
  obtain ⟨rfl, hB, hD, -, hH, hT⟩ := hp
  have hl := hT.2
  refine Gm_run (C := [(i_B_within, e_B_within), (i_V_append, e_V_append)]) (S := []) [some (.ref 16), some (.int v)] 100 k_B_type (okE_cons (ok_B_within Z d) (okE_cons (ok_V_append Z d) okE_nil)) (ex_n rfl) ?_
  unfold tyR tyF
  simp (disch := first | trivial | assumption | omega) only [run, go, jmp, seek, inS, e0, e1, e2, e3, e4, e5, tsw, e7, e8, e9, e10, e11, e12, splitA, rcv, clook, lget, lset, lset2, lkill, Option.toList, List.nil_append, List.cons_append, wsum, List.map_cons, List.map_nil, List.sum_cons, List.sum_nil, Value.category, Nat.reduceAdd, List.getD_cons_zero, List.getD_cons_succ, ↓reduceIte, if_true, if_false, Bool.false_eq_true, Nat.reduceLeDiff, Nat.reduceEqDiff, true_or, or_true, true_and, and_true, and_self, or_self, not_true, not_false_iff, mR_stI, mN_stI, isO_stI, isA_stI, mI_stI, mR_mW, mN_mW, isO_mW, isA_mW, mI_mW, mW_mW, stI_mW, nI_addL, nI_mulL, nI_subL, nI_ltL, nI_leL, nI_Llt, nI_Lle, nI_eqL, nI_Leq, nI_add, pk_mul, nI_ltI, nI_leI, nI_eq, vpi, nI_clamp, nI_toN, bk_oB hB, bk_oV hB, bk_oH hB, bk_b0 hB, bk_b1 hB, bk_b2 hB, bk_b3 hB, bk_b4 hB, bk_b5 hB, bk_v0 hB, bk_v1 hB, bk_h0 hB, nw_o hB, nw_og hB, nw_od hB, nw_ot hB, nw_r9 hB, nw_r10 hB, nw_r11 hB, nw_r0 hB, nw_r1 hB, nw_r2 hB, nw_r3 hB, nw_r4 hB, nw_r5 hB, nw_r6 hB, nw_r7 hB, nw_r8 hB, nw_a1 hB, nw_a2 hB, nw_a3 hB, nw_a4 hB, nw_a5 hB, nw_a6 hB, nw_a7 hB, nw_a8 hB, nw_a9 hB, nw_a14 hB, nw_as hB, nw_at hB, p_B_type, i_B_within, i_V_append, pc_B_within, pc_V_append (o := 17) (v := v) (M := M) ⟨rfl, hB, hT⟩, bv_0]
  by_cases h1 : 0 ≤ v ∧ v ≤ 127
  · simp only [h1, and_self, not_true, if_true, if_false]
    by_cases h2 : tl (mI M) < 60
    · have e : apF (mI M) v 17 2 = nI (tl (mI M) + 1) := by rw [apF, if_pos h2, u2_eq]
      simp only [h2, not_true, if_true, if_false, e]
      exact ⟨rfl, rfl⟩
    · simp only [h2, not_false_iff, if_true, if_false]
      exact ⟨rfl, rfl⟩
  · simp only [h1, not_false_iff, if_true, if_false]
    exact ⟨rfl, rfl⟩
def e_B_clearText : Ent := (fun av M => ∃ (o : Nat), av = [.ref o] ∧ (o = 16 ∧ WB M), fun av M r_ M_ => ∀ (o : Nat), av = [.ref o] → r_ = (some (.int (nI (tl (mI M))))) ∧ M_ = (mW M (u2 (mI M) 17 2 0)))
theorem pc_B_clearText {o : Nat} {M : Mem} {K : Option Value → Mem → Prop} (hp : o = 16 ∧ WB M) : pcall e_B_clearText [.ref o] M K = K (some (.int (nI (tl (mI M))))) (mW M (u2 (mI M) 17 2 0)) := propext ⟨fun h => h.2 _ _ (fun o' e => by simp only [List.cons.injEq, Value.ref.injEq, Value.int.injEq, Value.long.injEq, and_true] at e; have q0 := e; obtain rfl := q0; exact ⟨rfl, rfl⟩), fun h => ⟨⟨o, rfl, hp⟩, fun r_ M_ q => by obtain ⟨rfl, rfl⟩ := q _ rfl; exact h⟩⟩
theorem mk_B_clearText {Z : Zt} {d : Nat} (h : ∀ (o : Nat) (M : Mem), (o = 16 ∧ WB M) → Gm Z d s_B_clearText [.ref o] M (ex (some (.int (nI (tl (mI M))))) (mW M (u2 (mI M) 17 2 0)))) : okE Z d i_B_clearText e_B_clearText := by
  rintro av M ⟨o, rfl, hp⟩
  exact Gm.cons (h o M  hp) (fun r_ M_ q o' e => by simp only [List.cons.injEq, Value.ref.injEq, Value.int.injEq, Value.long.injEq, and_true] at e; have q0 := e; obtain rfl := q0; exact q)
set_option maxRecDepth 100000 in
set_option maxHeartbeats 4000000 in
theorem ok_B_clearText (Z : Zt) (d : Nat) : okE Z (d + 1) i_B_clearText e_B_clearText := mk_B_clearText fun o M hp => by
  obtain ⟨rfl, hB, hD, -, hH, hT⟩ := hp
  refine Gm_run (C := []) (S := []) [some (.ref 16), none] 100 k_B_clearText okE_nil (ex_n rfl) ?_
  simp (disch := first | trivial | assumption | omega) only [run, go, jmp, seek, inS, e0, e1, e2, e3, e4, e5, tsw, e7, e8, e9, e10, e11, e12, splitA, rcv, clook, lget, lset, lset2, lkill, Option.toList, List.nil_append, List.cons_append, wsum, List.map_cons, List.map_nil, List.sum_cons, List.sum_nil, Value.category, Nat.reduceAdd, List.getD_cons_zero, List.getD_cons_succ, ↓reduceIte, if_true, if_false, Bool.false_eq_true, Nat.reduceLeDiff, Nat.reduceEqDiff, true_or, or_true, true_and, and_true, and_self, or_self, not_true, not_false_iff, mR_stI, mN_stI, isO_stI, isA_stI, mI_stI, mR_mW, mN_mW, isO_mW, isA_mW, mI_mW, mW_mW, stI_mW, nI_addL, nI_mulL, nI_subL, nI_ltL, nI_leL, nI_Llt, nI_Lle, nI_eqL, nI_Leq, nI_add, pk_mul, nI_ltI, nI_leI, nI_eq, vpi, nI_clamp, nI_toN, bk_oB hB, bk_oV hB, bk_oH hB, bk_b0 hB, bk_b1 hB, bk_b2 hB, bk_b3 hB, bk_b4 hB, bk_b5 hB, bk_v0 hB, bk_v1 hB, bk_h0 hB, nw_o hB, nw_og hB, nw_od hB, nw_ot hB, nw_r9 hB, nw_r10 hB, nw_r11 hB, nw_r0 hB, nw_r1 hB, nw_r2 hB, nw_r3 hB, nw_r4 hB, nw_r5 hB, nw_r6 hB, nw_r7 hB, nw_r8 hB, nw_a1 hB, nw_a2 hB, nw_a3 hB, nw_a4 hB, nw_a5 hB, nw_a6 hB, nw_a7 hB, nw_a8 hB, nw_a9 hB, nw_a14 hB, nw_as hB, nw_at hB, p_B_clearText, hT.1]
  exact ⟨rfl, rfl⟩
def e_B_fault : Ent := (fun av M => ∃ (o : Nat), av = [.ref o] ∧ (o = 16 ∧ WB M), fun av M r_ M_ => ∀ (o : Nat), av = [.ref o] → r_ = (some (.int (rvF (mI M)).1)) ∧ M_ = (mW M (rwF (mI M) 19 (rvF (mI M)).2)))
theorem pc_B_fault {o : Nat} {M : Mem} {K : Option Value → Mem → Prop} (hp : o = 16 ∧ WB M) : pcall e_B_fault [.ref o] M K = K (some (.int (rvF (mI M)).1)) (mW M (rwF (mI M) 19 (rvF (mI M)).2)) := propext ⟨fun h => h.2 _ _ (fun o' e => by simp only [List.cons.injEq, Value.ref.injEq, Value.int.injEq, Value.long.injEq, and_true] at e; have q0 := e; obtain rfl := q0; exact ⟨rfl, rfl⟩), fun h => ⟨⟨o, rfl, hp⟩, fun r_ M_ q => by obtain ⟨rfl, rfl⟩ := q _ rfl; exact h⟩⟩
theorem mk_B_fault {Z : Zt} {d : Nat} (h : ∀ (o : Nat) (M : Mem), (o = 16 ∧ WB M) → Gm Z d s_B_fault [.ref o] M (ex (some (.int (rvF (mI M)).1)) (mW M (rwF (mI M) 19 (rvF (mI M)).2)))) : okE Z d i_B_fault e_B_fault := by
  rintro av M ⟨o, rfl, hp⟩
  exact Gm.cons (h o M  hp) (fun r_ M_ q o' e => by simp only [List.cons.injEq, Value.ref.injEq, Value.int.injEq, Value.long.injEq, and_true] at e; have q0 := e; obtain rfl := q0; exact q)
set_option maxRecDepth 100000 in
set_option maxHeartbeats 4000000 in
theorem ok_B_fault (Z : Zt) (d : Nat) : okE Z (d + 8) i_B_fault e_B_fault := mk_B_fault fun o M hp => by
  obtain ⟨rfl, hB, hD, -, hH, hT⟩ := hp
  refine Gm_run (C := [(i_V_read, e_V_read)]) (S := []) [some (.ref 16)] 100 k_B_fault (okE_cons (ok_V_read Z d) okE_nil) (ex_n rfl) ?_
  simp (disch := first | trivial | assumption | omega) only [run, go, jmp, seek, inS, e0, e1, e2, e3, e4, e5, tsw, e7, e8, e9, e10, e11, e12, splitA, rcv, clook, lget, lset, lset2, lkill, Option.toList, List.nil_append, List.cons_append, wsum, List.map_cons, List.map_nil, List.sum_cons, List.sum_nil, Value.category, Nat.reduceAdd, List.getD_cons_zero, List.getD_cons_succ, ↓reduceIte, if_true, if_false, Bool.false_eq_true, Nat.reduceLeDiff, Nat.reduceEqDiff, true_or, or_true, true_and, and_true, and_self, or_self, not_true, not_false_iff, mR_stI, mN_stI, isO_stI, isA_stI, mI_stI, mR_mW, mN_mW, isO_mW, isA_mW, mI_mW, mW_mW, stI_mW, nI_addL, nI_mulL, nI_subL, nI_ltL, nI_leL, nI_Llt, nI_Lle, nI_eqL, nI_Leq, nI_add, pk_mul, nI_ltI, nI_leI, nI_eq, vpi, nI_clamp, nI_toN, bk_oB hB, bk_oV hB, bk_oH hB, bk_b0 hB, bk_b1 hB, bk_b2 hB, bk_b3 hB, bk_b4 hB, bk_b5 hB, bk_v0 hB, bk_v1 hB, bk_h0 hB, nw_o hB, nw_og hB, nw_od hB, nw_ot hB, nw_r9 hB, nw_r10 hB, nw_r11 hB, nw_r0 hB, nw_r1 hB, nw_r2 hB, nw_r3 hB, nw_r4 hB, nw_r5 hB, nw_r6 hB, nw_r7 hB, nw_r8 hB, nw_a1 hB, nw_a2 hB, nw_a3 hB, nw_a4 hB, nw_a5 hB, nw_a6 hB, nw_a7 hB, nw_a8 hB, nw_a9 hB, nw_a14 hB, nw_as hB, nw_at hB, p_B_fault, i_V_read, pc_V_read (o := 17) (M := M) ⟨rfl, hB, hT⟩]
  exact ⟨rfl, rfl⟩
def srR (f : Nat → Nat → Int32) (r b n : Int32) : Int32 := if vR r ∧ 0 ≤ n ∧ n ≤ 999 then (if b = 0 ∧ ¬ f 23 r.toNatClampNeg ≤ n then -1000001 else f (if b = 0 then 21 else 22) r.toNatClampNeg) else -1000000
noncomputable def srM (M : Mem) (r b n : Int32) : Mem := if vR r ∧ 0 ≤ n ∧ n ≤ 999 then (if b = 0 ∧ ¬ mI M 23 r.toNatClampNeg ≤ n then M else mW (kpM M) (u2 (mI (kpM M)) (if b = 0 then 21 else 22) r.toNatClampNeg n)) else M
theorem kp_n (M : Mem) : mN (kpM M) = mN M := by
  obtain ⟨f, r, e⟩ := kp_w M
  rw [e]
  rfl
theorem kp_x {M : Mem} {p : Prop} [Decidable p] {f : Nat → Nat → Int32} : mN (if p then mW (kpM M) f else M) = mN M := by
  split
  · exact kp_n M
  · rfl
theorem srM_n (M : Mem) (r b n : Int32) : mN (srM M r b n) = mN M := by
  unfold srM
  split
  · split
    · rfl
    · exact kp_n M
  · rfl
def e_B_setResource : Ent := (fun av M => ∃ (o : Nat) (r : Int32) (b : Int32) (n : Int32), av = [.ref o, .int r, .int b, .int n] ∧ (o = 16 ∧ WB M), fun av M r_ M_ => ∀ (o : Nat) (r : Int32) (b : Int32) (n : Int32), av = [.ref o, .int r, .int b, .int n] → r_ = (some (.int (srR (mI M) r b n))) ∧ M_ = (srM M r b n))
theorem pc_B_setResource {o : Nat} {r : Int32} {b : Int32} {n : Int32} {M : Mem} {K : Option Value → Mem → Prop} (hp : o = 16 ∧ WB M) : pcall e_B_setResource [.ref o, .int r, .int b, .int n] M K = K (some (.int (srR (mI M) r b n))) (srM M r b n) := propext ⟨fun h => h.2 _ _ (fun o' r' b' n' e => by simp only [List.cons.injEq, Value.ref.injEq, Value.int.injEq, Value.long.injEq, and_true] at e; obtain ⟨q0, q1, q2, q3⟩ := e; obtain rfl := q0; obtain rfl := q1; obtain rfl := q2; obtain rfl := q3; exact ⟨rfl, rfl⟩), fun h => ⟨⟨o, r, b, n, rfl, hp⟩, fun r_ M_ q => by obtain ⟨rfl, rfl⟩ := q _ _ _ _ rfl; exact h⟩⟩
theorem mk_B_setResource {Z : Zt} {d : Nat} (h : ∀ (o : Nat) (r : Int32) (b : Int32) (n : Int32) (M : Mem), (o = 16 ∧ WB M) → Gm Z d s_B_setResource [.ref o, .int r, .int b, .int n] M (ex (some (.int (srR (mI M) r b n))) (srM M r b n))) : okE Z d i_B_setResource e_B_setResource := by
  rintro av M ⟨o, r, b, n, rfl, hp⟩
  exact Gm.cons (h o r b n M  hp) (fun r_ M_ q o' r' b' n' e => by simp only [List.cons.injEq, Value.ref.injEq, Value.int.injEq, Value.long.injEq, and_true] at e; obtain ⟨q0, q1, q2, q3⟩ := e; obtain rfl := q0; obtain rfl := q1; obtain rfl := q2; obtain rfl := q3; exact q)
set_option maxRecDepth 100000 in
set_option maxHeartbeats 4000000 in
theorem ok_B_setResource (Z : Zt) (d : Nat) : okE Z (d + 5) i_B_setResource e_B_setResource := mk_B_setResource fun o r b n M hp => by
  obtain ⟨rfl, hB, hD, hD2, hH, hT⟩ := hp
  have hB2 := kp_B hB
  have hk1 : ∀ {y}, mI (kpM M) 21 y = mI M 21 y := fun {y} => kp_i hB hH (by omega)
  have hk2 : ∀ {y}, mI (kpM M) 22 y = mI M 22 y := fun {y} => kp_i hB hH (by omega)
  have hC : ∀ q ∈ [(i_B_within, e_B_within), (i_B_isResource, e_B_isResource), (i_H_keep, e_H_keep)], okE Z (d + 4) q.1 q.2 := (okE_cons (ok_B_within Z (d + 3)) (okE_cons (ok_B_isResource Z (d + 3)) (okE_cons (ok_H_keep Z d) okE_nil)))
  by_cases h1 : 0 ≤ r ∧ r < 4
  · obtain ⟨k, rfl, hk⟩ := vR_nI h1
    by_cases h2 : 0 ≤ n ∧ n ≤ 999 <;> by_cases h3 : b = 0 <;> by_cases h4 : mI M 23 k ≤ n <;> refine Gm_run (S := []) [some (.ref 16), some (.int (nI k)), some (.int b), some (.int n), none, none] 100 k_B_setResource hC (ex_n (srM_n M _ b n)) ?_ <;> unfold srR srM <;> simp (maxSteps := 3000000) (disch := first | exact True.intro | assumption | omega) only [↓run, ↓go, ↓jmp, seek, inS, ↓e0, ↓e1, ↓e2, ↓e3, ↓e4, ↓e5, ↓tsw, ↓e7, ↓e8, ↓e9, ↓e10, ↓e11, ↓e12, ↓splitA, rcv, clook, lget, lset, lset2, lkill, Option.toList, List.nil_append, List.cons_append, wsum, List.map_cons, List.map_nil, List.sum_cons, List.sum_nil, Value.category, Nat.reduceAdd, List.getD_cons_zero, List.getD_cons_succ, ↓reduceIte, if_true, if_false, Bool.false_eq_true, Nat.reduceLeDiff, Nat.reduceEqDiff, true_or, or_true, true_and, and_true, and_self, or_self, not_true, not_false_iff, mR_stI, mN_stI, isO_stI, isA_stI, mI_stI, mR_mW, mN_mW, isO_mW, isA_mW, mI_mW, mW_mW, stI_mW, nI_addL, nI_mulL, nI_subL, nI_ltL, nI_leL, nI_Llt, nI_Lle, nI_eqL, nI_Leq, nI_add, pk_mul, nI_ltI, nI_leI, nI_eq, vpi, nI_clamp, nI_toN, bk_oB hB, bk_oV hB, bk_oH hB, bk_b0 hB, bk_b1 hB, bk_b2 hB, bk_b3 hB, bk_b4 hB, bk_b5 hB, bk_v0 hB, bk_v1 hB, bk_h0 hB, nw_o hB, nw_og hB, nw_od hB, nw_ot hB, nw_r9 hB, nw_r10 hB, nw_r11 hB, nw_r0 hB, nw_r1 hB, nw_r2 hB, nw_r3 hB, nw_r4 hB, nw_r5 hB, nw_r6 hB, nw_r7 hB, nw_r8 hB, nw_a1 hB, nw_a2 hB, nw_a3 hB, nw_a4 hB, nw_a5 hB, nw_a6 hB, nw_a7 hB, nw_a8 hB, nw_a9 hB, nw_a14 hB, nw_as hB, nw_at hB, bk_oB hB2, bk_oV hB2, bk_oH hB2, bk_b0 hB2, bk_b1 hB2, bk_b2 hB2, bk_b3 hB2, bk_b4 hB2, bk_b5 hB2, bk_v0 hB2, bk_v1 hB2, bk_h0 hB2, nw_o hB2, nw_og hB2, nw_od hB2, nw_ot hB2, nw_r9 hB2, nw_r10 hB2, nw_r11 hB2, nw_r0 hB2, nw_r1 hB2, nw_r2 hB2, nw_r3 hB2, nw_r4 hB2, nw_r5 hB2, nw_r6 hB2, nw_r7 hB2, nw_r8 hB2, nw_a1 hB2, nw_a2 hB2, nw_a3 hB2, nw_a4 hB2, nw_a5 hB2, nw_a6 hB2, nw_a7 hB2, nw_a8 hB2, nw_a9 hB2, nw_a14 hB2, nw_as hB2, nw_at hB2, vR, vT, Nat.not_lt_zero, bv_Tr, bv_Fa, one_n0, eq_self, Nat.zero_le, and_true, true_and, and_false, false_and, not_true, not_false_iff, or_true, true_or, or_false, false_or, mN_mRW, ex_iff, p_B_setResource, i_B_within, i_B_isResource, i_H_keep, pc_B_within, pc_B_isResource, pc_H_keep (o := 50) (b := 20) (M := M) ⟨rfl, rfl, hB, hD, hH⟩, hk1, hk2, hk, h2, h3, h4]
  · refine Gm_run (S := []) [some (.ref 16), some (.int r), some (.int b), some (.int n), none, none] 100 k_B_setResource hC (ex_n (srM_n M r b n)) ?_
    unfold srR srM
    simp (maxSteps := 3000000) (disch := first | exact True.intro | assumption | omega) only [↓run, ↓go, ↓jmp, seek, inS, ↓e0, ↓e1, ↓e2, ↓e3, ↓e4, ↓e5, ↓tsw, ↓e7, ↓e8, ↓e9, ↓e10, ↓e11, ↓e12, ↓splitA, rcv, clook, lget, lset, lset2, lkill, Option.toList, List.nil_append, List.cons_append, wsum, List.map_cons, List.map_nil, List.sum_cons, List.sum_nil, Value.category, Nat.reduceAdd, List.getD_cons_zero, List.getD_cons_succ, ↓reduceIte, if_true, if_false, Bool.false_eq_true, Nat.reduceLeDiff, Nat.reduceEqDiff, true_or, or_true, true_and, and_true, and_self, or_self, not_true, not_false_iff, mR_stI, mN_stI, isO_stI, isA_stI, mI_stI, mR_mW, mN_mW, isO_mW, isA_mW, mI_mW, mW_mW, stI_mW, nI_addL, nI_mulL, nI_subL, nI_ltL, nI_leL, nI_Llt, nI_Lle, nI_eqL, nI_Leq, nI_add, pk_mul, nI_ltI, nI_leI, nI_eq, vpi, nI_clamp, nI_toN, bk_oB hB, bk_oV hB, bk_oH hB, bk_b0 hB, bk_b1 hB, bk_b2 hB, bk_b3 hB, bk_b4 hB, bk_b5 hB, bk_v0 hB, bk_v1 hB, bk_h0 hB, nw_o hB, nw_og hB, nw_od hB, nw_ot hB, nw_r9 hB, nw_r10 hB, nw_r11 hB, nw_r0 hB, nw_r1 hB, nw_r2 hB, nw_r3 hB, nw_r4 hB, nw_r5 hB, nw_r6 hB, nw_r7 hB, nw_r8 hB, nw_a1 hB, nw_a2 hB, nw_a3 hB, nw_a4 hB, nw_a5 hB, nw_a6 hB, nw_a7 hB, nw_a8 hB, nw_a9 hB, nw_a14 hB, nw_as hB, nw_at hB, vR, vT, Nat.not_lt_zero, bv_Tr, bv_Fa, one_n0, eq_self, Nat.zero_le, and_true, true_and, and_false, false_and, not_true, not_false_iff, or_true, true_or, or_false, false_or, mN_mRW, ex_iff, p_B_setResource, i_B_within, i_B_isResource, pc_B_isResource, h1]
end
section
def rsR (f : Nat → Nat → Int32) (n : Int32) : Int32 := if 1 ≤ n ∧ n ≤ 99 then f 20 15 else -1000000
noncomputable def rtM (M : Mem) (n : Int32) : Mem := if 1 ≤ n ∧ n ≤ 99 then mW (kpM M) (u2 (mI (kpM M)) 20 15 n) else M
def e_B_setRest : Ent := (fun av M => ∃ (o : Nat) (n : Int32), av = [.ref o, .int n] ∧ (o = 16 ∧ WB M), fun av M r_ M_ => ∀ (o : Nat) (n : Int32), av = [.ref o, .int n] → r_ = (some (.int (rsR (mI M) n))) ∧ M_ = (rtM M n))
theorem pc_B_setRest {o : Nat} {n : Int32} {M : Mem} {K : Option Value → Mem → Prop} (hp : o = 16 ∧ WB M) : pcall e_B_setRest [.ref o, .int n] M K = K (some (.int (rsR (mI M) n))) (rtM M n) := propext ⟨fun h => h.2 _ _ (fun o' n' e => by simp only [List.cons.injEq, Value.ref.injEq, Value.int.injEq, Value.long.injEq, and_true] at e; obtain ⟨q0, q1⟩ := e; obtain rfl := q0; obtain rfl := q1; exact ⟨rfl, rfl⟩), fun h => ⟨⟨o, n, rfl, hp⟩, fun r_ M_ q => by obtain ⟨rfl, rfl⟩ := q _ _ rfl; exact h⟩⟩
theorem mk_B_setRest {Z : Zt} {d : Nat} (h : ∀ (o : Nat) (n : Int32) (M : Mem), (o = 16 ∧ WB M) → Gm Z d s_B_setRest [.ref o, .int n] M (ex (some (.int (rsR (mI M) n))) (rtM M n))) : okE Z d i_B_setRest e_B_setRest := by
  rintro av M ⟨o, n, rfl, hp⟩
  exact Gm.cons (h o n M  hp) (fun r_ M_ q o' n' e => by simp only [List.cons.injEq, Value.ref.injEq, Value.int.injEq, Value.long.injEq, and_true] at e; obtain ⟨q0, q1⟩ := e; obtain rfl := q0; obtain rfl := q1; exact q)
set_option maxRecDepth 100000 in
set_option maxHeartbeats 4000000 in
theorem ok_B_setRest (Z : Zt) (d : Nat) : okE Z (d + 5) i_B_setRest e_B_setRest := mk_B_setRest fun o n M hp => by
  obtain ⟨rfl, hB, hD, hD2, hH, hT⟩ := hp
  have hB2 := kp_B hB
  have hk1 : ∀ {y}, mI (kpM M) 20 y = mI M 20 y := fun {y} => kp_i hB hH (by omega)
  have hC : ∀ q ∈ [(i_B_within, e_B_within), (i_H_keep, e_H_keep)], okE Z (d + 4) q.1 q.2 := (okE_cons (ok_B_within Z (d + 3)) (okE_cons (ok_H_keep Z d) okE_nil))
  have hn : mN (rtM M n) = mN M := by unfold rtM; split; exact kp_n M; rfl
  by_cases h2 : 1 ≤ n ∧ n ≤ 99 <;> refine Gm_run (S := []) [some (.ref 16), some (.int n), none] 100 k_B_setRest hC (ex_n hn) ?_ <;> unfold rsR rtM <;> simp (maxSteps := 3000000) (disch := first | exact True.intro | assumption | omega) only [↓run, ↓go, ↓jmp, seek, inS, ↓e0, ↓e1, ↓e2, ↓e3, ↓e4, ↓e5, ↓tsw, ↓e7, ↓e8, ↓e9, ↓e10, ↓e11, ↓e12, ↓splitA, rcv, clook, lget, lset, lset2, lkill, Option.toList, List.nil_append, List.cons_append, wsum, List.map_cons, List.map_nil, List.sum_cons, List.sum_nil, Value.category, Nat.reduceAdd, List.getD_cons_zero, List.getD_cons_succ, ↓reduceIte, if_true, if_false, Bool.false_eq_true, Nat.reduceLeDiff, Nat.reduceEqDiff, true_or, or_true, true_and, and_true, and_self, or_self, not_true, not_false_iff, mR_stI, mN_stI, isO_stI, isA_stI, mI_stI, mR_mW, mN_mW, isO_mW, isA_mW, mI_mW, mW_mW, stI_mW, nI_addL, nI_mulL, nI_subL, nI_ltL, nI_leL, nI_Llt, nI_Lle, nI_eqL, nI_Leq, nI_add, pk_mul, nI_ltI, nI_leI, nI_eq, vpi, nI_clamp, nI_toN, bk_oB hB, bk_oV hB, bk_oH hB, bk_b0 hB, bk_b1 hB, bk_b2 hB, bk_b3 hB, bk_b4 hB, bk_b5 hB, bk_v0 hB, bk_v1 hB, bk_h0 hB, nw_o hB, nw_og hB, nw_od hB, nw_ot hB, nw_r9 hB, nw_r10 hB, nw_r11 hB, nw_r0 hB, nw_r1 hB, nw_r2 hB, nw_r3 hB, nw_r4 hB, nw_r5 hB, nw_r6 hB, nw_r7 hB, nw_r8 hB, nw_a1 hB, nw_a2 hB, nw_a3 hB, nw_a4 hB, nw_a5 hB, nw_a6 hB, nw_a7 hB, nw_a8 hB, nw_a9 hB, nw_a14 hB, nw_as hB, nw_at hB, bk_oB hB2, bk_oV hB2, bk_oH hB2, bk_b0 hB2, bk_b1 hB2, bk_b2 hB2, bk_b3 hB2, bk_b4 hB2, bk_b5 hB2, bk_v0 hB2, bk_v1 hB2, bk_h0 hB2, nw_o hB2, nw_og hB2, nw_od hB2, nw_ot hB2, nw_r9 hB2, nw_r10 hB2, nw_r11 hB2, nw_r0 hB2, nw_r1 hB2, nw_r2 hB2, nw_r3 hB2, nw_r4 hB2, nw_r5 hB2, nw_r6 hB2, nw_r7 hB2, nw_r8 hB2, nw_a1 hB2, nw_a2 hB2, nw_a3 hB2, nw_a4 hB2, nw_a5 hB2, nw_a6 hB2, nw_a7 hB2, nw_a8 hB2, nw_a9 hB2, nw_a14 hB2, nw_as hB2, nw_at hB2, vR, vT, Nat.not_lt_zero, bv_Tr, bv_Fa, one_n0, eq_self, Nat.zero_le, and_true, true_and, and_false, false_and, not_true, not_false_iff, or_true, true_or, or_false, false_or, mN_mRW, ex_iff, p_B_setRest, i_B_within, i_H_keep, pc_B_within, pc_H_keep (o := 50) (b := 20) (M := M) ⟨rfl, rfl, hB, hD, hH⟩, hk1, h2]
def atR (f : Nat → Nat → Int32) (n : Int32) : Int32 := if 1 ≤ n ∧ n ≤ 9 then (if lnT f 20 < 6 then nI (lnT f 20) else -1000002) else -1000000
noncomputable def atM (M : Mem) (n : Int32) : Mem := if (1 ≤ n ∧ n ≤ 9) ∧ lnT (mI M) 20 < 6 then mW (kpM M) (u2 (u2 (mI (kpM M)) 24 (lnT (mI M) 20) n) 20 13 (nI (lnT (mI M) 20 + 1))) else M
def e_B_addTenant : Ent := (fun av M => ∃ (o : Nat) (n : Int32), av = [.ref o, .int n] ∧ (o = 16 ∧ WB M), fun av M r_ M_ => ∀ (o : Nat) (n : Int32), av = [.ref o, .int n] → r_ = (some (.int (atR (mI M) n))) ∧ M_ = (atM M n))
theorem pc_B_addTenant {o : Nat} {n : Int32} {M : Mem} {K : Option Value → Mem → Prop} (hp : o = 16 ∧ WB M) : pcall e_B_addTenant [.ref o, .int n] M K = K (some (.int (atR (mI M) n))) (atM M n) := propext ⟨fun h => h.2 _ _ (fun o' n' e => by simp only [List.cons.injEq, Value.ref.injEq, Value.int.injEq, Value.long.injEq, and_true] at e; obtain ⟨q0, q1⟩ := e; obtain rfl := q0; obtain rfl := q1; exact ⟨rfl, rfl⟩), fun h => ⟨⟨o, n, rfl, hp⟩, fun r_ M_ q => by obtain ⟨rfl, rfl⟩ := q _ _ rfl; exact h⟩⟩
theorem mk_B_addTenant {Z : Zt} {d : Nat} (h : ∀ (o : Nat) (n : Int32) (M : Mem), (o = 16 ∧ WB M) → Gm Z d s_B_addTenant [.ref o, .int n] M (ex (some (.int (atR (mI M) n))) (atM M n))) : okE Z d i_B_addTenant e_B_addTenant := by
  rintro av M ⟨o, n, rfl, hp⟩
  exact Gm.cons (h o n M  hp) (fun r_ M_ q o' n' e => by simp only [List.cons.injEq, Value.ref.injEq, Value.int.injEq, Value.long.injEq, and_true] at e; obtain ⟨q0, q1⟩ := e; obtain rfl := q0; obtain rfl := q1; exact q)
set_option maxRecDepth 100000 in
set_option maxHeartbeats 4000000 in
theorem ok_B_addTenant (Z : Zt) (d : Nat) : okE Z (d + 5) i_B_addTenant e_B_addTenant := mk_B_addTenant fun o n M hp => by
  obtain ⟨rfl, hB, hD, hD2, hH, hT⟩ := hp
  have hB2 := kp_B hB
  have h6 : lnT (mI M) 20 ≤ 6 := hD.2.2.2.2.2.1
  have ht : mI M 20 13 = nI (lnT (mI M) 20) := hD.2.2.2.2.1
  have hk1 : ∀ {y}, mI (kpM M) 20 y = mI M 20 y := fun {y} => kp_i hB hH (by omega)
  have hu : ∀ v k, u2 (mI (kpM M)) 24 k v 20 13 = nI (lnT (mI M) 20) := fun v k => by rw [u2_ne (by omega), hk1, ht]
  have hC : ∀ q ∈ [(i_B_within, e_B_within), (i_H_keep, e_H_keep)], okE Z (d + 4) q.1 q.2 := (okE_cons (ok_B_within Z (d + 3)) (okE_cons (ok_H_keep Z d) okE_nil))
  have hn : mN (atM M n) = mN M := by unfold atM; split; exact kp_n M; rfl
  by_cases h2 : 1 ≤ n ∧ n ≤ 9 <;> by_cases h3 : lnT (mI M) 20 < 6 <;> refine Gm_run (S := []) [some (.ref 16), some (.int n), none] 100 k_B_addTenant hC (ex_n hn) ?_ <;> unfold atR atM <;> simp (maxSteps := 3000000) (disch := first | exact True.intro | assumption | omega) only [↓run, ↓go, ↓jmp, seek, inS, ↓e0, ↓e1, ↓e2, ↓e3, ↓e4, ↓e5, ↓tsw, ↓e7, ↓e8, ↓e9, ↓e10, ↓e11, ↓e12, ↓splitA, rcv, clook, lget, lset, lset2, lkill, Option.toList, List.nil_append, List.cons_append, wsum, List.map_cons, List.map_nil, List.sum_cons, List.sum_nil, Value.category, Nat.reduceAdd, List.getD_cons_zero, List.getD_cons_succ, ↓reduceIte, if_true, if_false, Bool.false_eq_true, Nat.reduceLeDiff, Nat.reduceEqDiff, true_or, or_true, true_and, and_true, and_self, or_self, not_true, not_false_iff, mR_stI, mN_stI, isO_stI, isA_stI, mI_stI, mR_mW, mN_mW, isO_mW, isA_mW, mI_mW, mW_mW, stI_mW, nI_addL, nI_mulL, nI_subL, nI_ltL, nI_leL, nI_Llt, nI_Lle, nI_eqL, nI_Leq, nI_add, pk_mul, nI_ltI, nI_leI, nI_eq, vpi, nI_clamp, nI_toN, bk_oB hB, bk_oV hB, bk_oH hB, bk_b0 hB, bk_b1 hB, bk_b2 hB, bk_b3 hB, bk_b4 hB, bk_b5 hB, bk_v0 hB, bk_v1 hB, bk_h0 hB, nw_o hB, nw_og hB, nw_od hB, nw_ot hB, nw_r9 hB, nw_r10 hB, nw_r11 hB, nw_r0 hB, nw_r1 hB, nw_r2 hB, nw_r3 hB, nw_r4 hB, nw_r5 hB, nw_r6 hB, nw_r7 hB, nw_r8 hB, nw_a1 hB, nw_a2 hB, nw_a3 hB, nw_a4 hB, nw_a5 hB, nw_a6 hB, nw_a7 hB, nw_a8 hB, nw_a9 hB, nw_a14 hB, nw_as hB, nw_at hB, bk_oB hB2, bk_oV hB2, bk_oH hB2, bk_b0 hB2, bk_b1 hB2, bk_b2 hB2, bk_b3 hB2, bk_b4 hB2, bk_b5 hB2, bk_v0 hB2, bk_v1 hB2, bk_h0 hB2, nw_o hB2, nw_og hB2, nw_od hB2, nw_ot hB2, nw_r9 hB2, nw_r10 hB2, nw_r11 hB2, nw_r0 hB2, nw_r1 hB2, nw_r2 hB2, nw_r3 hB2, nw_r4 hB2, nw_r5 hB2, nw_r6 hB2, nw_r7 hB2, nw_r8 hB2, nw_a1 hB2, nw_a2 hB2, nw_a3 hB2, nw_a4 hB2, nw_a5 hB2, nw_a6 hB2, nw_a7 hB2, nw_a8 hB2, nw_a9 hB2, nw_a14 hB2, nw_as hB2, nw_at hB2, vR, vT, Nat.not_lt_zero, bv_Tr, bv_Fa, one_n0, eq_self, Nat.zero_le, and_true, true_and, and_false, false_and, not_true, not_false_iff, or_true, true_or, or_false, false_or, mN_mRW, ex_iff, p_B_addTenant, i_B_within, i_H_keep, pc_B_within, pc_H_keep (o := 50) (b := 20) (M := M) ⟨rfl, rfl, hB, hD, hH⟩, hk1, ht, hu, h2, h3]
def swR (f : Nat → Nat → Int32) (t n : Int32) : Int32 := if vT f t ∧ 1 ≤ n ∧ n ≤ 9 then f 24 t.toNatClampNeg else -1000000
noncomputable def swM (M : Mem) (t n : Int32) : Mem := if vT (mI M) t ∧ 1 ≤ n ∧ n ≤ 9 then mW (kpM M) (u2 (mI (kpM M)) 24 t.toNatClampNeg n) else M
def e_B_setWeight : Ent := (fun av M => ∃ (o : Nat) (t : Int32) (n : Int32), av = [.ref o, .int t, .int n] ∧ (o = 16 ∧ WB M), fun av M r_ M_ => ∀ (o : Nat) (t : Int32) (n : Int32), av = [.ref o, .int t, .int n] → r_ = (some (.int (swR (mI M) t n))) ∧ M_ = (swM M t n))
theorem pc_B_setWeight {o : Nat} {t : Int32} {n : Int32} {M : Mem} {K : Option Value → Mem → Prop} (hp : o = 16 ∧ WB M) : pcall e_B_setWeight [.ref o, .int t, .int n] M K = K (some (.int (swR (mI M) t n))) (swM M t n) := propext ⟨fun h => h.2 _ _ (fun o' t' n' e => by simp only [List.cons.injEq, Value.ref.injEq, Value.int.injEq, Value.long.injEq, and_true] at e; obtain ⟨q0, q1, q2⟩ := e; obtain rfl := q0; obtain rfl := q1; obtain rfl := q2; exact ⟨rfl, rfl⟩), fun h => ⟨⟨o, t, n, rfl, hp⟩, fun r_ M_ q => by obtain ⟨rfl, rfl⟩ := q _ _ _ rfl; exact h⟩⟩
theorem mk_B_setWeight {Z : Zt} {d : Nat} (h : ∀ (o : Nat) (t : Int32) (n : Int32) (M : Mem), (o = 16 ∧ WB M) → Gm Z d s_B_setWeight [.ref o, .int t, .int n] M (ex (some (.int (swR (mI M) t n))) (swM M t n))) : okE Z d i_B_setWeight e_B_setWeight := by
  rintro av M ⟨o, t, n, rfl, hp⟩
  exact Gm.cons (h o t n M  hp) (fun r_ M_ q o' t' n' e => by simp only [List.cons.injEq, Value.ref.injEq, Value.int.injEq, Value.long.injEq, and_true] at e; obtain ⟨q0, q1, q2⟩ := e; obtain rfl := q0; obtain rfl := q1; obtain rfl := q2; exact q)
set_option maxRecDepth 100000 in
set_option maxHeartbeats 4000000 in
theorem ok_B_setWeight (Z : Zt) (d : Nat) : okE Z (d + 5) i_B_setWeight e_B_setWeight := mk_B_setWeight fun o t n M hp => by
  obtain ⟨rfl, hB, hD, hD2, hH, hT⟩ := hp
  have hB2 := kp_B hB
  have hL := bk_now hB
  have h6 : lnT (mI M) 20 ≤ 6 := hD.2.2.2.2.2.1
  have hk1 : ∀ {y}, mI (kpM M) 24 y = mI M 24 y := fun {y} => kp_i hB hH (by omega)
  have hC : ∀ q ∈ [(i_B_within, e_B_within), (i_L_hasTenant, e_L_hasTenant), (i_H_keep, e_H_keep)], okE Z (d + 4) q.1 q.2 := (okE_cons (ok_B_within Z (d + 3)) (okE_cons (ok_L_hasTenant Z (d + 3)) (okE_cons (ok_H_keep Z d) okE_nil)))
  have hn : mN (swM M t n) = mN M := by unfold swM; split; exact kp_n M; rfl
  by_cases h1 : 0 ≤ t ∧ t < nI (lnT (mI M) 20)
  · obtain ⟨k, rfl, hk, hk6⟩ := vT_nI hD h1
    by_cases h2 : 1 ≤ n ∧ n ≤ 9 <;> refine Gm_run (S := []) [some (.ref 16), some (.int (nI k)), some (.int n), none] 100 k_B_setWeight hC (ex_n hn) ?_ <;> unfold swR swM <;> simp (maxSteps := 3000000) (disch := first | exact True.intro | assumption | omega) only [↓run, ↓go, ↓jmp, seek, inS, ↓e0, ↓e1, ↓e2, ↓e3, ↓e4, ↓e5, ↓tsw, ↓e7, ↓e8, ↓e9, ↓e10, ↓e11, ↓e12, ↓splitA, rcv, clook, lget, lset, lset2, lkill, Option.toList, List.nil_append, List.cons_append, wsum, List.map_cons, List.map_nil, List.sum_cons, List.sum_nil, Value.category, Nat.reduceAdd, List.getD_cons_zero, List.getD_cons_succ, ↓reduceIte, if_true, if_false, Bool.false_eq_true, Nat.reduceLeDiff, Nat.reduceEqDiff, true_or, or_true, true_and, and_true, and_self, or_self, not_true, not_false_iff, mR_stI, mN_stI, isO_stI, isA_stI, mI_stI, mR_mW, mN_mW, isO_mW, isA_mW, mI_mW, mW_mW, stI_mW, nI_addL, nI_mulL, nI_subL, nI_ltL, nI_leL, nI_Llt, nI_Lle, nI_eqL, nI_Leq, nI_add, pk_mul, nI_ltI, nI_leI, nI_eq, vpi, nI_clamp, nI_toN, bk_oB hB, bk_oV hB, bk_oH hB, bk_b0 hB, bk_b1 hB, bk_b2 hB, bk_b3 hB, bk_b4 hB, bk_b5 hB, bk_v0 hB, bk_v1 hB, bk_h0 hB, nw_o hB, nw_og hB, nw_od hB, nw_ot hB, nw_r9 hB, nw_r10 hB, nw_r11 hB, nw_r0 hB, nw_r1 hB, nw_r2 hB, nw_r3 hB, nw_r4 hB, nw_r5 hB, nw_r6 hB, nw_r7 hB, nw_r8 hB, nw_a1 hB, nw_a2 hB, nw_a3 hB, nw_a4 hB, nw_a5 hB, nw_a6 hB, nw_a7 hB, nw_a8 hB, nw_a9 hB, nw_a14 hB, nw_as hB, nw_at hB, bk_oB hB2, bk_oV hB2, bk_oH hB2, bk_b0 hB2, bk_b1 hB2, bk_b2 hB2, bk_b3 hB2, bk_b4 hB2, bk_b5 hB2, bk_v0 hB2, bk_v1 hB2, bk_h0 hB2, nw_o hB2, nw_og hB2, nw_od hB2, nw_ot hB2, nw_r9 hB2, nw_r10 hB2, nw_r11 hB2, nw_r0 hB2, nw_r1 hB2, nw_r2 hB2, nw_r3 hB2, nw_r4 hB2, nw_r5 hB2, nw_r6 hB2, nw_r7 hB2, nw_r8 hB2, nw_a1 hB2, nw_a2 hB2, nw_a3 hB2, nw_a4 hB2, nw_a5 hB2, nw_a6 hB2, nw_a7 hB2, nw_a8 hB2, nw_a9 hB2, nw_a14 hB2, nw_as hB2, nw_at hB2, vR, vT, Nat.not_lt_zero, bv_Tr, bv_Fa, one_n0, eq_self, Nat.zero_le, and_true, true_and, and_false, false_and, not_true, not_false_iff, or_true, true_or, or_false, false_or, mN_mRW, ex_iff, p_B_setWeight, i_B_within, i_L_hasTenant, i_H_keep, pc_B_within, pc_L_hasTenant (b := 20) (M := M) ⟨hL, hD⟩, pc_H_keep (o := 50) (b := 20) (M := M) ⟨rfl, rfl, hB, hD, hH⟩, hk1, hk, h2]
  · refine Gm_run (S := []) [some (.ref 16), some (.int t), some (.int n), none] 100 k_B_setWeight hC (ex_n hn) ?_
    unfold swR swM
    simp (maxSteps := 3000000) (disch := first | exact True.intro | assumption | omega) only [↓run, ↓go, ↓jmp, seek, inS, ↓e0, ↓e1, ↓e2, ↓e3, ↓e4, ↓e5, ↓tsw, ↓e7, ↓e8, ↓e9, ↓e10, ↓e11, ↓e12, ↓splitA, rcv, clook, lget, lset, lset2, lkill, Option.toList, List.nil_append, List.cons_append, wsum, List.map_cons, List.map_nil, List.sum_cons, List.sum_nil, Value.category, Nat.reduceAdd, List.getD_cons_zero, List.getD_cons_succ, ↓reduceIte, if_true, if_false, Bool.false_eq_true, Nat.reduceLeDiff, Nat.reduceEqDiff, true_or, or_true, true_and, and_true, and_self, or_self, not_true, not_false_iff, mR_stI, mN_stI, isO_stI, isA_stI, mI_stI, mR_mW, mN_mW, isO_mW, isA_mW, mI_mW, mW_mW, stI_mW, nI_addL, nI_mulL, nI_subL, nI_ltL, nI_leL, nI_Llt, nI_Lle, nI_eqL, nI_Leq, nI_add, pk_mul, nI_ltI, nI_leI, nI_eq, vpi, nI_clamp, nI_toN, bk_oB hB, bk_oV hB, bk_oH hB, bk_b0 hB, bk_b1 hB, bk_b2 hB, bk_b3 hB, bk_b4 hB, bk_b5 hB, bk_v0 hB, bk_v1 hB, bk_h0 hB, nw_o hB, nw_og hB, nw_od hB, nw_ot hB, nw_r9 hB, nw_r10 hB, nw_r11 hB, nw_r0 hB, nw_r1 hB, nw_r2 hB, nw_r3 hB, nw_r4 hB, nw_r5 hB, nw_r6 hB, nw_r7 hB, nw_r8 hB, nw_a1 hB, nw_a2 hB, nw_a3 hB, nw_a4 hB, nw_a5 hB, nw_a6 hB, nw_a7 hB, nw_a8 hB, nw_a9 hB, nw_a14 hB, nw_as hB, nw_at hB, vR, vT, Nat.not_lt_zero, bv_Tr, bv_Fa, one_n0, eq_self, Nat.zero_le, and_true, true_and, and_false, false_and, not_true, not_false_iff, or_true, true_or, or_false, false_or, mN_mRW, ex_iff, p_B_setWeight, i_B_within, i_L_hasTenant, i_H_keep, pc_L_hasTenant (b := 20) (M := M) ⟨hL, hD⟩, h1]
end
section
def slR (f : Nat → Nat → Int32) (t r n : Int32) : Int32 := if vT f t ∧ vR r ∧ 0 ≤ n ∧ n ≤ 9999 then (if n < f 29 (t.toNatClampNeg * 4 + r.toNatClampNeg) ∨ ¬ f 28 (t.toNatClampNeg * 4 + r.toNatClampNeg) ≤ n then -1000001 else f 27 (t.toNatClampNeg * 4 + r.toNatClampNeg)) else -1000000
noncomputable def slM (M : Mem) (t r n : Int32) : Mem := if vT (mI M) t ∧ vR r ∧ 0 ≤ n ∧ n ≤ 9999 then (if n < mI M 29 (t.toNatClampNeg * 4 + r.toNatClampNeg) ∨ ¬ mI M 28 (t.toNatClampNeg * 4 + r.toNatClampNeg) ≤ n then M else mW (kpM M) (u2 (mI (kpM M)) 27 (t.toNatClampNeg * 4 + r.toNatClampNeg) n)) else M
def e_B_setLimit : Ent := (fun av M => ∃ (o : Nat) (t : Int32) (r : Int32) (n : Int32), av = [.ref o, .int t, .int r, .int n] ∧ (o = 16 ∧ WB M), fun av M r_ M_ => ∀ (o : Nat) (t : Int32) (r : Int32) (n : Int32), av = [.ref o, .int t, .int r, .int n] → r_ = (some (.int (slR (mI M) t r n))) ∧ M_ = (slM M t r n))
theorem pc_B_setLimit {o : Nat} {t : Int32} {r : Int32} {n : Int32} {M : Mem} {K : Option Value → Mem → Prop} (hp : o = 16 ∧ WB M) : pcall e_B_setLimit [.ref o, .int t, .int r, .int n] M K = K (some (.int (slR (mI M) t r n))) (slM M t r n) := propext ⟨fun h => h.2 _ _ (fun o' t' r' n' e => by simp only [List.cons.injEq, Value.ref.injEq, Value.int.injEq, Value.long.injEq, and_true] at e; obtain ⟨q0, q1, q2, q3⟩ := e; obtain rfl := q0; obtain rfl := q1; obtain rfl := q2; obtain rfl := q3; exact ⟨rfl, rfl⟩), fun h => ⟨⟨o, t, r, n, rfl, hp⟩, fun r_ M_ q => by obtain ⟨rfl, rfl⟩ := q _ _ _ _ rfl; exact h⟩⟩
theorem mk_B_setLimit {Z : Zt} {d : Nat} (h : ∀ (o : Nat) (t : Int32) (r : Int32) (n : Int32) (M : Mem), (o = 16 ∧ WB M) → Gm Z d s_B_setLimit [.ref o, .int t, .int r, .int n] M (ex (some (.int (slR (mI M) t r n))) (slM M t r n))) : okE Z d i_B_setLimit e_B_setLimit := by
  rintro av M ⟨o, t, r, n, rfl, hp⟩
  exact Gm.cons (h o t r n M  hp) (fun r_ M_ q o' t' r' n' e => by simp only [List.cons.injEq, Value.ref.injEq, Value.int.injEq, Value.long.injEq, and_true] at e; obtain ⟨q0, q1, q2, q3⟩ := e; obtain rfl := q0; obtain rfl := q1; obtain rfl := q2; obtain rfl := q3; exact q)
set_option maxRecDepth 100000 in
set_option maxHeartbeats 4000000 in
theorem ok_B_setLimit (Z : Zt) (d : Nat) : okE Z (d + 5) i_B_setLimit e_B_setLimit := mk_B_setLimit fun o t r n M hp => by
  obtain ⟨rfl, hB, hD, hD2, hH, hT⟩ := hp
  have hB2 := kp_B hB
  have hL := bk_now hB
  have hk1 : ∀ {y}, mI (kpM M) 27 y = mI M 27 y := fun {y} => kp_i hB hH (by omega)
  have hC : ∀ q ∈ [(i_B_within, e_B_within), (i_L_hasTenant, e_L_hasTenant), (i_H_keep, e_H_keep), (i_B_isResource, e_B_isResource), (i_B_slot, e_B_slot)], okE Z (d + 4) q.1 q.2 := (okE_cons (ok_B_within Z (d + 3)) (okE_cons (ok_L_hasTenant Z (d + 3)) (okE_cons (ok_H_keep Z d) (okE_cons (ok_B_isResource Z (d + 3)) (okE_cons (ok_B_slot Z (d + 3)) okE_nil)))))
  have hn : mN (slM M t r n) = mN M := by
    unfold slM
    split
    · split
      · rfl
      · exact kp_n M
    · rfl
  by_cases h1 : 0 ≤ t ∧ t < nI (lnT (mI M) 20)
  · by_cases h2 : 0 ≤ r ∧ r < 4
    · obtain ⟨k, rfl, hk, hk6⟩ := vT_nI hD h1
      obtain ⟨j, rfl, hj⟩ := vR_nI h2
      have h6 : lnT (mI M) 20 ≤ 6 := hD.2.2.2.2.2.1
      by_cases h3 : 0 ≤ n ∧ n ≤ 9999 <;> by_cases h4 : n < mI M 29 (k * 4 + j) <;> by_cases h5 : mI M 28 (k * 4 + j) ≤ n <;> refine Gm_run (S := []) [some (.ref 16), some (.int (nI k)), some (.int (nI j)), some (.int n), none, none] 100 k_B_setLimit hC (ex_n hn) ?_ <;> unfold slR slM <;> simp (maxSteps := 3000000) (disch := first | exact True.intro | assumption | omega) only [↓run, ↓go, ↓jmp, seek, inS, ↓e0, ↓e1, ↓e2, ↓e3, ↓e4, ↓e5, ↓tsw, ↓e7, ↓e8, ↓e9, ↓e10, ↓e11, ↓e12, ↓splitA, rcv, clook, lget, lset, lset2, lkill, Option.toList, List.nil_append, List.cons_append, wsum, List.map_cons, List.map_nil, List.sum_cons, List.sum_nil, Value.category, Nat.reduceAdd, List.getD_cons_zero, List.getD_cons_succ, ↓reduceIte, if_true, if_false, Bool.false_eq_true, Nat.reduceLeDiff, Nat.reduceEqDiff, true_or, or_true, true_and, and_true, and_self, or_self, not_true, not_false_iff, mR_stI, mN_stI, isO_stI, isA_stI, mI_stI, mR_mW, mN_mW, isO_mW, isA_mW, mI_mW, mW_mW, stI_mW, nI_addL, nI_mulL, nI_subL, nI_ltL, nI_leL, nI_Llt, nI_Lle, nI_eqL, nI_Leq, nI_add, pk_mul, nI_ltI, nI_leI, nI_eq, vpi, nI_clamp, nI_toN, bk_oB hB, bk_oV hB, bk_oH hB, bk_b0 hB, bk_b1 hB, bk_b2 hB, bk_b3 hB, bk_b4 hB, bk_b5 hB, bk_v0 hB, bk_v1 hB, bk_h0 hB, nw_o hB, nw_og hB, nw_od hB, nw_ot hB, nw_r9 hB, nw_r10 hB, nw_r11 hB, nw_r0 hB, nw_r1 hB, nw_r2 hB, nw_r3 hB, nw_r4 hB, nw_r5 hB, nw_r6 hB, nw_r7 hB, nw_r8 hB, nw_a1 hB, nw_a2 hB, nw_a3 hB, nw_a4 hB, nw_a5 hB, nw_a6 hB, nw_a7 hB, nw_a8 hB, nw_a9 hB, nw_a14 hB, nw_as hB, nw_at hB, bk_oB hB2, bk_oV hB2, bk_oH hB2, bk_b0 hB2, bk_b1 hB2, bk_b2 hB2, bk_b3 hB2, bk_b4 hB2, bk_b5 hB2, bk_v0 hB2, bk_v1 hB2, bk_h0 hB2, nw_o hB2, nw_og hB2, nw_od hB2, nw_ot hB2, nw_r9 hB2, nw_r10 hB2, nw_r11 hB2, nw_r0 hB2, nw_r1 hB2, nw_r2 hB2, nw_r3 hB2, nw_r4 hB2, nw_r5 hB2, nw_r6 hB2, nw_r7 hB2, nw_r8 hB2, nw_a1 hB2, nw_a2 hB2, nw_a3 hB2, nw_a4 hB2, nw_a5 hB2, nw_a6 hB2, nw_a7 hB2, nw_a8 hB2, nw_a9 hB2, nw_a14 hB2, nw_as hB2, nw_at hB2, vR, vT, Nat.not_lt_zero, bv_Tr, bv_Fa, one_n0, eq_self, Nat.zero_le, and_true, true_and, and_false, false_and, not_true, not_false_iff, or_true, true_or, or_false, false_or, mN_mRW, ex_iff, p_B_setLimit, i_B_within, i_L_hasTenant, i_H_keep, i_B_isResource, i_B_slot, pc_B_within, pc_B_isResource, pc_B_slot, pc_L_hasTenant (b := 20) (M := M) ⟨hL, hD⟩, pc_H_keep (o := 50) (b := 20) (M := M) ⟨rfl, rfl, hB, hD, hH⟩, hk1, hk, hj, h3, h4, h5]
    · refine Gm_run (S := [32]) [some (.ref 16), some (.int t), some (.int r), some (.int n), none, none] 100 k_B_setLimit hC (ex_n hn) ?_
      unfold slR slM
      simp (maxSteps := 3000000) (disch := first | exact True.intro | assumption | omega) only [↓run, ↓go, ↓jmp, seek, inS, ↓e0, ↓e1, ↓e2, ↓e3, ↓e4, ↓e5, ↓tsw, ↓e7, ↓e8, ↓e9, ↓e10, ↓e11, ↓e12, ↓splitA, rcv, clook, lget, lset, lset2, lkill, Option.toList, List.nil_append, List.cons_append, wsum, List.map_cons, List.map_nil, List.sum_cons, List.sum_nil, Value.category, Nat.reduceAdd, List.getD_cons_zero, List.getD_cons_succ, ↓reduceIte, if_true, if_false, Bool.false_eq_true, Nat.reduceLeDiff, Nat.reduceEqDiff, true_or, or_true, true_and, and_true, and_self, or_self, not_true, not_false_iff, mR_stI, mN_stI, isO_stI, isA_stI, mI_stI, mR_mW, mN_mW, isO_mW, isA_mW, mI_mW, mW_mW, stI_mW, nI_addL, nI_mulL, nI_subL, nI_ltL, nI_leL, nI_Llt, nI_Lle, nI_eqL, nI_Leq, nI_add, pk_mul, nI_ltI, nI_leI, nI_eq, vpi, nI_clamp, nI_toN, bk_oB hB, bk_oV hB, bk_oH hB, bk_b0 hB, bk_b1 hB, bk_b2 hB, bk_b3 hB, bk_b4 hB, bk_b5 hB, bk_v0 hB, bk_v1 hB, bk_h0 hB, nw_o hB, nw_og hB, nw_od hB, nw_ot hB, nw_r9 hB, nw_r10 hB, nw_r11 hB, nw_r0 hB, nw_r1 hB, nw_r2 hB, nw_r3 hB, nw_r4 hB, nw_r5 hB, nw_r6 hB, nw_r7 hB, nw_r8 hB, nw_a1 hB, nw_a2 hB, nw_a3 hB, nw_a4 hB, nw_a5 hB, nw_a6 hB, nw_a7 hB, nw_a8 hB, nw_a9 hB, nw_a14 hB, nw_as hB, nw_at hB, vR, vT, Nat.not_lt_zero, bv_Tr, bv_Fa, one_n0, eq_self, Nat.zero_le, and_true, true_and, and_false, false_and, not_true, not_false_iff, or_true, true_or, or_false, false_or, mN_mRW, ex_iff, p_B_setLimit, i_B_within, i_L_hasTenant, i_H_keep, i_B_isResource, i_B_slot, pc_L_hasTenant (b := 20) (M := M) ⟨hL, hD⟩, pc_B_isResource, h1, h2]
  · refine Gm_run (S := [32]) [some (.ref 16), some (.int t), some (.int r), some (.int n), none, none] 100 k_B_setLimit hC (ex_n hn) ?_
    unfold slR slM
    simp (maxSteps := 3000000) (disch := first | exact True.intro | assumption | omega) only [↓run, ↓go, ↓jmp, seek, inS, ↓e0, ↓e1, ↓e2, ↓e3, ↓e4, ↓e5, ↓tsw, ↓e7, ↓e8, ↓e9, ↓e10, ↓e11, ↓e12, ↓splitA, rcv, clook, lget, lset, lset2, lkill, Option.toList, List.nil_append, List.cons_append, wsum, List.map_cons, List.map_nil, List.sum_cons, List.sum_nil, Value.category, Nat.reduceAdd, List.getD_cons_zero, List.getD_cons_succ, ↓reduceIte, if_true, if_false, Bool.false_eq_true, Nat.reduceLeDiff, Nat.reduceEqDiff, true_or, or_true, true_and, and_true, and_self, or_self, not_true, not_false_iff, mR_stI, mN_stI, isO_stI, isA_stI, mI_stI, mR_mW, mN_mW, isO_mW, isA_mW, mI_mW, mW_mW, stI_mW, nI_addL, nI_mulL, nI_subL, nI_ltL, nI_leL, nI_Llt, nI_Lle, nI_eqL, nI_Leq, nI_add, pk_mul, nI_ltI, nI_leI, nI_eq, vpi, nI_clamp, nI_toN, bk_oB hB, bk_oV hB, bk_oH hB, bk_b0 hB, bk_b1 hB, bk_b2 hB, bk_b3 hB, bk_b4 hB, bk_b5 hB, bk_v0 hB, bk_v1 hB, bk_h0 hB, nw_o hB, nw_og hB, nw_od hB, nw_ot hB, nw_r9 hB, nw_r10 hB, nw_r11 hB, nw_r0 hB, nw_r1 hB, nw_r2 hB, nw_r3 hB, nw_r4 hB, nw_r5 hB, nw_r6 hB, nw_r7 hB, nw_r8 hB, nw_a1 hB, nw_a2 hB, nw_a3 hB, nw_a4 hB, nw_a5 hB, nw_a6 hB, nw_a7 hB, nw_a8 hB, nw_a9 hB, nw_a14 hB, nw_as hB, nw_at hB, vR, vT, Nat.not_lt_zero, bv_Tr, bv_Fa, one_n0, eq_self, Nat.zero_le, and_true, true_and, and_false, false_and, not_true, not_false_iff, or_true, true_or, or_false, false_or, mN_mRW, ex_iff, p_B_setLimit, i_B_within, i_L_hasTenant, i_H_keep, i_B_isResource, i_B_slot, pc_L_hasTenant (b := 20) (M := M) ⟨hL, hD⟩, h1]
theorem WB_row {M : Mem} {u : Nat → Int32} {a : Nat} (h : WB M) (ha : a = 19 ∨ 171 < a) : WB (mW M (rwF (mI M) a u)) := by
  obtain ⟨hB, hD, hD2, hH, hT⟩ := h
  have k : ∀ {x y}, x < 19 ∨ 19 < x ∧ x < 172 → rwF (mI M) a u x y = mI M x y := fun h => rowF_o (by omega)
  refine ⟨hB, LedD_cg hD (fun y => k (by omega)) (fun y => k (by omega)) (fun y => k (by omega)), LedD_cg hD2 (fun y => k (by omega)) (fun y => k (by omega)) (fun y => k (by omega)), ?_, ?_⟩
  · unfold HisD hs
    rw [mI_mW, k (by omega)]
    exact ⟨hH.1, hH.2.1, fun j hj => LedD_cg (hH.2.2 j hj) (fun y => k (by omega)) (fun y => k (by omega)) (fun y => k (by omega))⟩
  · unfold TxD tl
    rw [mI_mW, k (by omega)]
    exact hT
noncomputable def rvM (M : Mem) : Mem := mW M (rwF (mI M) 19 (rvF (mI M)).2)
noncomputable def dmR (f : Nat → Nat → Int32) (t : Int32) : Int32 := if vT f t then (if isB f 20 t ∨ ¬ (rvF f).1 = -1000003 ∨ bv (huF (rwF f 19 (rvF f).2)) = 0 then -1000001 else if 24 ≤ csz f 32 then -1000002 else nI (csz f 32 + 1)) else -1000000
noncomputable def dmM (M : Mem) (t : Int32) : Mem := if vT (mI M) t then (if isB (mI M) 20 t then M else if ¬ (rvF (mI M)).1 = -1000003 ∨ bv (huF (rwF (mI M) 19 (rvF (mI M)).2)) = 0 ∨ 24 ≤ csz (mI M) 32 then rvM M else mW (kpM (rvM M)) (addF (mI (kpM (rvM M))) 32 19 t (-1000003))) else M
theorem bv_eq01 (p : Prop) : bv p = 0 ∨ bv p = 1 := of_eq_true (bv_01 p)
def e_B_demand : Ent := (fun av M => ∃ (o : Nat) (t : Int32), av = [.ref o, .int t] ∧ (o = 16 ∧ WB M), fun av M r_ M_ => ∀ (o : Nat) (t : Int32), av = [.ref o, .int t] → r_ = (some (.int (dmR (mI M) t))) ∧ M_ = (dmM M t))
theorem pc_B_demand {o : Nat} {t : Int32} {M : Mem} {K : Option Value → Mem → Prop} (hp : o = 16 ∧ WB M) : pcall e_B_demand [.ref o, .int t] M K = K (some (.int (dmR (mI M) t))) (dmM M t) := propext ⟨fun h => h.2 _ _ (fun o' t' e => by simp only [List.cons.injEq, Value.ref.injEq, Value.int.injEq, Value.long.injEq, and_true] at e; obtain ⟨q0, q1⟩ := e; obtain rfl := q0; obtain rfl := q1; exact ⟨rfl, rfl⟩), fun h => ⟨⟨o, t, rfl, hp⟩, fun r_ M_ q => by obtain ⟨rfl, rfl⟩ := q _ _ rfl; exact h⟩⟩
theorem mk_B_demand {Z : Zt} {d : Nat} (h : ∀ (o : Nat) (t : Int32) (M : Mem), (o = 16 ∧ WB M) → Gm Z d s_B_demand [.ref o, .int t] M (ex (some (.int (dmR (mI M) t))) (dmM M t))) : okE Z d i_B_demand e_B_demand := by
  rintro av M ⟨o, t, rfl, hp⟩
  exact Gm.cons (h o t M  hp) (fun r_ M_ q o' t' e => by simp only [List.cons.injEq, Value.ref.injEq, Value.int.injEq, Value.long.injEq, and_true] at e; obtain ⟨q0, q1⟩ := e; obtain rfl := q0; obtain rfl := q1; exact q)
theorem dm_V_read {M : Mem} {K : Option Value → Mem → Prop} (h : 17 = 17 ∧ BkS M ∧ TxD (mI M)) : pcall e_V_read [.ref 17] M K = K (some (.int (rvF (mI M)).1)) (rvM M) := pc_V_read (o := 17) h
theorem dm_n (M : Mem) (t : Int32) : mN (dmM M t) = mN M := by
  unfold dmM
  split
  · split
    · rfl
    · split
      · rfl
      · exact kp_n (rvM M)
  · rfl
set_option maxRecDepth 100000 in
set_option maxHeartbeats 4000000 in
theorem ok_B_demand (Z : Zt) (d : Nat) : okE Z (d + 8) i_B_demand e_B_demand := mk_B_demand fun o t M hp => by
  obtain ⟨rfl, hW⟩ := hp
  have hW1 : WB (rvM M) := WB_row hW (Or.inl rfl)
  have hW2 := kp_W hW1
  obtain ⟨hB, hD, hD2, hH, hT⟩ := hW
  have hrd : ∀ {K : Option Value → Mem → Prop}, pcall e_V_read [.ref 17] M K = K (some (.int (rvF (mI M)).1)) (rvM M) := dm_V_read ⟨rfl, hB, hT⟩
  have hL := bk_now hB
  have hz2 : csz (mI (rvM M)) 32 = csz (mI M) 32 := rfl
  have hcc : ccap 32 = 24 := rfl
  have hm1 : mI (rvM M) = rwF (mI M) 19 (rvF (mI M)).2 := rfl
  have hr1 : mR (rvM M) = mR M := rfl
  have ho1 : isO (rvM M) = isO M := rfl
  have hk0 : mI (rvM M) 32 = mI M 32 := rfl
  have hhu : ∀ {K : Option Value → Mem → Prop}, pcall e_V_hasUnits [.ref 17] (rvM M) K = K (some (.int (bv (huF (rwF (mI M) 19 (rvF (mI M)).2))))) (rvM M) := pc_V_hasUnits (o := 17) (M := rvM M) ⟨rfl, hB⟩
  have hn := dm_n M t
  unfold dmR
  unfold dmM at hn ⊢
  generalize hM1 : rvM M = M1 at *
  generalize hX : rvF (mI M) = X at *
  obtain ⟨x1, u1⟩ := X
  generalize hP : huF (rwF (mI M) 19 (x1, u1).2) = P at *
  have hB1 : BkS M1 := hW1.1
  have hif : ∀ {K : Option Value → Mem → Prop}, pcall e_C_isFull [.ref 32] M1 K = K (some (.int (bv (24 ≤ csz (mI M) 32)))) M1 := by
    intro K
    rw [pc_C_isFull (c := 32) (M := M1) (ld_cd (bk_now hB1) hW1.2.1), hz2, hcc]
  have hkp : ∀ {K : Option Value → Mem → Prop}, pcall e_H_keep [.ref 50, .ref 20] M1 K = K none (kpM M1) := pc_H_keep (o := 50) (b := 20) (M := M1) ⟨rfl, rfl, hB1, hW1.2.1, hW1.2.2.2.1⟩
  have hk1 : ∀ {y}, mI (kpM M1) 32 y = mI M 32 y := fun {y} => by rw [kp_i hW1.1 hW1.2.2.2.1 (by omega), hk0]
  have hn2 := kp_n M1
  generalize hM2 : kpM M1 = M2 at *
  have hB2 : BkS M2 := hW2.1
  have hz : csz (mI M2) 32 = csz (mI M) 32 := by unfold csz; rw [hk1]
  have hC : ∀ q ∈ [(i_L_hasTenant, e_L_hasTenant), (i_L_isBankrupt, e_L_isBankrupt), (i_V_read, e_V_read), (i_V_hasUnits, e_V_hasUnits), (i_C_isFull, e_C_isFull), (i_H_keep, e_H_keep), (i_C_add, e_C_add)], okE Z (d + 7) q.1 q.2 := (okE_cons (ok_L_hasTenant Z (d + 6)) (okE_cons (ok_L_isBankrupt Z (d + 5)) (okE_cons (ok_V_read Z d) (okE_cons (ok_V_hasUnits Z (d + 6)) (okE_cons (ok_C_isFull Z (d + 6)) (okE_cons (ok_H_keep Z (d + 3)) (okE_cons (ok_C_add Z (d + 5)) okE_nil)))))))
  have q1 : addF (mI M2) 32 19 t (-1000003) 32 2 = nI (csz (mI M) 32 + 1) := by
    show u2 _ 32 2 (nI (csz (mI M2) 32 + 1)) 32 2 = _
    rw [u2_eq, hz]
  have hA : ∀ {K : Option Value → Mem → Prop}, ¬ 24 ≤ csz (mI M) 32 → pcall e_C_add [.ref 32, .ref 19, .int t] M2 K = K none (mW M2 (addF (mI M2) 32 19 t (-1000003))) := fun h => pc_C_add ⟨ld_cd (bk_now hB2) hW2.2.1, by rw [hz]; exact Nat.not_le.mp h, by rw [hB2.1]; omega, rfl⟩
  by_cases h1 : 0 ≤ t ∧ t < nI (lnT (mI M) 20)
  · by_cases h2 : isB (mI M) 20 t
    · refine Gm_run (S := [25]) [some (.ref 16), some (.int t)] 100 k_B_demand hC (ex_n hn) ?_
      simp (maxSteps := 3000000) (disch := first | exact True.intro | assumption | omega) only [↓run, ↓go, ↓jmp, seek, inS, ↓e0, ↓e1, ↓e2, ↓e3, ↓e4, ↓e5, ↓tsw, ↓e7, ↓e8, ↓e9, ↓e10, ↓e11, ↓e12, ↓splitA, rcv, clook, lget, lset, lset2, lkill, Option.toList, List.nil_append, List.cons_append, wsum, List.map_cons, List.map_nil, List.sum_cons, List.sum_nil, Value.category, Nat.reduceAdd, List.getD_cons_zero, List.getD_cons_succ, ↓reduceIte, if_true, if_false, Bool.false_eq_true, Nat.reduceLeDiff, Nat.reduceEqDiff, true_or, or_true, true_and, and_true, and_self, or_self, not_true, not_false_iff, mR_stI, mN_stI, isO_stI, isA_stI, mI_stI, mR_mW, mN_mW, isO_mW, isA_mW, mI_mW, mW_mW, stI_mW, nI_addL, nI_mulL, nI_subL, nI_ltL, nI_leL, nI_Llt, nI_Lle, nI_eqL, nI_Leq, nI_add, pk_mul, nI_ltI, nI_leI, nI_eq, vpi, nI_clamp, nI_toN, bk_oB hB, bk_oV hB, bk_oH hB, bk_b0 hB, bk_b1 hB, bk_b2 hB, bk_b3 hB, bk_b4 hB, bk_b5 hB, bk_v0 hB, bk_v1 hB, bk_h0 hB, nw_o hB, nw_og hB, nw_od hB, nw_ot hB, nw_r9 hB, nw_r10 hB, nw_r11 hB, nw_r0 hB, nw_r1 hB, nw_r2 hB, nw_r3 hB, nw_r4 hB, nw_r5 hB, nw_r6 hB, nw_r7 hB, nw_r8 hB, nw_a1 hB, nw_a2 hB, nw_a3 hB, nw_a4 hB, nw_a5 hB, nw_a6 hB, nw_a7 hB, nw_a8 hB, nw_a9 hB, nw_a14 hB, nw_as hB, nw_at hB, vR, vT, Nat.not_lt_zero, bv_Tr, bv_Fa, one_n0, eq_self, Nat.zero_le, and_true, true_and, and_false, false_and, not_true, not_false_iff, or_true, true_or, or_false, false_or, mN_mRW, ex_iff, p_B_demand, i_L_hasTenant, i_L_isBankrupt, i_V_read, i_V_hasUnits, i_C_isFull, i_H_keep, i_C_add, pc_L_hasTenant (b := 20) (M := M) ⟨hL, hD⟩, pc_L_isBankrupt (b := 20) (M := M) ⟨hL, hD⟩, h1, h2]
    · by_cases h3 : x1 = -1000003
      · rcases bv_eq01 P with h4 | h4
        · refine Gm_run (S := [50]) [some (.ref 16), some (.int t)] 100 k_B_demand hC (ex_n hn) ?_
          simp (maxSteps := 3000000) (disch := first | exact True.intro | assumption | omega) only [↓run, ↓go, ↓jmp, seek, inS, ↓e0, ↓e1, ↓e2, ↓e3, ↓e4, ↓e5, ↓tsw, ↓e7, ↓e8, ↓e9, ↓e10, ↓e11, ↓e12, ↓splitA, rcv, clook, lget, lset, lset2, lkill, Option.toList, List.nil_append, List.cons_append, wsum, List.map_cons, List.map_nil, List.sum_cons, List.sum_nil, Value.category, Nat.reduceAdd, List.getD_cons_zero, List.getD_cons_succ, ↓reduceIte, if_true, if_false, Bool.false_eq_true, Nat.reduceLeDiff, Nat.reduceEqDiff, true_or, or_true, true_and, and_true, and_self, or_self, not_true, not_false_iff, mR_stI, mN_stI, isO_stI, isA_stI, mI_stI, mR_mW, mN_mW, isO_mW, isA_mW, mI_mW, mW_mW, stI_mW, nI_addL, nI_mulL, nI_subL, nI_ltL, nI_leL, nI_Llt, nI_Lle, nI_eqL, nI_Leq, nI_add, pk_mul, nI_ltI, nI_leI, nI_eq, vpi, nI_clamp, nI_toN, bk_oB hB, bk_oV hB, bk_oH hB, bk_b0 hB, bk_b1 hB, bk_b2 hB, bk_b3 hB, bk_b4 hB, bk_b5 hB, bk_v0 hB, bk_v1 hB, bk_h0 hB, nw_o hB, nw_og hB, nw_od hB, nw_ot hB, nw_r9 hB, nw_r10 hB, nw_r11 hB, nw_r0 hB, nw_r1 hB, nw_r2 hB, nw_r3 hB, nw_r4 hB, nw_r5 hB, nw_r6 hB, nw_r7 hB, nw_r8 hB, nw_a1 hB, nw_a2 hB, nw_a3 hB, nw_a4 hB, nw_a5 hB, nw_a6 hB, nw_a7 hB, nw_a8 hB, nw_a9 hB, nw_a14 hB, nw_as hB, nw_at hB, bk_oB hB2, bk_oV hB2, bk_oH hB2, bk_b0 hB2, bk_b1 hB2, bk_b2 hB2, bk_b3 hB2, bk_b4 hB2, bk_b5 hB2, bk_v0 hB2, bk_v1 hB2, bk_h0 hB2, nw_o hB2, nw_og hB2, nw_od hB2, nw_ot hB2, nw_r9 hB2, nw_r10 hB2, nw_r11 hB2, nw_r0 hB2, nw_r1 hB2, nw_r2 hB2, nw_r3 hB2, nw_r4 hB2, nw_r5 hB2, nw_r6 hB2, nw_r7 hB2, nw_r8 hB2, nw_a1 hB2, nw_a2 hB2, nw_a3 hB2, nw_a4 hB2, nw_a5 hB2, nw_a6 hB2, nw_a7 hB2, nw_a8 hB2, nw_a9 hB2, nw_a14 hB2, nw_as hB2, nw_at hB2, vR, vT, Nat.not_lt_zero, bv_Tr, bv_Fa, one_n0, eq_self, Nat.zero_le, and_true, true_and, and_false, false_and, not_true, not_false_iff, or_true, true_or, or_false, false_or, mN_mRW, ex_iff, p_B_demand, i_L_hasTenant, i_L_isBankrupt, i_V_read, i_V_hasUnits, i_C_isFull, i_H_keep, i_C_add, pc_L_hasTenant (b := 20) (M := M) ⟨hL, hD⟩, pc_L_isBankrupt (b := 20) (M := M) ⟨hL, hD⟩, hrd, ho1, hr1, hhu, h1, h2, h3, h4]
        · by_cases h5 : 24 ≤ csz (mI M) 32
          · refine Gm_run (S := [66]) [some (.ref 16), some (.int t)] 100 k_B_demand hC (ex_n hn) ?_
            simp (maxSteps := 3000000) (disch := first | exact True.intro | assumption | omega) only [↓run, ↓go, ↓jmp, seek, inS, ↓e0, ↓e1, ↓e2, ↓e3, ↓e4, ↓e5, ↓tsw, ↓e7, ↓e8, ↓e9, ↓e10, ↓e11, ↓e12, ↓splitA, rcv, clook, lget, lset, lset2, lkill, Option.toList, List.nil_append, List.cons_append, wsum, List.map_cons, List.map_nil, List.sum_cons, List.sum_nil, Value.category, Nat.reduceAdd, List.getD_cons_zero, List.getD_cons_succ, ↓reduceIte, if_true, if_false, Bool.false_eq_true, Nat.reduceLeDiff, Nat.reduceEqDiff, true_or, or_true, true_and, and_true, and_self, or_self, not_true, not_false_iff, mR_stI, mN_stI, isO_stI, isA_stI, mI_stI, mR_mW, mN_mW, isO_mW, isA_mW, mI_mW, mW_mW, stI_mW, nI_addL, nI_mulL, nI_subL, nI_ltL, nI_leL, nI_Llt, nI_Lle, nI_eqL, nI_Leq, nI_add, pk_mul, nI_ltI, nI_leI, nI_eq, vpi, nI_clamp, nI_toN, bk_oB hB, bk_oV hB, bk_oH hB, bk_b0 hB, bk_b1 hB, bk_b2 hB, bk_b3 hB, bk_b4 hB, bk_b5 hB, bk_v0 hB, bk_v1 hB, bk_h0 hB, nw_o hB, nw_og hB, nw_od hB, nw_ot hB, nw_r9 hB, nw_r10 hB, nw_r11 hB, nw_r0 hB, nw_r1 hB, nw_r2 hB, nw_r3 hB, nw_r4 hB, nw_r5 hB, nw_r6 hB, nw_r7 hB, nw_r8 hB, nw_a1 hB, nw_a2 hB, nw_a3 hB, nw_a4 hB, nw_a5 hB, nw_a6 hB, nw_a7 hB, nw_a8 hB, nw_a9 hB, nw_a14 hB, nw_as hB, nw_at hB, bk_oB hB2, bk_oV hB2, bk_oH hB2, bk_b0 hB2, bk_b1 hB2, bk_b2 hB2, bk_b3 hB2, bk_b4 hB2, bk_b5 hB2, bk_v0 hB2, bk_v1 hB2, bk_h0 hB2, nw_o hB2, nw_og hB2, nw_od hB2, nw_ot hB2, nw_r9 hB2, nw_r10 hB2, nw_r11 hB2, nw_r0 hB2, nw_r1 hB2, nw_r2 hB2, nw_r3 hB2, nw_r4 hB2, nw_r5 hB2, nw_r6 hB2, nw_r7 hB2, nw_r8 hB2, nw_a1 hB2, nw_a2 hB2, nw_a3 hB2, nw_a4 hB2, nw_a5 hB2, nw_a6 hB2, nw_a7 hB2, nw_a8 hB2, nw_a9 hB2, nw_a14 hB2, nw_as hB2, nw_at hB2, vR, vT, Nat.not_lt_zero, bv_Tr, bv_Fa, one_n0, eq_self, Nat.zero_le, and_true, true_and, and_false, false_and, not_true, not_false_iff, or_true, true_or, or_false, false_or, mN_mRW, ex_iff, p_B_demand, i_L_hasTenant, i_L_isBankrupt, i_V_read, i_V_hasUnits, i_C_isFull, i_H_keep, i_C_add, pc_L_hasTenant (b := 20) (M := M) ⟨hL, hD⟩, pc_L_isBankrupt (b := 20) (M := M) ⟨hL, hD⟩, hrd, ho1, hr1, hhu, hif, h1, h2, h3, h4, h5]
          · refine Gm_run (S := []) [some (.ref 16), some (.int t)] 100 k_B_demand hC (ex_n hn) ?_
            simp (maxSteps := 3000000) (disch := first | exact True.intro | assumption | omega) only [↓run, ↓go, ↓jmp, seek, inS, ↓e0, ↓e1, ↓e2, ↓e3, ↓e4, ↓e5, ↓tsw, ↓e7, ↓e8, ↓e9, ↓e10, ↓e11, ↓e12, ↓splitA, rcv, clook, lget, lset, lset2, lkill, Option.toList, List.nil_append, List.cons_append, wsum, List.map_cons, List.map_nil, List.sum_cons, List.sum_nil, Value.category, Nat.reduceAdd, List.getD_cons_zero, List.getD_cons_succ, ↓reduceIte, if_true, if_false, Bool.false_eq_true, Nat.reduceLeDiff, Nat.reduceEqDiff, true_or, or_true, true_and, and_true, and_self, or_self, not_true, not_false_iff, mR_stI, mN_stI, isO_stI, isA_stI, mI_stI, mR_mW, mN_mW, isO_mW, isA_mW, mI_mW, mW_mW, stI_mW, nI_addL, nI_mulL, nI_subL, nI_ltL, nI_leL, nI_Llt, nI_Lle, nI_eqL, nI_Leq, nI_add, pk_mul, nI_ltI, nI_leI, nI_eq, vpi, nI_clamp, nI_toN, bk_oB hB, bk_oV hB, bk_oH hB, bk_b0 hB, bk_b1 hB, bk_b2 hB, bk_b3 hB, bk_b4 hB, bk_b5 hB, bk_v0 hB, bk_v1 hB, bk_h0 hB, nw_o hB, nw_og hB, nw_od hB, nw_ot hB, nw_r9 hB, nw_r10 hB, nw_r11 hB, nw_r0 hB, nw_r1 hB, nw_r2 hB, nw_r3 hB, nw_r4 hB, nw_r5 hB, nw_r6 hB, nw_r7 hB, nw_r8 hB, nw_a1 hB, nw_a2 hB, nw_a3 hB, nw_a4 hB, nw_a5 hB, nw_a6 hB, nw_a7 hB, nw_a8 hB, nw_a9 hB, nw_a14 hB, nw_as hB, nw_at hB, bk_oB hB2, bk_oV hB2, bk_oH hB2, bk_b0 hB2, bk_b1 hB2, bk_b2 hB2, bk_b3 hB2, bk_b4 hB2, bk_b5 hB2, bk_v0 hB2, bk_v1 hB2, bk_h0 hB2, nw_o hB2, nw_og hB2, nw_od hB2, nw_ot hB2, nw_r9 hB2, nw_r10 hB2, nw_r11 hB2, nw_r0 hB2, nw_r1 hB2, nw_r2 hB2, nw_r3 hB2, nw_r4 hB2, nw_r5 hB2, nw_r6 hB2, nw_r7 hB2, nw_r8 hB2, nw_a1 hB2, nw_a2 hB2, nw_a3 hB2, nw_a4 hB2, nw_a5 hB2, nw_a6 hB2, nw_a7 hB2, nw_a8 hB2, nw_a9 hB2, nw_a14 hB2, nw_as hB2, nw_at hB2, vR, vT, Nat.not_lt_zero, bv_Tr, bv_Fa, one_n0, eq_self, Nat.zero_le, and_true, true_and, and_false, false_and, not_true, not_false_iff, or_true, true_or, or_false, false_or, mN_mRW, ex_iff, p_B_demand, i_L_hasTenant, i_L_isBankrupt, i_V_read, i_V_hasUnits, i_C_isFull, i_H_keep, i_C_add, pc_L_hasTenant (b := 20) (M := M) ⟨hL, hD⟩, pc_L_isBankrupt (b := 20) (M := M) ⟨hL, hD⟩, hrd, ho1, hr1, hhu, hif, hkp, hA h5, q1, h1, h2, h3, h4, h5]
      · refine Gm_run (S := [50]) [some (.ref 16), some (.int t)] 100 k_B_demand hC (ex_n hn) ?_
        simp (maxSteps := 3000000) (disch := first | exact True.intro | assumption | omega) only [↓run, ↓go, ↓jmp, seek, inS, ↓e0, ↓e1, ↓e2, ↓e3, ↓e4, ↓e5, ↓tsw, ↓e7, ↓e8, ↓e9, ↓e10, ↓e11, ↓e12, ↓splitA, rcv, clook, lget, lset, lset2, lkill, Option.toList, List.nil_append, List.cons_append, wsum, List.map_cons, List.map_nil, List.sum_cons, List.sum_nil, Value.category, Nat.reduceAdd, List.getD_cons_zero, List.getD_cons_succ, ↓reduceIte, if_true, if_false, Bool.false_eq_true, Nat.reduceLeDiff, Nat.reduceEqDiff, true_or, or_true, true_and, and_true, and_self, or_self, not_true, not_false_iff, mR_stI, mN_stI, isO_stI, isA_stI, mI_stI, mR_mW, mN_mW, isO_mW, isA_mW, mI_mW, mW_mW, stI_mW, nI_addL, nI_mulL, nI_subL, nI_ltL, nI_leL, nI_Llt, nI_Lle, nI_eqL, nI_Leq, nI_add, pk_mul, nI_ltI, nI_leI, nI_eq, vpi, nI_clamp, nI_toN, bk_oB hB, bk_oV hB, bk_oH hB, bk_b0 hB, bk_b1 hB, bk_b2 hB, bk_b3 hB, bk_b4 hB, bk_b5 hB, bk_v0 hB, bk_v1 hB, bk_h0 hB, nw_o hB, nw_og hB, nw_od hB, nw_ot hB, nw_r9 hB, nw_r10 hB, nw_r11 hB, nw_r0 hB, nw_r1 hB, nw_r2 hB, nw_r3 hB, nw_r4 hB, nw_r5 hB, nw_r6 hB, nw_r7 hB, nw_r8 hB, nw_a1 hB, nw_a2 hB, nw_a3 hB, nw_a4 hB, nw_a5 hB, nw_a6 hB, nw_a7 hB, nw_a8 hB, nw_a9 hB, nw_a14 hB, nw_as hB, nw_at hB, bk_oB hB2, bk_oV hB2, bk_oH hB2, bk_b0 hB2, bk_b1 hB2, bk_b2 hB2, bk_b3 hB2, bk_b4 hB2, bk_b5 hB2, bk_v0 hB2, bk_v1 hB2, bk_h0 hB2, nw_o hB2, nw_og hB2, nw_od hB2, nw_ot hB2, nw_r9 hB2, nw_r10 hB2, nw_r11 hB2, nw_r0 hB2, nw_r1 hB2, nw_r2 hB2, nw_r3 hB2, nw_r4 hB2, nw_r5 hB2, nw_r6 hB2, nw_r7 hB2, nw_r8 hB2, nw_a1 hB2, nw_a2 hB2, nw_a3 hB2, nw_a4 hB2, nw_a5 hB2, nw_a6 hB2, nw_a7 hB2, nw_a8 hB2, nw_a9 hB2, nw_a14 hB2, nw_as hB2, nw_at hB2, vR, vT, Nat.not_lt_zero, bv_Tr, bv_Fa, one_n0, eq_self, Nat.zero_le, and_true, true_and, and_false, false_and, not_true, not_false_iff, or_true, true_or, or_false, false_or, mN_mRW, ex_iff, p_B_demand, i_L_hasTenant, i_L_isBankrupt, i_V_read, i_V_hasUnits, i_C_isFull, i_H_keep, i_C_add, pc_L_hasTenant (b := 20) (M := M) ⟨hL, hD⟩, pc_L_isBankrupt (b := 20) (M := M) ⟨hL, hD⟩, hrd, ho1, hr1, h1, h2, h3]
  · refine Gm_run (S := [14]) [some (.ref 16), some (.int t)] 100 k_B_demand hC (ex_n hn) ?_
    simp (maxSteps := 3000000) (disch := first | exact True.intro | assumption | omega) only [↓run, ↓go, ↓jmp, seek, inS, ↓e0, ↓e1, ↓e2, ↓e3, ↓e4, ↓e5, ↓tsw, ↓e7, ↓e8, ↓e9, ↓e10, ↓e11, ↓e12, ↓splitA, rcv, clook, lget, lset, lset2, lkill, Option.toList, List.nil_append, List.cons_append, wsum, List.map_cons, List.map_nil, List.sum_cons, List.sum_nil, Value.category, Nat.reduceAdd, List.getD_cons_zero, List.getD_cons_succ, ↓reduceIte, if_true, if_false, Bool.false_eq_true, Nat.reduceLeDiff, Nat.reduceEqDiff, true_or, or_true, true_and, and_true, and_self, or_self, not_true, not_false_iff, mR_stI, mN_stI, isO_stI, isA_stI, mI_stI, mR_mW, mN_mW, isO_mW, isA_mW, mI_mW, mW_mW, stI_mW, nI_addL, nI_mulL, nI_subL, nI_ltL, nI_leL, nI_Llt, nI_Lle, nI_eqL, nI_Leq, nI_add, pk_mul, nI_ltI, nI_leI, nI_eq, vpi, nI_clamp, nI_toN, bk_oB hB, bk_oV hB, bk_oH hB, bk_b0 hB, bk_b1 hB, bk_b2 hB, bk_b3 hB, bk_b4 hB, bk_b5 hB, bk_v0 hB, bk_v1 hB, bk_h0 hB, nw_o hB, nw_og hB, nw_od hB, nw_ot hB, nw_r9 hB, nw_r10 hB, nw_r11 hB, nw_r0 hB, nw_r1 hB, nw_r2 hB, nw_r3 hB, nw_r4 hB, nw_r5 hB, nw_r6 hB, nw_r7 hB, nw_r8 hB, nw_a1 hB, nw_a2 hB, nw_a3 hB, nw_a4 hB, nw_a5 hB, nw_a6 hB, nw_a7 hB, nw_a8 hB, nw_a9 hB, nw_a14 hB, nw_as hB, nw_at hB, vR, vT, Nat.not_lt_zero, bv_Tr, bv_Fa, one_n0, eq_self, Nat.zero_le, and_true, true_and, and_false, false_and, not_true, not_false_iff, or_true, true_or, or_false, false_or, mN_mRW, ex_iff, p_B_demand, i_L_hasTenant, i_L_isBankrupt, i_V_read, i_V_hasUnits, i_C_isFull, i_H_keep, i_C_add, pc_L_hasTenant (b := 20) (M := M) ⟨hL, hD⟩, h1]
end
section
theorem fwF_cases (f : Nat → Nat → Int32) (c : Nat) (col v : Int32) : fwF f c col v = -1 ∨ ∃ k, fwF f c col v = nI k ∧ k < csz f c := by
  rcases fwR_cases (fun k => cellF f c (nI k) col = v) (csz f c) 0 with e | ⟨k, -, h2, -, e⟩
  · exact Or.inl e
  · exact Or.inr ⟨k, e, by omega⟩
theorem rowF_cases (f : Nat → Nat → Int32) (c : Nat) (v : Int32) : rowF f c v = -1 ∨ ∃ k, rowF f c v = nI k ∧ k < csz f c := by
  unfold rowF
  split
  · exact Or.inl rfl
  · exact fwF_cases f c 5 v
theorem nI_geT (k : Nat) (h : k < 2 ^ 31) : (0 ≤ nI k) = True := by
  have := nI_leI (a := 0) (b := k) (by omega) h
  exact eq_true (this.mpr (Nat.zero_le _))
theorem nI_lt0 (k : Nat) (h : k < 2 ^ 31) : (nI k < 0) = False := by
  have := nI_ltI (a := k) (b := 0) h (by omega)
  exact eq_false (fun q => absurd (this.mp q) (Nat.not_lt_zero _))
def wdR (f : Nat → Nat → Int32) (t : Int32) : Int32 := if vT f t then (if fwF f 32 4 t < 0 then -1000001 else nI (csz f 32 - 1)) else -1000000
noncomputable def wdM (M : Mem) (t : Int32) : Mem := if vT (mI M) t ∧ ¬ fwF (mI M) 32 4 t < 0 then mW (kpM M) (rmF (mI (kpM M)) 32 (fwF (mI M) 32 4 t).toNatClampNeg) else M
def e_B_withdraw : Ent := (fun av M => ∃ (o : Nat) (t : Int32), av = [.ref o, .int t] ∧ (o = 16 ∧ WB M), fun av M r_ M_ => ∀ (o : Nat) (t : Int32), av = [.ref o, .int t] → r_ = (some (.int (wdR (mI M) t))) ∧ M_ = (wdM M t))
theorem pc_B_withdraw {o : Nat} {t : Int32} {M : Mem} {K : Option Value → Mem → Prop} (hp : o = 16 ∧ WB M) : pcall e_B_withdraw [.ref o, .int t] M K = K (some (.int (wdR (mI M) t))) (wdM M t) := propext ⟨fun h => h.2 _ _ (fun o' t' e => by simp only [List.cons.injEq, Value.ref.injEq, Value.int.injEq, Value.long.injEq, and_true] at e; obtain ⟨q0, q1⟩ := e; obtain rfl := q0; obtain rfl := q1; exact ⟨rfl, rfl⟩), fun h => ⟨⟨o, t, rfl, hp⟩, fun r_ M_ q => by obtain ⟨rfl, rfl⟩ := q _ _ rfl; exact h⟩⟩
theorem mk_B_withdraw {Z : Zt} {d : Nat} (h : ∀ (o : Nat) (t : Int32) (M : Mem), (o = 16 ∧ WB M) → Gm Z d s_B_withdraw [.ref o, .int t] M (ex (some (.int (wdR (mI M) t))) (wdM M t))) : okE Z d i_B_withdraw e_B_withdraw := by
  rintro av M ⟨o, t, rfl, hp⟩
  exact Gm.cons (h o t M  hp) (fun r_ M_ q o' t' e => by simp only [List.cons.injEq, Value.ref.injEq, Value.int.injEq, Value.long.injEq, and_true] at e; obtain ⟨q0, q1⟩ := e; obtain rfl := q0; obtain rfl := q1; exact q)
set_option maxRecDepth 100000 in
set_option maxHeartbeats 4000000 in
theorem ok_B_withdraw (Z : Zt) (d : Nat) : okE Z (d + 5) i_B_withdraw e_B_withdraw := mk_B_withdraw fun o t M hp => by
  obtain ⟨rfl, hW⟩ := hp
  have hW2 := kp_W hW
  obtain ⟨hB, hD, hD2, hH, hT⟩ := hW
  have hL := bk_now hB
  have hkp : ∀ {K : Option Value → Mem → Prop}, pcall e_H_keep [.ref 50, .ref 20] M K = K none (kpM M) := pc_H_keep (o := 50) (b := 20) (M := M) ⟨rfl, rfl, hB, hD, hH⟩
  have hkI : ∀ {x y}, x < 50 ∨ 171 < x → mI (kpM M) x y = mI M x y := fun {x y} h => kp_i hB hH h
  have hn2 := kp_n M

  have hc24 : csz (mI M) 32 ≤ 24 := hD.2.2.2.1
  have hw := fwF_cases (mI M) 32 4 t
  have hfw : ∀ {K : Option Value → Mem → Prop}, pcall e_C_firstWith [.ref 32, .int 4, .int t] M K = K (some (.int (fwF (mI M) 32 4 t))) M := pc_C_firstWith (ld_cd hL hD)
  have hz : csz (mI (kpM M)) 32 = csz (mI M) 32 := by unfold csz; rw [hkI (by omega)]
  unfold wdR wdM
  generalize hf : fwF (mI M) 32 4 t = w at *
  generalize hM2 : kpM M = M2 at *
  have hB2 : BkS M2 := hW2.1
  have hq : ∀ k, rmF (mI M2) 32 k 32 2 = nI (csz (mI M) 32 - 1) := fun k => by rw [rmF_s, hz]
  have hrm : ∀ {k : Nat} {K : Option Value → Mem → Prop}, k < csz (mI M) 32 → pcall e_C_remove [.ref 32, .int (nI k)] M2 K = K none (mW M2 (rmF (mI M2) 32 k)) := fun h => pc_C_remove ⟨ld_cd (bk_now hB2) hW2.2.1, by rw [hz]; exact h⟩ (by omega)
  have hC : ∀ q ∈ [(i_L_hasTenant, e_L_hasTenant), (i_C_firstWith, e_C_firstWith), (i_H_keep, e_H_keep), (i_C_remove, e_C_remove)], okE Z (d + 4) q.1 q.2 := (okE_cons (ok_L_hasTenant Z (d + 3)) (okE_cons (ok_C_firstWith Z (d + 1)) (okE_cons (ok_H_keep Z d) (okE_cons (ok_C_remove Z (d + 2)) okE_nil))))
  by_cases h1 : 0 ≤ t ∧ t < nI (lnT (mI M) 20)
  · rcases hw with rfl | ⟨k, rfl, hk⟩
    · refine Gm_run (S := [34]) [some (.ref 16), some (.int t), none] 100 k_B_withdraw hC (ex_n (by simp [m1_neg])) ?_
      simp (maxSteps := 3000000) (disch := first | exact True.intro | assumption | omega) only [↓run, ↓go, ↓jmp, seek, inS, ↓e0, ↓e1, ↓e2, ↓e3, ↓e4, ↓e5, ↓tsw, ↓e7, ↓e8, ↓e9, ↓e10, ↓e11, ↓e12, ↓splitA, rcv, clook, lget, lset, lset2, lkill, Option.toList, List.nil_append, List.cons_append, wsum, List.map_cons, List.map_nil, List.sum_cons, List.sum_nil, Value.category, Nat.reduceAdd, List.getD_cons_zero, List.getD_cons_succ, ↓reduceIte, if_true, if_false, Bool.false_eq_true, Nat.reduceLeDiff, Nat.reduceEqDiff, true_or, or_true, true_and, and_true, and_self, or_self, not_true, not_false_iff, mR_stI, mN_stI, isO_stI, isA_stI, mI_stI, mR_mW, mN_mW, isO_mW, isA_mW, mI_mW, mW_mW, stI_mW, nI_addL, nI_mulL, nI_subL, nI_ltL, nI_leL, nI_Llt, nI_Lle, nI_eqL, nI_Leq, nI_add, pk_mul, nI_ltI, nI_leI, nI_eq, vpi, nI_clamp, nI_toN, bk_oB hB, bk_oV hB, bk_oH hB, bk_b0 hB, bk_b1 hB, bk_b2 hB, bk_b3 hB, bk_b4 hB, bk_b5 hB, bk_v0 hB, bk_v1 hB, bk_h0 hB, nw_o hB, nw_og hB, nw_od hB, nw_ot hB, nw_r9 hB, nw_r10 hB, nw_r11 hB, nw_r0 hB, nw_r1 hB, nw_r2 hB, nw_r3 hB, nw_r4 hB, nw_r5 hB, nw_r6 hB, nw_r7 hB, nw_r8 hB, nw_a1 hB, nw_a2 hB, nw_a3 hB, nw_a4 hB, nw_a5 hB, nw_a6 hB, nw_a7 hB, nw_a8 hB, nw_a9 hB, nw_a14 hB, nw_as hB, nw_at hB, vR, vT, Nat.not_lt_zero, bv_Tr, bv_Fa, one_n0, eq_self, Nat.zero_le, and_true, true_and, and_false, false_and, not_true, not_false_iff, or_true, true_or, or_false, false_or, mN_mRW, ex_iff, p_B_withdraw, i_L_hasTenant, i_C_firstWith, i_H_keep, i_C_remove, pc_L_hasTenant (b := 20) (M := M) ⟨hL, hD⟩, hfw, m1_neg, m1_nn, h1]
    · refine Gm_run (S := []) [some (.ref 16), some (.int t), none] 100 k_B_withdraw hC (ex_n (by split; exact hn2; rfl)) ?_
      simp (maxSteps := 3000000) (disch := first | exact True.intro | assumption | omega) only [↓run, ↓go, ↓jmp, seek, inS, ↓e0, ↓e1, ↓e2, ↓e3, ↓e4, ↓e5, ↓tsw, ↓e7, ↓e8, ↓e9, ↓e10, ↓e11, ↓e12, ↓splitA, rcv, clook, lget, lset, lset2, lkill, Option.toList, List.nil_append, List.cons_append, wsum, List.map_cons, List.map_nil, List.sum_cons, List.sum_nil, Value.category, Nat.reduceAdd, List.getD_cons_zero, List.getD_cons_succ, ↓reduceIte, if_true, if_false, Bool.false_eq_true, Nat.reduceLeDiff, Nat.reduceEqDiff, true_or, or_true, true_and, and_true, and_self, or_self, not_true, not_false_iff, mR_stI, mN_stI, isO_stI, isA_stI, mI_stI, mR_mW, mN_mW, isO_mW, isA_mW, mI_mW, mW_mW, stI_mW, nI_addL, nI_mulL, nI_subL, nI_ltL, nI_leL, nI_Llt, nI_Lle, nI_eqL, nI_Leq, nI_add, pk_mul, nI_ltI, nI_leI, nI_eq, vpi, nI_clamp, nI_toN, bk_oB hB, bk_oV hB, bk_oH hB, bk_b0 hB, bk_b1 hB, bk_b2 hB, bk_b3 hB, bk_b4 hB, bk_b5 hB, bk_v0 hB, bk_v1 hB, bk_h0 hB, nw_o hB, nw_og hB, nw_od hB, nw_ot hB, nw_r9 hB, nw_r10 hB, nw_r11 hB, nw_r0 hB, nw_r1 hB, nw_r2 hB, nw_r3 hB, nw_r4 hB, nw_r5 hB, nw_r6 hB, nw_r7 hB, nw_r8 hB, nw_a1 hB, nw_a2 hB, nw_a3 hB, nw_a4 hB, nw_a5 hB, nw_a6 hB, nw_a7 hB, nw_a8 hB, nw_a9 hB, nw_a14 hB, nw_as hB, nw_at hB, bk_oB hB2, bk_oV hB2, bk_oH hB2, bk_b0 hB2, bk_b1 hB2, bk_b2 hB2, bk_b3 hB2, bk_b4 hB2, bk_b5 hB2, bk_v0 hB2, bk_v1 hB2, bk_h0 hB2, nw_o hB2, nw_og hB2, nw_od hB2, nw_ot hB2, nw_r9 hB2, nw_r10 hB2, nw_r11 hB2, nw_r0 hB2, nw_r1 hB2, nw_r2 hB2, nw_r3 hB2, nw_r4 hB2, nw_r5 hB2, nw_r6 hB2, nw_r7 hB2, nw_r8 hB2, nw_a1 hB2, nw_a2 hB2, nw_a3 hB2, nw_a4 hB2, nw_a5 hB2, nw_a6 hB2, nw_a7 hB2, nw_a8 hB2, nw_a9 hB2, nw_a14 hB2, nw_as hB2, nw_at hB2, vR, vT, Nat.not_lt_zero, bv_Tr, bv_Fa, one_n0, eq_self, Nat.zero_le, and_true, true_and, and_false, false_and, not_true, not_false_iff, or_true, true_or, or_false, false_or, mN_mRW, ex_iff, p_B_withdraw, i_L_hasTenant, i_C_firstWith, i_H_keep, i_C_remove, pc_L_hasTenant (b := 20) (M := M) ⟨hL, hD⟩, hfw, hkp, hrm hk, hq, nI_geT, nI_lt0, h1]
  · refine Gm_run (S := [14]) [some (.ref 16), some (.int t), none] 100 k_B_withdraw hC (ex_n (by simp [h1])) ?_
    simp (maxSteps := 3000000) (disch := first | exact True.intro | assumption | omega) only [↓run, ↓go, ↓jmp, seek, inS, ↓e0, ↓e1, ↓e2, ↓e3, ↓e4, ↓e5, ↓tsw, ↓e7, ↓e8, ↓e9, ↓e10, ↓e11, ↓e12, ↓splitA, rcv, clook, lget, lset, lset2, lkill, Option.toList, List.nil_append, List.cons_append, wsum, List.map_cons, List.map_nil, List.sum_cons, List.sum_nil, Value.category, Nat.reduceAdd, List.getD_cons_zero, List.getD_cons_succ, ↓reduceIte, if_true, if_false, Bool.false_eq_true, Nat.reduceLeDiff, Nat.reduceEqDiff, true_or, or_true, true_and, and_true, and_self, or_self, not_true, not_false_iff, mR_stI, mN_stI, isO_stI, isA_stI, mI_stI, mR_mW, mN_mW, isO_mW, isA_mW, mI_mW, mW_mW, stI_mW, nI_addL, nI_mulL, nI_subL, nI_ltL, nI_leL, nI_Llt, nI_Lle, nI_eqL, nI_Leq, nI_add, pk_mul, nI_ltI, nI_leI, nI_eq, vpi, nI_clamp, nI_toN, bk_oB hB, bk_oV hB, bk_oH hB, bk_b0 hB, bk_b1 hB, bk_b2 hB, bk_b3 hB, bk_b4 hB, bk_b5 hB, bk_v0 hB, bk_v1 hB, bk_h0 hB, nw_o hB, nw_og hB, nw_od hB, nw_ot hB, nw_r9 hB, nw_r10 hB, nw_r11 hB, nw_r0 hB, nw_r1 hB, nw_r2 hB, nw_r3 hB, nw_r4 hB, nw_r5 hB, nw_r6 hB, nw_r7 hB, nw_r8 hB, nw_a1 hB, nw_a2 hB, nw_a3 hB, nw_a4 hB, nw_a5 hB, nw_a6 hB, nw_a7 hB, nw_a8 hB, nw_a9 hB, nw_a14 hB, nw_as hB, nw_at hB, vR, vT, Nat.not_lt_zero, bv_Tr, bv_Fa, one_n0, eq_self, Nat.zero_le, and_true, true_and, and_false, false_and, not_true, not_false_iff, or_true, true_or, or_false, false_or, mN_mRW, ex_iff, p_B_withdraw, i_L_hasTenant, i_C_firstWith, i_H_keep, i_C_remove, pc_L_hasTenant (b := 20) (M := M) ⟨hL, hD⟩, h1]
def gtR (f : Nat → Nat → Int32) : Int32 := if ndF f 20 < 0 then -1000001 else if 40 ≤ csz f 30 then -1000002 else f 33 ((ndF f 20).toNatClampNeg * 6 + 4)
noncomputable def gtM (M : Mem) : Mem := if ndF (mI M) 20 < 0 ∨ 40 ≤ csz (mI M) 30 then M else mW (kpM M) (svF (mI (kpM M)) 20 (ndF (mI M) 20).toNatClampNeg)
def e_B_grant : Ent := (fun av M => ∃ (o : Nat), av = [.ref o] ∧ (o = 16 ∧ WB M), fun av M r_ M_ => ∀ (o : Nat), av = [.ref o] → r_ = (some (.int (gtR (mI M)))) ∧ M_ = (gtM M))
theorem pc_B_grant {o : Nat} {M : Mem} {K : Option Value → Mem → Prop} (hp : o = 16 ∧ WB M) : pcall e_B_grant [.ref o] M K = K (some (.int (gtR (mI M)))) (gtM M) := propext ⟨fun h => h.2 _ _ (fun o' e => by simp only [List.cons.injEq, Value.ref.injEq, Value.int.injEq, Value.long.injEq, and_true] at e; have q0 := e; obtain rfl := q0; exact ⟨rfl, rfl⟩), fun h => ⟨⟨o, rfl, hp⟩, fun r_ M_ q => by obtain ⟨rfl, rfl⟩ := q _ rfl; exact h⟩⟩
theorem mk_B_grant {Z : Zt} {d : Nat} (h : ∀ (o : Nat) (M : Mem), (o = 16 ∧ WB M) → Gm Z d s_B_grant [.ref o] M (ex (some (.int (gtR (mI M)))) (gtM M))) : okE Z d i_B_grant e_B_grant := by
  rintro av M ⟨o, rfl, hp⟩
  exact Gm.cons (h o M  hp) (fun r_ M_ q o' e => by simp only [List.cons.injEq, Value.ref.injEq, Value.int.injEq, Value.long.injEq, and_true] at e; have q0 := e; obtain rfl := q0; exact q)
set_option maxRecDepth 100000 in
set_option maxHeartbeats 4000000 in
theorem ok_B_grant (Z : Zt) (d : Nat) : okE Z (d + 5) i_B_grant e_B_grant := mk_B_grant fun o M hp => by
  obtain ⟨rfl, hW⟩ := hp
  have hW2 := kp_W hW
  obtain ⟨hB, hD, hD2, hH, hT⟩ := hW
  have hL := bk_now hB
  have hkp : ∀ {K : Option Value → Mem → Prop}, pcall e_H_keep [.ref 50, .ref 20] M K = K none (kpM M) := pc_H_keep (o := 50) (b := 20) (M := M) ⟨rfl, rfl, hB, hD, hH⟩
  have hkI : ∀ {x y}, x < 50 ∨ 171 < x → mI (kpM M) x y = mI M x y := fun {x y} h => kp_i hB hH h
  have hn2 := kp_n M

  have hc24 : csz (mI M) 32 ≤ 24 := hD.2.2.2.1
  have hw := ndF_cases (mI M) 20
  have hcc : ccap 30 = 40 := rfl
  have hnd : ∀ {K : Option Value → Mem → Prop}, pcall e_L_nextDemand [.ref 20] M K = K (some (.int (ndF (mI M) 20))) M := pc_L_nextDemand ⟨hL, hD⟩
  have hfl : ∀ {K : Option Value → Mem → Prop}, pcall e_C_isFull [.ref 30] M K = K (some (.int (bv (40 ≤ csz (mI M) 30)))) M := by
    intro K
    rw [pc_C_isFull (c := 30) (M := M) (ld_cg hL hD), hcc]
  have hz : csz (mI (kpM M)) 32 = csz (mI M) 32 := by unfold csz; rw [hkI (by omega)]
  have hzg : csz (mI (kpM M)) 30 = csz (mI M) 30 := by unfold csz; rw [hkI (by omega)]
  unfold gtR gtM
  generalize hf : ndF (mI M) 20 = w at *
  generalize hM2 : kpM M = M2 at *
  have hB2 : BkS M2 := hW2.1
  have hC : ∀ q ∈ [(i_L_nextDemand, e_L_nextDemand), (i_C_isFull, e_C_isFull), (i_H_keep, e_H_keep), (i_L_serve, e_L_serve)], okE Z (d + 4) q.1 q.2 := (okE_cons (ok_L_nextDemand Z d) (okE_cons (ok_C_isFull Z (d + 3)) (okE_cons (ok_H_keep Z d) (okE_cons (ok_L_serve Z d) okE_nil))))
  rcases hw with rfl | ⟨k, hk, rfl⟩
  · refine Gm_run (S := [15]) [some (.ref 16), none] 100 k_B_grant hC (ex_n (by simp [m1_neg])) ?_
    simp (maxSteps := 3000000) (disch := first | exact True.intro | assumption | omega) only [↓run, ↓go, ↓jmp, seek, inS, ↓e0, ↓e1, ↓e2, ↓e3, ↓e4, ↓e5, ↓tsw, ↓e7, ↓e8, ↓e9, ↓e10, ↓e11, ↓e12, ↓splitA, rcv, clook, lget, lset, lset2, lkill, Option.toList, List.nil_append, List.cons_append, wsum, List.map_cons, List.map_nil, List.sum_cons, List.sum_nil, Value.category, Nat.reduceAdd, List.getD_cons_zero, List.getD_cons_succ, ↓reduceIte, if_true, if_false, Bool.false_eq_true, Nat.reduceLeDiff, Nat.reduceEqDiff, true_or, or_true, true_and, and_true, and_self, or_self, not_true, not_false_iff, mR_stI, mN_stI, isO_stI, isA_stI, mI_stI, mR_mW, mN_mW, isO_mW, isA_mW, mI_mW, mW_mW, stI_mW, nI_addL, nI_mulL, nI_subL, nI_ltL, nI_leL, nI_Llt, nI_Lle, nI_eqL, nI_Leq, nI_add, pk_mul, nI_ltI, nI_leI, nI_eq, vpi, nI_clamp, nI_toN, bk_oB hB, bk_oV hB, bk_oH hB, bk_b0 hB, bk_b1 hB, bk_b2 hB, bk_b3 hB, bk_b4 hB, bk_b5 hB, bk_v0 hB, bk_v1 hB, bk_h0 hB, nw_o hB, nw_og hB, nw_od hB, nw_ot hB, nw_r9 hB, nw_r10 hB, nw_r11 hB, nw_r0 hB, nw_r1 hB, nw_r2 hB, nw_r3 hB, nw_r4 hB, nw_r5 hB, nw_r6 hB, nw_r7 hB, nw_r8 hB, nw_a1 hB, nw_a2 hB, nw_a3 hB, nw_a4 hB, nw_a5 hB, nw_a6 hB, nw_a7 hB, nw_a8 hB, nw_a9 hB, nw_a14 hB, nw_as hB, nw_at hB, vR, vT, Nat.not_lt_zero, bv_Tr, bv_Fa, one_n0, eq_self, Nat.zero_le, and_true, true_and, and_false, false_and, not_true, not_false_iff, or_true, true_or, or_false, false_or, mN_mRW, ex_iff, p_B_grant, i_L_nextDemand, i_C_isFull, i_H_keep, i_L_serve, hnd, m1_neg, m1_nn]
  · have hk : k < csz (mI M) 32 := hk
    by_cases h1 : 40 ≤ csz (mI M) 30
    · refine Gm_run (S := [31]) [some (.ref 16), none] 100 k_B_grant hC (ex_n (by simp [h1])) ?_
      simp (maxSteps := 3000000) (disch := first | exact True.intro | assumption | omega) only [↓run, ↓go, ↓jmp, seek, inS, ↓e0, ↓e1, ↓e2, ↓e3, ↓e4, ↓e5, ↓tsw, ↓e7, ↓e8, ↓e9, ↓e10, ↓e11, ↓e12, ↓splitA, rcv, clook, lget, lset, lset2, lkill, Option.toList, List.nil_append, List.cons_append, wsum, List.map_cons, List.map_nil, List.sum_cons, List.sum_nil, Value.category, Nat.reduceAdd, List.getD_cons_zero, List.getD_cons_succ, ↓reduceIte, if_true, if_false, Bool.false_eq_true, Nat.reduceLeDiff, Nat.reduceEqDiff, true_or, or_true, true_and, and_true, and_self, or_self, not_true, not_false_iff, mR_stI, mN_stI, isO_stI, isA_stI, mI_stI, mR_mW, mN_mW, isO_mW, isA_mW, mI_mW, mW_mW, stI_mW, nI_addL, nI_mulL, nI_subL, nI_ltL, nI_leL, nI_Llt, nI_Lle, nI_eqL, nI_Leq, nI_add, pk_mul, nI_ltI, nI_leI, nI_eq, vpi, nI_clamp, nI_toN, bk_oB hB, bk_oV hB, bk_oH hB, bk_b0 hB, bk_b1 hB, bk_b2 hB, bk_b3 hB, bk_b4 hB, bk_b5 hB, bk_v0 hB, bk_v1 hB, bk_h0 hB, nw_o hB, nw_og hB, nw_od hB, nw_ot hB, nw_r9 hB, nw_r10 hB, nw_r11 hB, nw_r0 hB, nw_r1 hB, nw_r2 hB, nw_r3 hB, nw_r4 hB, nw_r5 hB, nw_r6 hB, nw_r7 hB, nw_r8 hB, nw_a1 hB, nw_a2 hB, nw_a3 hB, nw_a4 hB, nw_a5 hB, nw_a6 hB, nw_a7 hB, nw_a8 hB, nw_a9 hB, nw_a14 hB, nw_as hB, nw_at hB, vR, vT, Nat.not_lt_zero, bv_Tr, bv_Fa, one_n0, eq_self, Nat.zero_le, and_true, true_and, and_false, false_and, not_true, not_false_iff, or_true, true_or, or_false, false_or, mN_mRW, ex_iff, p_B_grant, i_L_nextDemand, i_C_isFull, i_H_keep, i_L_serve, hnd, hfl, nI_geT, nI_lt0, h1]
    · have hsv : ∀ {K : Option Value → Mem → Prop}, pcall e_L_serve [.ref 20, .int (nI k)] M2 K = K (some (.int (mI M 33 (k * 6 + 4)))) (mW M2 (svF (mI M2) 20 k)) := by
        intro K
        rw [pc_L_serve (b := 20) (k := k) (M := M2) ⟨⟨bk_now hB2, hW2.2.1⟩, by show k < csz (mI M2) 32; rw [hz]; exact hk, by show csz (mI M2) 30 < 40; rw [hzg]; omega⟩ (by omega), hkI (by omega)]
      refine Gm_run (S := []) [some (.ref 16), none] 100 k_B_grant hC (ex_n (by split; rfl; exact hn2)) ?_
      simp (maxSteps := 3000000) (disch := first | exact True.intro | assumption | omega) only [↓run, ↓go, ↓jmp, seek, inS, ↓e0, ↓e1, ↓e2, ↓e3, ↓e4, ↓e5, ↓tsw, ↓e7, ↓e8, ↓e9, ↓e10, ↓e11, ↓e12, ↓splitA, rcv, clook, lget, lset, lset2, lkill, Option.toList, List.nil_append, List.cons_append, wsum, List.map_cons, List.map_nil, List.sum_cons, List.sum_nil, Value.category, Nat.reduceAdd, List.getD_cons_zero, List.getD_cons_succ, ↓reduceIte, if_true, if_false, Bool.false_eq_true, Nat.reduceLeDiff, Nat.reduceEqDiff, true_or, or_true, true_and, and_true, and_self, or_self, not_true, not_false_iff, mR_stI, mN_stI, isO_stI, isA_stI, mI_stI, mR_mW, mN_mW, isO_mW, isA_mW, mI_mW, mW_mW, stI_mW, nI_addL, nI_mulL, nI_subL, nI_ltL, nI_leL, nI_Llt, nI_Lle, nI_eqL, nI_Leq, nI_add, pk_mul, nI_ltI, nI_leI, nI_eq, vpi, nI_clamp, nI_toN, bk_oB hB, bk_oV hB, bk_oH hB, bk_b0 hB, bk_b1 hB, bk_b2 hB, bk_b3 hB, bk_b4 hB, bk_b5 hB, bk_v0 hB, bk_v1 hB, bk_h0 hB, nw_o hB, nw_og hB, nw_od hB, nw_ot hB, nw_r9 hB, nw_r10 hB, nw_r11 hB, nw_r0 hB, nw_r1 hB, nw_r2 hB, nw_r3 hB, nw_r4 hB, nw_r5 hB, nw_r6 hB, nw_r7 hB, nw_r8 hB, nw_a1 hB, nw_a2 hB, nw_a3 hB, nw_a4 hB, nw_a5 hB, nw_a6 hB, nw_a7 hB, nw_a8 hB, nw_a9 hB, nw_a14 hB, nw_as hB, nw_at hB, bk_oB hB2, bk_oV hB2, bk_oH hB2, bk_b0 hB2, bk_b1 hB2, bk_b2 hB2, bk_b3 hB2, bk_b4 hB2, bk_b5 hB2, bk_v0 hB2, bk_v1 hB2, bk_h0 hB2, nw_o hB2, nw_og hB2, nw_od hB2, nw_ot hB2, nw_r9 hB2, nw_r10 hB2, nw_r11 hB2, nw_r0 hB2, nw_r1 hB2, nw_r2 hB2, nw_r3 hB2, nw_r4 hB2, nw_r5 hB2, nw_r6 hB2, nw_r7 hB2, nw_r8 hB2, nw_a1 hB2, nw_a2 hB2, nw_a3 hB2, nw_a4 hB2, nw_a5 hB2, nw_a6 hB2, nw_a7 hB2, nw_a8 hB2, nw_a9 hB2, nw_a14 hB2, nw_as hB2, nw_at hB2, vR, vT, Nat.not_lt_zero, bv_Tr, bv_Fa, one_n0, eq_self, Nat.zero_le, and_true, true_and, and_false, false_and, not_true, not_false_iff, or_true, true_or, or_false, false_or, mN_mRW, ex_iff, p_B_grant, i_L_nextDemand, i_C_isFull, i_H_keep, i_L_serve, hnd, hfl, hkp, hsv, nI_geT, nI_lt0, h1]
def gaR (f g : Nat → Nat → Int32) : Int32 := if ndF f 20 < 0 then -1000001 else if 40 ≤ csz f 30 then -1000002 else nI (saP 20 172 24 g 0).2
noncomputable def gaM (M : Mem) : Mem := if ndF (mI M) 20 < 0 ∨ 40 ≤ csz (mI M) 30 then M else mW (kpM M) (saP 20 172 24 (mI (kpM M)) 0).1
def e_B_grantAll : Ent := (fun av M => ∃ (o : Nat), av = [.ref o] ∧ (o = 16 ∧ WB M), fun av M r_ M_ => ∀ (o : Nat), av = [.ref o] → r_ = (some (.int (gaR (mI M) (mI (kpM M))))) ∧ M_ = (gaM M))
theorem pc_B_grantAll {o : Nat} {M : Mem} {K : Option Value → Mem → Prop} (hp : o = 16 ∧ WB M) : pcall e_B_grantAll [.ref o] M K = K (some (.int (gaR (mI M) (mI (kpM M))))) (gaM M) := propext ⟨fun h => h.2 _ _ (fun o' e => by simp only [List.cons.injEq, Value.ref.injEq, Value.int.injEq, Value.long.injEq, and_true] at e; have q0 := e; obtain rfl := q0; exact ⟨rfl, rfl⟩), fun h => ⟨⟨o, rfl, hp⟩, fun r_ M_ q => by obtain ⟨rfl, rfl⟩ := q _ rfl; exact h⟩⟩
theorem mk_B_grantAll {Z : Zt} {d : Nat} (h : ∀ (o : Nat) (M : Mem), (o = 16 ∧ WB M) → Gm Z d s_B_grantAll [.ref o] M (ex (some (.int (gaR (mI M) (mI (kpM M))))) (gaM M))) : okE Z d i_B_grantAll e_B_grantAll := by
  rintro av M ⟨o, rfl, hp⟩
  exact Gm.cons (h o M  hp) (fun r_ M_ q o' e => by simp only [List.cons.injEq, Value.ref.injEq, Value.int.injEq, Value.long.injEq, and_true] at e; have q0 := e; obtain rfl := q0; exact q)
set_option maxRecDepth 100000 in
set_option maxHeartbeats 4000000 in
theorem ok_B_grantAll (Z : Zt) (d : Nat) : okE Z (d + 6) i_B_grantAll e_B_grantAll := mk_B_grantAll fun o M hp => by
  obtain ⟨rfl, hW⟩ := hp
  have hW2 := kp_W hW
  obtain ⟨hB, hD, hD2, hH, hT⟩ := hW
  have hL := bk_now hB
  have hkp : ∀ {K : Option Value → Mem → Prop}, pcall e_H_keep [.ref 50, .ref 20] M K = K none (kpM M) := pc_H_keep (o := 50) (b := 20) (M := M) ⟨rfl, rfl, hB, hD, hH⟩
  have hkI : ∀ {x y}, x < 50 ∨ 171 < x → mI (kpM M) x y = mI M x y := fun {x y} h => kp_i hB hH h
  have hn2 := kp_n M

  have hw := ndF_cases (mI M) 20
  have hcc : ccap 30 = 40 := rfl
  have hc24 : csz (mI M) 32 ≤ 24 := hD.2.2.2.1
  have hnd : ∀ {K : Option Value → Mem → Prop}, pcall e_L_nextDemand [.ref 20] M K = K (some (.int (ndF (mI M) 20))) M := pc_L_nextDemand ⟨hL, hD⟩
  have hfl : ∀ {K : Option Value → Mem → Prop}, pcall e_C_isFull [.ref 30] M K = K (some (.int (bv (40 ≤ csz (mI M) 30)))) M := by
    intro K
    rw [pc_C_isFull (c := 30) (M := M) (ld_cg hL hD), hcc]
  unfold gaR gaM
  generalize hf : ndF (mI M) 20 = w at *
  generalize hM2 : kpM M = M2 at *
  have hB2 : BkS M2 := hW2.1
  have hsa : ∀ {K : Option Value → Mem → Prop}, pcall e_L_serveAll [.ref 20, .ref 172] M2 K = K (some (.int (nI (saP 20 172 24 (mI M2) 0).2))) (mW M2 (saP 20 172 24 (mI M2) 0).1) := pc_L_serveAll ⟨⟨bk_now hB2, hW2.2.1⟩, by rw [hB2.1]; omega, rfl, by omega⟩
  generalize hS : saP 20 172 24 (mI M2) 0 = S at *
  have hC : ∀ q ∈ [(i_L_nextDemand, e_L_nextDemand), (i_C_isFull, e_C_isFull), (i_H_keep, e_H_keep), (i_L_serveAll, e_L_serveAll)], okE Z (d + 5) q.1 q.2 := (okE_cons (ok_L_nextDemand Z (d + 1)) (okE_cons (ok_C_isFull Z (d + 4)) (okE_cons (ok_H_keep Z (d + 1)) (okE_cons (ok_L_serveAll Z d) okE_nil))))
  rcases hw with rfl | ⟨k, hk, rfl⟩
  · refine Gm_run (S := [13]) [some (.ref 16)] 100 k_B_grantAll hC (ex_n (by simp [m1_neg])) ?_
    simp (maxSteps := 3000000) (disch := first | exact True.intro | assumption | omega) only [↓run, ↓go, ↓jmp, seek, inS, ↓e0, ↓e1, ↓e2, ↓e3, ↓e4, ↓e5, ↓tsw, ↓e7, ↓e8, ↓e9, ↓e10, ↓e11, ↓e12, ↓splitA, rcv, clook, lget, lset, lset2, lkill, Option.toList, List.nil_append, List.cons_append, wsum, List.map_cons, List.map_nil, List.sum_cons, List.sum_nil, Value.category, Nat.reduceAdd, List.getD_cons_zero, List.getD_cons_succ, ↓reduceIte, if_true, if_false, Bool.false_eq_true, Nat.reduceLeDiff, Nat.reduceEqDiff, true_or, or_true, true_and, and_true, and_self, or_self, not_true, not_false_iff, mR_stI, mN_stI, isO_stI, isA_stI, mI_stI, mR_mW, mN_mW, isO_mW, isA_mW, mI_mW, mW_mW, stI_mW, nI_addL, nI_mulL, nI_subL, nI_ltL, nI_leL, nI_Llt, nI_Lle, nI_eqL, nI_Leq, nI_add, pk_mul, nI_ltI, nI_leI, nI_eq, vpi, nI_clamp, nI_toN, bk_oB hB, bk_oV hB, bk_oH hB, bk_b0 hB, bk_b1 hB, bk_b2 hB, bk_b3 hB, bk_b4 hB, bk_b5 hB, bk_v0 hB, bk_v1 hB, bk_h0 hB, nw_o hB, nw_og hB, nw_od hB, nw_ot hB, nw_r9 hB, nw_r10 hB, nw_r11 hB, nw_r0 hB, nw_r1 hB, nw_r2 hB, nw_r3 hB, nw_r4 hB, nw_r5 hB, nw_r6 hB, nw_r7 hB, nw_r8 hB, nw_a1 hB, nw_a2 hB, nw_a3 hB, nw_a4 hB, nw_a5 hB, nw_a6 hB, nw_a7 hB, nw_a8 hB, nw_a9 hB, nw_a14 hB, nw_as hB, nw_at hB, vR, vT, Nat.not_lt_zero, bv_Tr, bv_Fa, one_n0, eq_self, Nat.zero_le, and_true, true_and, and_false, false_and, not_true, not_false_iff, or_true, true_or, or_false, false_or, mN_mRW, ex_iff, p_B_grantAll, i_L_nextDemand, i_C_isFull, i_H_keep, i_L_serveAll, hnd, m1_neg, m1_nn]
  · have hk : k < csz (mI M) 32 := hk
    by_cases h1 : 40 ≤ csz (mI M) 30
    · refine Gm_run (S := [29]) [some (.ref 16)] 100 k_B_grantAll hC (ex_n (by simp [h1])) ?_
      simp (maxSteps := 3000000) (disch := first | exact True.intro | assumption | omega) only [↓run, ↓go, ↓jmp, seek, inS, ↓e0, ↓e1, ↓e2, ↓e3, ↓e4, ↓e5, ↓tsw, ↓e7, ↓e8, ↓e9, ↓e10, ↓e11, ↓e12, ↓splitA, rcv, clook, lget, lset, lset2, lkill, Option.toList, List.nil_append, List.cons_append, wsum, List.map_cons, List.map_nil, List.sum_cons, List.sum_nil, Value.category, Nat.reduceAdd, List.getD_cons_zero, List.getD_cons_succ, ↓reduceIte, if_true, if_false, Bool.false_eq_true, Nat.reduceLeDiff, Nat.reduceEqDiff, true_or, or_true, true_and, and_true, and_self, or_self, not_true, not_false_iff, mR_stI, mN_stI, isO_stI, isA_stI, mI_stI, mR_mW, mN_mW, isO_mW, isA_mW, mI_mW, mW_mW, stI_mW, nI_addL, nI_mulL, nI_subL, nI_ltL, nI_leL, nI_Llt, nI_Lle, nI_eqL, nI_Leq, nI_add, pk_mul, nI_ltI, nI_leI, nI_eq, vpi, nI_clamp, nI_toN, bk_oB hB, bk_oV hB, bk_oH hB, bk_b0 hB, bk_b1 hB, bk_b2 hB, bk_b3 hB, bk_b4 hB, bk_b5 hB, bk_v0 hB, bk_v1 hB, bk_h0 hB, nw_o hB, nw_og hB, nw_od hB, nw_ot hB, nw_r9 hB, nw_r10 hB, nw_r11 hB, nw_r0 hB, nw_r1 hB, nw_r2 hB, nw_r3 hB, nw_r4 hB, nw_r5 hB, nw_r6 hB, nw_r7 hB, nw_r8 hB, nw_a1 hB, nw_a2 hB, nw_a3 hB, nw_a4 hB, nw_a5 hB, nw_a6 hB, nw_a7 hB, nw_a8 hB, nw_a9 hB, nw_a14 hB, nw_as hB, nw_at hB, vR, vT, Nat.not_lt_zero, bv_Tr, bv_Fa, one_n0, eq_self, Nat.zero_le, and_true, true_and, and_false, false_and, not_true, not_false_iff, or_true, true_or, or_false, false_or, mN_mRW, ex_iff, p_B_grantAll, i_L_nextDemand, i_C_isFull, i_H_keep, i_L_serveAll, hnd, hfl, nI_geT, nI_lt0, h1]
    · refine Gm_run (S := []) [some (.ref 16)] 100 k_B_grantAll hC (ex_n (by split; rfl; exact hn2)) ?_
      simp (maxSteps := 3000000) (disch := first | exact True.intro | assumption | omega) only [↓run, ↓go, ↓jmp, seek, inS, ↓e0, ↓e1, ↓e2, ↓e3, ↓e4, ↓e5, ↓tsw, ↓e7, ↓e8, ↓e9, ↓e10, ↓e11, ↓e12, ↓splitA, rcv, clook, lget, lset, lset2, lkill, Option.toList, List.nil_append, List.cons_append, wsum, List.map_cons, List.map_nil, List.sum_cons, List.sum_nil, Value.category, Nat.reduceAdd, List.getD_cons_zero, List.getD_cons_succ, ↓reduceIte, if_true, if_false, Bool.false_eq_true, Nat.reduceLeDiff, Nat.reduceEqDiff, true_or, or_true, true_and, and_true, and_self, or_self, not_true, not_false_iff, mR_stI, mN_stI, isO_stI, isA_stI, mI_stI, mR_mW, mN_mW, isO_mW, isA_mW, mI_mW, mW_mW, stI_mW, nI_addL, nI_mulL, nI_subL, nI_ltL, nI_leL, nI_Llt, nI_Lle, nI_eqL, nI_Leq, nI_add, pk_mul, nI_ltI, nI_leI, nI_eq, vpi, nI_clamp, nI_toN, bk_oB hB, bk_oV hB, bk_oH hB, bk_b0 hB, bk_b1 hB, bk_b2 hB, bk_b3 hB, bk_b4 hB, bk_b5 hB, bk_v0 hB, bk_v1 hB, bk_h0 hB, nw_o hB, nw_og hB, nw_od hB, nw_ot hB, nw_r9 hB, nw_r10 hB, nw_r11 hB, nw_r0 hB, nw_r1 hB, nw_r2 hB, nw_r3 hB, nw_r4 hB, nw_r5 hB, nw_r6 hB, nw_r7 hB, nw_r8 hB, nw_a1 hB, nw_a2 hB, nw_a3 hB, nw_a4 hB, nw_a5 hB, nw_a6 hB, nw_a7 hB, nw_a8 hB, nw_a9 hB, nw_a14 hB, nw_as hB, nw_at hB, bk_oB hB2, bk_oV hB2, bk_oH hB2, bk_b0 hB2, bk_b1 hB2, bk_b2 hB2, bk_b3 hB2, bk_b4 hB2, bk_b5 hB2, bk_v0 hB2, bk_v1 hB2, bk_h0 hB2, nw_o hB2, nw_og hB2, nw_od hB2, nw_ot hB2, nw_r9 hB2, nw_r10 hB2, nw_r11 hB2, nw_r0 hB2, nw_r1 hB2, nw_r2 hB2, nw_r3 hB2, nw_r4 hB2, nw_r5 hB2, nw_r6 hB2, nw_r7 hB2, nw_r8 hB2, nw_a1 hB2, nw_a2 hB2, nw_a3 hB2, nw_a4 hB2, nw_a5 hB2, nw_a6 hB2, nw_a7 hB2, nw_a8 hB2, nw_a9 hB2, nw_a14 hB2, nw_as hB2, nw_at hB2, vR, vT, Nat.not_lt_zero, bv_Tr, bv_Fa, one_n0, eq_self, Nat.zero_le, and_true, true_and, and_false, false_and, not_true, not_false_iff, or_true, true_or, or_false, false_or, mN_mRW, ex_iff, p_B_grantAll, i_L_nextDemand, i_C_isFull, i_H_keep, i_L_serveAll, hnd, hfl, hkp, hsa, nI_geT, nI_lt0, h1]
def rlR (f : Nat → Nat → Int32) (n : Int32) : Int32 := if rowF f 30 n < 0 then -1000000 else nI (csz f 30 - 1)
noncomputable def rlM (M : Mem) (n : Int32) : Mem := if rowF (mI M) 30 n < 0 then M else mW (kpM M) (rmF (auF (mI (kpM M)) 20 30 (rowF (mI M) 30 n).toNatClampNeg (-1)) 30 (rowF (mI M) 30 n).toNatClampNeg)
def e_B_release : Ent := (fun av M => ∃ (o : Nat) (n : Int32), av = [.ref o, .int n] ∧ (o = 16 ∧ WB M), fun av M r_ M_ => ∀ (o : Nat) (n : Int32), av = [.ref o, .int n] → r_ = (some (.int (rlR (mI M) n))) ∧ M_ = (rlM M n))
theorem pc_B_release {o : Nat} {n : Int32} {M : Mem} {K : Option Value → Mem → Prop} (hp : o = 16 ∧ WB M) : pcall e_B_release [.ref o, .int n] M K = K (some (.int (rlR (mI M) n))) (rlM M n) := propext ⟨fun h => h.2 _ _ (fun o' n' e => by simp only [List.cons.injEq, Value.ref.injEq, Value.int.injEq, Value.long.injEq, and_true] at e; obtain ⟨q0, q1⟩ := e; obtain rfl := q0; obtain rfl := q1; exact ⟨rfl, rfl⟩), fun h => ⟨⟨o, n, rfl, hp⟩, fun r_ M_ q => by obtain ⟨rfl, rfl⟩ := q _ _ rfl; exact h⟩⟩
theorem mk_B_release {Z : Zt} {d : Nat} (h : ∀ (o : Nat) (n : Int32) (M : Mem), (o = 16 ∧ WB M) → Gm Z d s_B_release [.ref o, .int n] M (ex (some (.int (rlR (mI M) n))) (rlM M n))) : okE Z d i_B_release e_B_release := by
  rintro av M ⟨o, n, rfl, hp⟩
  exact Gm.cons (h o n M  hp) (fun r_ M_ q o' n' e => by simp only [List.cons.injEq, Value.ref.injEq, Value.int.injEq, Value.long.injEq, and_true] at e; obtain ⟨q0, q1⟩ := e; obtain rfl := q0; obtain rfl := q1; exact q)
set_option maxRecDepth 100000 in
set_option maxHeartbeats 4000000 in
theorem ok_B_release (Z : Zt) (d : Nat) : okE Z (d + 5) i_B_release e_B_release := mk_B_release fun o n M hp => by
  obtain ⟨rfl, hW⟩ := hp
  have hW2 := kp_W hW
  obtain ⟨hB, hD, hD2, hH, hT⟩ := hW
  have hL := bk_now hB
  have hkp : ∀ {K : Option Value → Mem → Prop}, pcall e_H_keep [.ref 50, .ref 20] M K = K none (kpM M) := pc_H_keep (o := 50) (b := 20) (M := M) ⟨rfl, rfl, hB, hD, hH⟩
  have hkI : ∀ {x y}, x < 50 ∨ 171 < x → mI (kpM M) x y = mI M x y := fun {x y} h => kp_i hB hH h
  have hn2 := kp_n M

  have hw := rowF_cases (mI M) 30 n
  have hc40 : csz (mI M) 30 ≤ 40 := hD.2.1
  have hrw : ∀ {K : Option Value → Mem → Prop}, pcall e_C_rowOf [.ref 30, .int n] M K = K (some (.int (rowF (mI M) 30 n))) M := pc_C_rowOf (ld_cg hL hD)
  have hzg : csz (mI (kpM M)) 30 = csz (mI M) 30 := by unfold csz; rw [hkI (by omega)]
  unfold rlR rlM
  generalize hf : rowF (mI M) 30 n = w at *
  generalize hM2 : kpM M = M2 at *
  have hB2 : BkS M2 := hW2.1
  have hq : ∀ k, rmF (auF (mI M2) 20 30 k (-1)) 30 k 30 2 = nI (csz (mI M) 30 - 1) := fun k => by
    rw [rmF_s]
    unfold csz
    rw [auF_ne (by omega) (by omega)]
    show nI (csz (mI M2) 30 - 1) = nI (csz (mI M) 30 - 1)
    rw [hzg]
  have hC : ∀ q ∈ [(i_C_rowOf, e_C_rowOf), (i_H_keep, e_H_keep), (i_L_endGrant, e_L_endGrant)], okE Z (d + 4) q.1 q.2 := (okE_cons (ok_C_rowOf Z d) (okE_cons (ok_H_keep Z d) (okE_cons (ok_L_endGrant Z d) okE_nil)))
  rcases hw with rfl | ⟨k, rfl, hk⟩
  · refine Gm_run (S := [19]) [some (.ref 16), some (.int n), none] 100 k_B_release hC (ex_n (by simp [m1_neg])) ?_
    simp (maxSteps := 3000000) (disch := first | exact True.intro | assumption | omega) only [↓run, ↓go, ↓jmp, seek, inS, ↓e0, ↓e1, ↓e2, ↓e3, ↓e4, ↓e5, ↓tsw, ↓e7, ↓e8, ↓e9, ↓e10, ↓e11, ↓e12, ↓splitA, rcv, clook, lget, lset, lset2, lkill, Option.toList, List.nil_append, List.cons_append, wsum, List.map_cons, List.map_nil, List.sum_cons, List.sum_nil, Value.category, Nat.reduceAdd, List.getD_cons_zero, List.getD_cons_succ, ↓reduceIte, if_true, if_false, Bool.false_eq_true, Nat.reduceLeDiff, Nat.reduceEqDiff, true_or, or_true, true_and, and_true, and_self, or_self, not_true, not_false_iff, mR_stI, mN_stI, isO_stI, isA_stI, mI_stI, mR_mW, mN_mW, isO_mW, isA_mW, mI_mW, mW_mW, stI_mW, nI_addL, nI_mulL, nI_subL, nI_ltL, nI_leL, nI_Llt, nI_Lle, nI_eqL, nI_Leq, nI_add, pk_mul, nI_ltI, nI_leI, nI_eq, vpi, nI_clamp, nI_toN, bk_oB hB, bk_oV hB, bk_oH hB, bk_b0 hB, bk_b1 hB, bk_b2 hB, bk_b3 hB, bk_b4 hB, bk_b5 hB, bk_v0 hB, bk_v1 hB, bk_h0 hB, nw_o hB, nw_og hB, nw_od hB, nw_ot hB, nw_r9 hB, nw_r10 hB, nw_r11 hB, nw_r0 hB, nw_r1 hB, nw_r2 hB, nw_r3 hB, nw_r4 hB, nw_r5 hB, nw_r6 hB, nw_r7 hB, nw_r8 hB, nw_a1 hB, nw_a2 hB, nw_a3 hB, nw_a4 hB, nw_a5 hB, nw_a6 hB, nw_a7 hB, nw_a8 hB, nw_a9 hB, nw_a14 hB, nw_as hB, nw_at hB, vR, vT, Nat.not_lt_zero, bv_Tr, bv_Fa, one_n0, eq_self, Nat.zero_le, and_true, true_and, and_false, false_and, not_true, not_false_iff, or_true, true_or, or_false, false_or, mN_mRW, ex_iff, p_B_release, i_C_rowOf, i_H_keep, i_L_endGrant, hrw, m1_neg, m1_nn]
  · have heg : ∀ {K : Option Value → Mem → Prop}, pcall e_L_endGrant [.ref 20, .int (nI k)] M2 K = K none (mW M2 (rmF (auF (mI M2) 20 30 k (-1)) 30 k)) := pc_L_endGrant (b := 20) (k := k) (M := M2) ⟨⟨bk_now hB2, hW2.2.1⟩, by show k < csz (mI M2) 30; rw [hzg]; exact hk⟩ (by omega)
    refine Gm_run (S := []) [some (.ref 16), some (.int n), none] 100 k_B_release hC (ex_n (by split; rfl; exact hn2)) ?_
    simp (maxSteps := 3000000) (disch := first | exact True.intro | assumption | omega) only [↓run, ↓go, ↓jmp, seek, inS, ↓e0, ↓e1, ↓e2, ↓e3, ↓e4, ↓e5, ↓tsw, ↓e7, ↓e8, ↓e9, ↓e10, ↓e11, ↓e12, ↓splitA, rcv, clook, lget, lset, lset2, lkill, Option.toList, List.nil_append, List.cons_append, wsum, List.map_cons, List.map_nil, List.sum_cons, List.sum_nil, Value.category, Nat.reduceAdd, List.getD_cons_zero, List.getD_cons_succ, ↓reduceIte, if_true, if_false, Bool.false_eq_true, Nat.reduceLeDiff, Nat.reduceEqDiff, true_or, or_true, true_and, and_true, and_self, or_self, not_true, not_false_iff, mR_stI, mN_stI, isO_stI, isA_stI, mI_stI, mR_mW, mN_mW, isO_mW, isA_mW, mI_mW, mW_mW, stI_mW, nI_addL, nI_mulL, nI_subL, nI_ltL, nI_leL, nI_Llt, nI_Lle, nI_eqL, nI_Leq, nI_add, pk_mul, nI_ltI, nI_leI, nI_eq, vpi, nI_clamp, nI_toN, bk_oB hB, bk_oV hB, bk_oH hB, bk_b0 hB, bk_b1 hB, bk_b2 hB, bk_b3 hB, bk_b4 hB, bk_b5 hB, bk_v0 hB, bk_v1 hB, bk_h0 hB, nw_o hB, nw_og hB, nw_od hB, nw_ot hB, nw_r9 hB, nw_r10 hB, nw_r11 hB, nw_r0 hB, nw_r1 hB, nw_r2 hB, nw_r3 hB, nw_r4 hB, nw_r5 hB, nw_r6 hB, nw_r7 hB, nw_r8 hB, nw_a1 hB, nw_a2 hB, nw_a3 hB, nw_a4 hB, nw_a5 hB, nw_a6 hB, nw_a7 hB, nw_a8 hB, nw_a9 hB, nw_a14 hB, nw_as hB, nw_at hB, bk_oB hB2, bk_oV hB2, bk_oH hB2, bk_b0 hB2, bk_b1 hB2, bk_b2 hB2, bk_b3 hB2, bk_b4 hB2, bk_b5 hB2, bk_v0 hB2, bk_v1 hB2, bk_h0 hB2, nw_o hB2, nw_og hB2, nw_od hB2, nw_ot hB2, nw_r9 hB2, nw_r10 hB2, nw_r11 hB2, nw_r0 hB2, nw_r1 hB2, nw_r2 hB2, nw_r3 hB2, nw_r4 hB2, nw_r5 hB2, nw_r6 hB2, nw_r7 hB2, nw_r8 hB2, nw_a1 hB2, nw_a2 hB2, nw_a3 hB2, nw_a4 hB2, nw_a5 hB2, nw_a6 hB2, nw_a7 hB2, nw_a8 hB2, nw_a9 hB2, nw_a14 hB2, nw_as hB2, nw_at hB2, vR, vT, Nat.not_lt_zero, bv_Tr, bv_Fa, one_n0, eq_self, Nat.zero_le, and_true, true_and, and_false, false_and, not_true, not_false_iff, or_true, true_or, or_false, false_or, mN_mRW, ex_iff, p_B_release, i_C_rowOf, i_H_keep, i_L_endGrant, hrw, hkp, heg, hq, nI_geT, nI_lt0]
end
section
def exA (f : Nat → Nat → Int32) (a b : Nat) (n : Int32) : Int32 := convF n (prF f 20 a) (prF f 20 b)
def exV (f : Nat → Nat → Int32) (t a : Nat) : Int32 := minJ (f 27 (t * 4 + a) - f 29 (t * 4 + a)) (f 27 (t * 4 + a) - f 28 (t * 4 + a))
def exG (g : Nat → Nat → Int32) (t a b : Nat) (n m : Int32) : Nat → Nat → Int32 := afF (u2 (u2 (u2 g 27 (t * 4 + a) (g 27 (t * 4 + a) - n)) 27 (t * 4 + b) (g 27 (t * 4 + b) + m)) 22 b (g 22 b - m)) 20 a n
abbrev exC (f : Nat → Nat → Int32) (t a b n : Int32) : Prop := vT f t ∧ vR a ∧ vR b ∧ ¬ a = b ∧ 1 ≤ n ∧ n ≤ 999
abbrev exS (f : Nat → Nat → Int32) (t a b : Nat) (n : Int32) : Prop := isB f 20 (nI t) ∨ exV f t a < n ∨ exA f a b n = 0 ∨ ¬ exA f a b n ≤ f 22 b
def exQ (f : Nat → Nat → Int32) (t a b : Nat) (n : Int32) : Int32 := if exS f t a b n then -1000001 else if f 27 (t * 4 + b) + exA f a b n ≤ 9999 then exA f a b n else -1000002
noncomputable def exN (M : Mem) (t a b : Nat) (n : Int32) : Mem := if exS (mI M) t a b n ∨ ¬ mI M 27 (t * 4 + b) + exA (mI M) a b n ≤ 9999 then M else mW (kpM M) (exG (mI (kpM M)) t a b n (exA (mI M) a b n))
def exR (f : Nat → Nat → Int32) (t a b n : Int32) : Int32 := if exC f t a b n then exQ f t.toNatClampNeg a.toNatClampNeg b.toNatClampNeg n else -1000000
noncomputable def exM (M : Mem) (t a b n : Int32) : Mem := if exC (mI M) t a b n then exN M t.toNatClampNeg a.toNatClampNeg b.toNatClampNeg n else M
theorem ite_nt {α : Sort _} {p : Prop} [Decidable p] [Decidable (¬ p)] (a b : α) : (if ¬ p then a else b) = if p then b else a := by
  by_cases h : p
  · rw [if_neg (fun q => q h), if_pos h]
  · rw [if_pos h, if_neg h]
def e_B_exchange : Ent := (fun av M => ∃ (o : Nat) (t : Int32) (a : Int32) (b : Int32) (n : Int32), av = [.ref o, .int t, .int a, .int b, .int n] ∧ (o = 16 ∧ WB M), fun av M r_ M_ => ∀ (o : Nat) (t : Int32) (a : Int32) (b : Int32) (n : Int32), av = [.ref o, .int t, .int a, .int b, .int n] → r_ = (some (.int (exR (mI M) t a b n))) ∧ M_ = (exM M t a b n))
theorem pc_B_exchange {o : Nat} {t : Int32} {a : Int32} {b : Int32} {n : Int32} {M : Mem} {K : Option Value → Mem → Prop} (hp : o = 16 ∧ WB M) : pcall e_B_exchange [.ref o, .int t, .int a, .int b, .int n] M K = K (some (.int (exR (mI M) t a b n))) (exM M t a b n) := propext ⟨fun h => h.2 _ _ (fun o' t' a' b' n' e => by simp only [List.cons.injEq, Value.ref.injEq, Value.int.injEq, Value.long.injEq, and_true] at e; obtain ⟨q0, q1, q2, q3, q4⟩ := e; obtain rfl := q0; obtain rfl := q1; obtain rfl := q2; obtain rfl := q3; obtain rfl := q4; exact ⟨rfl, rfl⟩), fun h => ⟨⟨o, t, a, b, n, rfl, hp⟩, fun r_ M_ q => by obtain ⟨rfl, rfl⟩ := q _ _ _ _ _ rfl; exact h⟩⟩
theorem mk_B_exchange {Z : Zt} {d : Nat} (h : ∀ (o : Nat) (t : Int32) (a : Int32) (b : Int32) (n : Int32) (M : Mem), (o = 16 ∧ WB M) → Gm Z d s_B_exchange [.ref o, .int t, .int a, .int b, .int n] M (ex (some (.int (exR (mI M) t a b n))) (exM M t a b n))) : okE Z d i_B_exchange e_B_exchange := by
  rintro av M ⟨o, t, a, b, n, rfl, hp⟩
  exact Gm.cons (h o t a b n M  hp) (fun r_ M_ q o' t' a' b' n' e => by simp only [List.cons.injEq, Value.ref.injEq, Value.int.injEq, Value.long.injEq, and_true] at e; obtain ⟨q0, q1, q2, q3, q4⟩ := e; obtain rfl := q0; obtain rfl := q1; obtain rfl := q2; obtain rfl := q3; obtain rfl := q4; exact q)
set_option maxRecDepth 100000 in
set_option maxHeartbeats 4000000 in
theorem ok_B_exchange (Z : Zt) (d : Nat) : okE Z (d + 5) i_B_exchange e_B_exchange := mk_B_exchange fun o t a b n M hp => by
  obtain ⟨rfl, hW⟩ := hp
  have hW2 := kp_W hW
  obtain ⟨hB, hD, hD2, hH, hT⟩ := hW
  have hL := bk_now hB
  have hkp : ∀ {K : Option Value → Mem → Prop}, pcall e_H_keep [.ref 50, .ref 20] M K = K none (kpM M) := pc_H_keep (o := 50) (b := 20) (M := M) ⟨rfl, rfl, hB, hD, hH⟩
  have hkI : ∀ {x y}, x < 50 ∨ 171 < x → mI (kpM M) x y = mI M x y := fun {x y} h => kp_i hB hH h
  have hn2 := kp_n M

  have h6 : lnT (mI M) 20 ≤ 6 := hD.2.2.2.2.2.1
  by_cases hv : exC (mI M) t a b n
  · rw [show exR (mI M) t a b n = _ from if_pos hv, show exM M t a b n = _ from if_pos hv]
    obtain ⟨h1, h2, h3, h4, h5⟩ := hv
    obtain ⟨k, rfl, hk, hk6⟩ := vT_nI hD h1
    obtain ⟨i, rfl, hi⟩ := vR_nI h2
    obtain ⟨j, rfl, hj⟩ := vR_nI h3
    have hij : ¬ i = j := fun q => h4 (by rw [q])
    rw [nI_toN (show k < 2 ^ 31 by omega), nI_toN (show i < 2 ^ 31 by omega), nI_toN (show j < 2 ^ 31 by omega)]
    have hxc : ∀ {K : Option Value → Mem → Prop}, pcall e_L_exchangeable [.ref 20, .int (nI k), .int (nI i)] M K = K (some (.int (exV (mI M) k i))) M := pc_L_exchangeable (b := 20) (t := k) (r := i) (M := M) ⟨⟨hL, hD⟩, hk, hi⟩ (by omega) (by omega)
    have hp1 : ∀ {K : Option Value → Mem → Prop}, pcall e_L_priceOf [.ref 20, .int (nI i)] M K = K (some (.int (prF (mI M) 20 i))) M := pc_L_priceOf (b := 20) (r := i) (M := M) ⟨⟨hL, hD⟩, hi⟩ (by omega)
    have hp2 : ∀ {K : Option Value → Mem → Prop}, pcall e_L_priceOf [.ref 20, .int (nI j)] M K = K (some (.int (prF (mI M) 20 j))) M := pc_L_priceOf (b := 20) (r := j) (M := M) ⟨⟨hL, hD⟩, hj⟩ (by omega)
    have hcv : ∀ {K : Option Value → Mem → Prop}, pcall e_B_converted [.int n, .int (prF (mI M) 20 i), .int (prF (mI M) 20 j)] M K = K (some (.int (exA (mI M) i j n))) M := pc_B_converted trivial
    by_cases hs : exS (mI M) k i j n
    · rw [show exQ (mI M) k i j n = _ from if_pos hs, show exN M k i j n = _ from if_pos (Or.inl hs)]
      refine Gm_run (S := [115]) [some (.ref 16), some (.int (nI k)), some (.int (nI i)), some (.int (nI j)), some (.int n), none, none] 200 k_B_exchange (okE_cons (ok_L_hasTenant Z (d + 3)) (okE_cons (ok_B_isResource Z (d + 3)) (okE_cons (ok_B_within Z (d + 3)) (okE_cons (ok_L_priceOf Z (d + 2)) (okE_cons (ok_B_converted Z (d + 3)) (okE_cons (ok_L_isBankrupt Z (d + 2)) (okE_cons (ok_L_exchangeable Z (d + 2)) (okE_cons (ok_B_slot Z (d + 3)) (okE_cons (ok_H_keep Z d) (okE_cons (ok_L_addToFund Z (d + 2)) okE_nil)))))))))) (ex_n rfl) ?_
      simp (maxSteps := 3000000) (disch := first | exact True.intro | assumption | omega) only [↓run, ↓go, ↓jmp, seek, inS, ↓e0, ↓e1, ↓e2, ↓e3, ↓e4, ↓e5, ↓tsw, ↓e7, ↓e8, ↓e9, ↓e10, ↓e11, ↓e12, ↓splitA, rcv, clook, lget, lset, lset2, lkill, Option.toList, List.nil_append, List.cons_append, wsum, List.map_cons, List.map_nil, List.sum_cons, List.sum_nil, Value.category, Nat.reduceAdd, List.getD_cons_zero, List.getD_cons_succ, ↓reduceIte, if_true, if_false, Bool.false_eq_true, Nat.reduceLeDiff, Nat.reduceEqDiff, true_or, or_true, true_and, and_true, and_self, or_self, not_true, not_false_iff, mR_stI, mN_stI, isO_stI, isA_stI, mI_stI, mR_mW, mN_mW, isO_mW, isA_mW, mI_mW, mW_mW, stI_mW, nI_addL, nI_mulL, nI_subL, nI_ltL, nI_leL, nI_Llt, nI_Lle, nI_eqL, nI_Leq, nI_add, pk_mul, nI_ltI, nI_leI, nI_eq, vpi, nI_clamp, nI_toN, bk_oB hB, bk_oV hB, bk_oH hB, bk_b0 hB, bk_b1 hB, bk_b2 hB, bk_b3 hB, bk_b4 hB, bk_b5 hB, bk_v0 hB, bk_v1 hB, bk_h0 hB, nw_o hB, nw_og hB, nw_od hB, nw_ot hB, nw_r9 hB, nw_r10 hB, nw_r11 hB, nw_r0 hB, nw_r1 hB, nw_r2 hB, nw_r3 hB, nw_r4 hB, nw_r5 hB, nw_r6 hB, nw_r7 hB, nw_r8 hB, nw_a1 hB, nw_a2 hB, nw_a3 hB, nw_a4 hB, nw_a5 hB, nw_a6 hB, nw_a7 hB, nw_a8 hB, nw_a9 hB, nw_a14 hB, nw_as hB, nw_at hB, vR, vT, Nat.not_lt_zero, bv_Tr, bv_Fa, one_n0, eq_self, Nat.zero_le, and_true, true_and, and_false, false_and, not_true, not_false_iff, or_true, true_or, or_false, false_or, mN_mRW, ex_iff, p_B_exchange, i_L_hasTenant, i_B_isResource, i_B_within, i_L_priceOf, i_B_converted, i_L_isBankrupt, i_L_exchangeable, i_B_slot, i_H_keep, i_L_addToFund, pc_L_hasTenant (b := 20) (M := M) ⟨hL, hD⟩, pc_B_isResource, pc_B_within, pc_L_isBankrupt (b := 20) (M := M) ⟨hL, hD⟩, hp1, hp2, hcv, hxc, hij, h5, hk, hi, hj, bv_0, ite_nt, ite_self]
      repeat' (first | exact True.intro | (exfalso; rcases hs with q | q | q | q <;> contradiction) | split)
    · have g1 : ¬ isB (mI M) 20 (nI k) := fun q => hs (Or.inl q)
      have g2 : ¬ exV (mI M) k i < n := fun q => hs (Or.inr (Or.inl q))
      have g3 : ¬ exA (mI M) i j n = 0 := fun q => hs (Or.inr (Or.inr (Or.inl q)))
      have g4 : exA (mI M) i j n ≤ mI M 22 j := Decidable.not_not.mp fun q => hs (Or.inr (Or.inr (Or.inr q)))
      by_cases g5 : mI M 27 (k * 4 + j) + exA (mI M) i j n ≤ 9999
      · rw [show exQ (mI M) k i j n = _ from (if_neg hs).trans (if_pos g5), show exN M k i j n = _ from if_neg (fun q => Or.elim q hs (fun z => z g5))]
        generalize hM2 : kpM M = M2 at *
        have hB2 : BkS M2 := hW2.1
        have hn : mN (mW M2 (exG (mI M2) k i j n (exA (mI M) i j n))) = mN M := hn2
        have hDg : ∀ y1 y2 y3 v1 v2 v3, LedD (u2 (u2 (u2 (mI M2) 27 y1 v1) 27 y2 v2) 22 y3 v3) 20 := fun y1 y2 y3 v1 v2 v3 => LedD_cg hW2.2.1 (fun y => by rw [u2_ne (by omega), u2_ne (by omega), u2_ne (by omega)]) (fun y => by rw [u2_ne (by omega), u2_ne (by omega), u2_ne (by omega)]) (fun y => by rw [u2_ne (by omega), u2_ne (by omega), u2_ne (by omega)])
        have haf : ∀ {y1 y2 y3 : Nat} {v1 v2 v3 : Int32} {K : Option Value → Mem → Prop}, pcall e_L_addToFund [.ref 20, .int (nI i), .int n] (mW M2 (u2 (u2 (u2 (mI M2) 27 y1 v1) 27 y2 v2) 22 y3 v3)) K = K none (mW (mW M2 (u2 (u2 (u2 (mI M2) 27 y1 v1) 27 y2 v2) 22 y3 v3)) (afF (u2 (u2 (u2 (mI M2) 27 y1 v1) 27 y2 v2) 22 y3 v3) 20 i n)) := pc_L_addToFund (b := 20) (r := i) (n := n) (M := mW M2 (u2 (u2 (u2 (mI M2) 27 _ _) 27 _ _) 22 _ _)) ⟨⟨bk_now hB2, hDg _ _ _ _ _ _⟩, hi⟩ (by omega)
        have w1 : ∀ v, u2 (mI M2) 27 (k * 4 + i) v 27 (k * 4 + j) = mI M2 27 (k * 4 + j) := fun v => u2_ne2 (by omega)
        have w2 : ∀ y1 v1 y2 v2, u2 (u2 (mI M2) 27 y1 v1) 27 y2 v2 22 j = mI M2 22 j := fun y1 v1 y2 v2 => by rw [u2_ne (by omega), u2_ne (by omega)]
        refine Gm_run (S := []) [some (.ref 16), some (.int (nI k)), some (.int (nI i)), some (.int (nI j)), some (.int n), none, none] 200 k_B_exchange (okE_cons (ok_L_hasTenant Z (d + 3)) (okE_cons (ok_B_isResource Z (d + 3)) (okE_cons (ok_B_within Z (d + 3)) (okE_cons (ok_L_priceOf Z (d + 2)) (okE_cons (ok_B_converted Z (d + 3)) (okE_cons (ok_L_isBankrupt Z (d + 2)) (okE_cons (ok_L_exchangeable Z (d + 2)) (okE_cons (ok_B_slot Z (d + 3)) (okE_cons (ok_H_keep Z d) (okE_cons (ok_L_addToFund Z (d + 2)) okE_nil)))))))))) (ex_n hn) ?_
        simp (maxSteps := 3000000) (disch := first | exact True.intro | assumption | omega) only [↓run, ↓go, ↓jmp, seek, inS, ↓e0, ↓e1, ↓e2, ↓e3, ↓e4, ↓e5, ↓tsw, ↓e7, ↓e8, ↓e9, ↓e10, ↓e11, ↓e12, ↓splitA, rcv, clook, lget, lset, lset2, lkill, Option.toList, List.nil_append, List.cons_append, wsum, List.map_cons, List.map_nil, List.sum_cons, List.sum_nil, Value.category, Nat.reduceAdd, List.getD_cons_zero, List.getD_cons_succ, ↓reduceIte, if_true, if_false, Bool.false_eq_true, Nat.reduceLeDiff, Nat.reduceEqDiff, true_or, or_true, true_and, and_true, and_self, or_self, not_true, not_false_iff, mR_stI, mN_stI, isO_stI, isA_stI, mI_stI, mR_mW, mN_mW, isO_mW, isA_mW, mI_mW, mW_mW, stI_mW, nI_addL, nI_mulL, nI_subL, nI_ltL, nI_leL, nI_Llt, nI_Lle, nI_eqL, nI_Leq, nI_add, pk_mul, nI_ltI, nI_leI, nI_eq, vpi, nI_clamp, nI_toN, bk_oB hB, bk_oV hB, bk_oH hB, bk_b0 hB, bk_b1 hB, bk_b2 hB, bk_b3 hB, bk_b4 hB, bk_b5 hB, bk_v0 hB, bk_v1 hB, bk_h0 hB, nw_o hB, nw_og hB, nw_od hB, nw_ot hB, nw_r9 hB, nw_r10 hB, nw_r11 hB, nw_r0 hB, nw_r1 hB, nw_r2 hB, nw_r3 hB, nw_r4 hB, nw_r5 hB, nw_r6 hB, nw_r7 hB, nw_r8 hB, nw_a1 hB, nw_a2 hB, nw_a3 hB, nw_a4 hB, nw_a5 hB, nw_a6 hB, nw_a7 hB, nw_a8 hB, nw_a9 hB, nw_a14 hB, nw_as hB, nw_at hB, bk_oB hB2, bk_oV hB2, bk_oH hB2, bk_b0 hB2, bk_b1 hB2, bk_b2 hB2, bk_b3 hB2, bk_b4 hB2, bk_b5 hB2, bk_v0 hB2, bk_v1 hB2, bk_h0 hB2, nw_o hB2, nw_og hB2, nw_od hB2, nw_ot hB2, nw_r9 hB2, nw_r10 hB2, nw_r11 hB2, nw_r0 hB2, nw_r1 hB2, nw_r2 hB2, nw_r3 hB2, nw_r4 hB2, nw_r5 hB2, nw_r6 hB2, nw_r7 hB2, nw_r8 hB2, nw_a1 hB2, nw_a2 hB2, nw_a3 hB2, nw_a4 hB2, nw_a5 hB2, nw_a6 hB2, nw_a7 hB2, nw_a8 hB2, nw_a9 hB2, nw_a14 hB2, nw_as hB2, nw_at hB2, vR, vT, Nat.not_lt_zero, bv_Tr, bv_Fa, one_n0, eq_self, Nat.zero_le, and_true, true_and, and_false, false_and, not_true, not_false_iff, or_true, true_or, or_false, false_or, mN_mRW, ex_iff, p_B_exchange, i_L_hasTenant, i_B_isResource, i_B_within, i_L_priceOf, i_B_converted, i_L_isBankrupt, i_L_exchangeable, i_B_slot, i_H_keep, i_L_addToFund, pc_L_hasTenant (b := 20) (M := M) ⟨hL, hD⟩, pc_B_isResource, pc_B_within, pc_L_isBankrupt (b := 20) (M := M) ⟨hL, hD⟩, hp1, hp2, hcv, hxc, pc_B_slot, hkp, haf, w1, w2, exG, hij, h5, hk, hi, hj, g1, g2, g3, g4, g5]
      · rw [show exQ (mI M) k i j n = _ from (if_neg hs).trans (if_neg g5), show exN M k i j n = _ from if_pos (Or.inr g5)]
        refine Gm_run (S := [144]) [some (.ref 16), some (.int (nI k)), some (.int (nI i)), some (.int (nI j)), some (.int n), none, none] 200 k_B_exchange (okE_cons (ok_L_hasTenant Z (d + 3)) (okE_cons (ok_B_isResource Z (d + 3)) (okE_cons (ok_B_within Z (d + 3)) (okE_cons (ok_L_priceOf Z (d + 2)) (okE_cons (ok_B_converted Z (d + 3)) (okE_cons (ok_L_isBankrupt Z (d + 2)) (okE_cons (ok_L_exchangeable Z (d + 2)) (okE_cons (ok_B_slot Z (d + 3)) (okE_cons (ok_H_keep Z d) (okE_cons (ok_L_addToFund Z (d + 2)) okE_nil)))))))))) (ex_n rfl) ?_
        simp (maxSteps := 3000000) (disch := first | exact True.intro | assumption | omega) only [↓run, ↓go, ↓jmp, seek, inS, ↓e0, ↓e1, ↓e2, ↓e3, ↓e4, ↓e5, ↓tsw, ↓e7, ↓e8, ↓e9, ↓e10, ↓e11, ↓e12, ↓splitA, rcv, clook, lget, lset, lset2, lkill, Option.toList, List.nil_append, List.cons_append, wsum, List.map_cons, List.map_nil, List.sum_cons, List.sum_nil, Value.category, Nat.reduceAdd, List.getD_cons_zero, List.getD_cons_succ, ↓reduceIte, if_true, if_false, Bool.false_eq_true, Nat.reduceLeDiff, Nat.reduceEqDiff, true_or, or_true, true_and, and_true, and_self, or_self, not_true, not_false_iff, mR_stI, mN_stI, isO_stI, isA_stI, mI_stI, mR_mW, mN_mW, isO_mW, isA_mW, mI_mW, mW_mW, stI_mW, nI_addL, nI_mulL, nI_subL, nI_ltL, nI_leL, nI_Llt, nI_Lle, nI_eqL, nI_Leq, nI_add, pk_mul, nI_ltI, nI_leI, nI_eq, vpi, nI_clamp, nI_toN, bk_oB hB, bk_oV hB, bk_oH hB, bk_b0 hB, bk_b1 hB, bk_b2 hB, bk_b3 hB, bk_b4 hB, bk_b5 hB, bk_v0 hB, bk_v1 hB, bk_h0 hB, nw_o hB, nw_og hB, nw_od hB, nw_ot hB, nw_r9 hB, nw_r10 hB, nw_r11 hB, nw_r0 hB, nw_r1 hB, nw_r2 hB, nw_r3 hB, nw_r4 hB, nw_r5 hB, nw_r6 hB, nw_r7 hB, nw_r8 hB, nw_a1 hB, nw_a2 hB, nw_a3 hB, nw_a4 hB, nw_a5 hB, nw_a6 hB, nw_a7 hB, nw_a8 hB, nw_a9 hB, nw_a14 hB, nw_as hB, nw_at hB, vR, vT, Nat.not_lt_zero, bv_Tr, bv_Fa, one_n0, eq_self, Nat.zero_le, and_true, true_and, and_false, false_and, not_true, not_false_iff, or_true, true_or, or_false, false_or, mN_mRW, ex_iff, p_B_exchange, i_L_hasTenant, i_B_isResource, i_B_within, i_L_priceOf, i_B_converted, i_L_isBankrupt, i_L_exchangeable, i_B_slot, i_H_keep, i_L_addToFund, pc_L_hasTenant (b := 20) (M := M) ⟨hL, hD⟩, pc_B_isResource, pc_B_within, pc_L_isBankrupt (b := 20) (M := M) ⟨hL, hD⟩, hp1, hp2, hcv, hxc, pc_B_slot, hij, h5, hk, hi, hj, g1, g2, g3, g4, g5]
  · rw [show exR (mI M) t a b n = _ from if_neg hv, show exM M t a b n = _ from if_neg hv]
    refine Gm_run (S := [45]) [some (.ref 16), some (.int t), some (.int a), some (.int b), some (.int n), none, none] 100 k_B_exchange (okE_cons (ok_L_hasTenant Z (d + 3)) (okE_cons (ok_B_isResource Z (d + 3)) (okE_cons (ok_B_within Z (d + 3)) (okE_cons (ok_L_priceOf Z (d + 2)) (okE_cons (ok_B_converted Z (d + 3)) (okE_cons (ok_L_isBankrupt Z (d + 2)) (okE_cons (ok_L_exchangeable Z (d + 2)) (okE_cons (ok_B_slot Z (d + 3)) (okE_cons (ok_H_keep Z d) (okE_cons (ok_L_addToFund Z (d + 2)) okE_nil)))))))))) (ex_n rfl) ?_
    simp (maxSteps := 3000000) (disch := first | exact True.intro | assumption | omega) only [↓run, ↓go, ↓jmp, seek, inS, ↓e0, ↓e1, ↓e2, ↓e3, ↓e4, ↓e5, ↓tsw, ↓e7, ↓e8, ↓e9, ↓e10, ↓e11, ↓e12, ↓splitA, rcv, clook, lget, lset, lset2, lkill, Option.toList, List.nil_append, List.cons_append, wsum, List.map_cons, List.map_nil, List.sum_cons, List.sum_nil, Value.category, Nat.reduceAdd, List.getD_cons_zero, List.getD_cons_succ, ↓reduceIte, if_true, if_false, Bool.false_eq_true, Nat.reduceLeDiff, Nat.reduceEqDiff, true_or, or_true, true_and, and_true, and_self, or_self, not_true, not_false_iff, mR_stI, mN_stI, isO_stI, isA_stI, mI_stI, mR_mW, mN_mW, isO_mW, isA_mW, mI_mW, mW_mW, stI_mW, nI_addL, nI_mulL, nI_subL, nI_ltL, nI_leL, nI_Llt, nI_Lle, nI_eqL, nI_Leq, nI_add, pk_mul, nI_ltI, nI_leI, nI_eq, vpi, nI_clamp, nI_toN, bk_oB hB, bk_oV hB, bk_oH hB, bk_b0 hB, bk_b1 hB, bk_b2 hB, bk_b3 hB, bk_b4 hB, bk_b5 hB, bk_v0 hB, bk_v1 hB, bk_h0 hB, nw_o hB, nw_og hB, nw_od hB, nw_ot hB, nw_r9 hB, nw_r10 hB, nw_r11 hB, nw_r0 hB, nw_r1 hB, nw_r2 hB, nw_r3 hB, nw_r4 hB, nw_r5 hB, nw_r6 hB, nw_r7 hB, nw_r8 hB, nw_a1 hB, nw_a2 hB, nw_a3 hB, nw_a4 hB, nw_a5 hB, nw_a6 hB, nw_a7 hB, nw_a8 hB, nw_a9 hB, nw_a14 hB, nw_as hB, nw_at hB, vR, vT, Nat.not_lt_zero, bv_Tr, bv_Fa, one_n0, eq_self, Nat.zero_le, and_true, true_and, and_false, false_and, not_true, not_false_iff, or_true, true_or, or_false, false_or, mN_mRW, ex_iff, p_B_exchange, i_L_hasTenant, i_B_isResource, i_B_within, i_L_priceOf, i_B_converted, i_L_isBankrupt, i_L_exchangeable, i_B_slot, i_H_keep, i_L_addToFund, pc_L_hasTenant (b := 20) (M := M) ⟨hL, hD⟩, pc_B_isResource, pc_B_within, bv_0, ite_nt, ite_self]
    repeat' (first | exact True.intro | exact absurd ⟨by assumption, by assumption, by assumption, by assumption, by assumption⟩ hv | split)
/-! borrowing -/
abbrev boC (f : Nat → Nat → Int32) (t r n : Int32) : Prop := vT f t ∧ vR r ∧ 1 ≤ n ∧ n ≤ 999
abbrev boS (f : Nat → Nat → Int32) (t r : Nat) (n : Int32) : Prop := isB f 20 (nI t) ∨ f 22 r < n ∨ ¬ lnP f 20 t 4 + n ≤ 10 * f 24 t
def boQ (f : Nat → Nat → Int32) (t r : Nat) (n : Int32) : Int32 := if boS f t r n then -1000001 else if f 27 (t * 4 + r) + n ≤ 9999 then f 28 (t * 4 + r) + n else -1000002
noncomputable def boN (M : Mem) (t r : Nat) (n : Int32) : Mem := if boS (mI M) t r n ∨ ¬ mI M 27 (t * 4 + r) + n ≤ 9999 then M else mW (kpM M) (u2 (u2 (u2 (mI (kpM M)) 22 r (mI (kpM M) 22 r - n)) 27 (t * 4 + r) (mI (kpM M) 27 (t * 4 + r) + n)) 28 (t * 4 + r) (mI (kpM M) 28 (t * 4 + r) + n))
def boR (f : Nat → Nat → Int32) (t r n : Int32) : Int32 := if boC f t r n then boQ f t.toNatClampNeg r.toNatClampNeg n else -1000000
noncomputable def boM (M : Mem) (t r n : Int32) : Mem := if boC (mI M) t r n then boN M t.toNatClampNeg r.toNatClampNeg n else M
def e_B_borrow : Ent := (fun av M => ∃ (o : Nat) (t : Int32) (r : Int32) (n : Int32), av = [.ref o, .int t, .int r, .int n] ∧ (o = 16 ∧ WB M), fun av M r_ M_ => ∀ (o : Nat) (t : Int32) (r : Int32) (n : Int32), av = [.ref o, .int t, .int r, .int n] → r_ = (some (.int (boR (mI M) t r n))) ∧ M_ = (boM M t r n))
theorem pc_B_borrow {o : Nat} {t : Int32} {r : Int32} {n : Int32} {M : Mem} {K : Option Value → Mem → Prop} (hp : o = 16 ∧ WB M) : pcall e_B_borrow [.ref o, .int t, .int r, .int n] M K = K (some (.int (boR (mI M) t r n))) (boM M t r n) := propext ⟨fun h => h.2 _ _ (fun o' t' r' n' e => by simp only [List.cons.injEq, Value.ref.injEq, Value.int.injEq, Value.long.injEq, and_true] at e; obtain ⟨q0, q1, q2, q3⟩ := e; obtain rfl := q0; obtain rfl := q1; obtain rfl := q2; obtain rfl := q3; exact ⟨rfl, rfl⟩), fun h => ⟨⟨o, t, r, n, rfl, hp⟩, fun r_ M_ q => by obtain ⟨rfl, rfl⟩ := q _ _ _ _ rfl; exact h⟩⟩
theorem mk_B_borrow {Z : Zt} {d : Nat} (h : ∀ (o : Nat) (t : Int32) (r : Int32) (n : Int32) (M : Mem), (o = 16 ∧ WB M) → Gm Z d s_B_borrow [.ref o, .int t, .int r, .int n] M (ex (some (.int (boR (mI M) t r n))) (boM M t r n))) : okE Z d i_B_borrow e_B_borrow := by
  rintro av M ⟨o, t, r, n, rfl, hp⟩
  exact Gm.cons (h o t r n M  hp) (fun r_ M_ q o' t' r' n' e => by simp only [List.cons.injEq, Value.ref.injEq, Value.int.injEq, Value.long.injEq, and_true] at e; obtain ⟨q0, q1, q2, q3⟩ := e; obtain rfl := q0; obtain rfl := q1; obtain rfl := q2; obtain rfl := q3; exact q)
set_option maxRecDepth 100000 in
set_option maxHeartbeats 4000000 in
theorem ok_B_borrow (Z : Zt) (d : Nat) : okE Z (d + 5) i_B_borrow e_B_borrow := mk_B_borrow fun o t r n M hp => by
  obtain ⟨rfl, hW⟩ := hp
  have hW2 := kp_W hW
  obtain ⟨hB, hD, hD2, hH, hT⟩ := hW
  have hL := bk_now hB
  have hkp : ∀ {K : Option Value → Mem → Prop}, pcall e_H_keep [.ref 50, .ref 20] M K = K none (kpM M) := pc_H_keep (o := 50) (b := 20) (M := M) ⟨rfl, rfl, hB, hD, hH⟩
  have hkI : ∀ {x y}, x < 50 ∨ 171 < x → mI (kpM M) x y = mI M x y := fun {x y} h => kp_i hB hH h
  have hn2 := kp_n M

  have h6 : lnT (mI M) 20 ≤ 6 := hD.2.2.2.2.2.1
  by_cases hv : boC (mI M) t r n
  · rw [show boR (mI M) t r n = _ from if_pos hv, show boM M t r n = _ from if_pos hv]
    obtain ⟨h1, h2, h5⟩ := hv
    obtain ⟨k, rfl, hk, hk6⟩ := vT_nI hD h1
    obtain ⟨i, rfl, hi⟩ := vR_nI h2
    rw [nI_toN (show k < 2 ^ 31 by omega), nI_toN (show i < 2 ^ 31 by omega)]
    have hln : ∀ {K : Option Value → Mem → Prop}, pcall e_L_loansOf [.ref 20, .int (nI k)] M K = K (some (.int (lnP (mI M) 20 k 4))) M := pc_L_loansOf (b := 20) (t := k) (M := M) ⟨⟨hL, hD⟩, hk⟩ (by omega)
    have hk1 : ∀ {y}, mI (kpM M) 28 y = mI M 28 y := fun {y} => kp_i hB hH (by omega)
    by_cases hs : boS (mI M) k i n
    · rw [show boQ (mI M) k i n = _ from if_pos hs, show boN M k i n = _ from if_pos (Or.inl hs)]
      refine Gm_run (S := [84]) [some (.ref 16), some (.int (nI k)), some (.int (nI i)), some (.int n), none] 200 k_B_borrow (okE_cons (ok_L_hasTenant Z (d + 3)) (okE_cons (ok_B_isResource Z (d + 3)) (okE_cons (ok_B_within Z (d + 3)) (okE_cons (ok_L_isBankrupt Z (d + 2)) (okE_cons (ok_L_loansOf Z (d + 2)) (okE_cons (ok_B_slot Z (d + 3)) (okE_cons (ok_H_keep Z d) okE_nil))))))) (ex_n rfl) ?_
      simp (maxSteps := 3000000) (disch := first | exact True.intro | assumption | omega) only [↓run, ↓go, ↓jmp, seek, inS, ↓e0, ↓e1, ↓e2, ↓e3, ↓e4, ↓e5, ↓tsw, ↓e7, ↓e8, ↓e9, ↓e10, ↓e11, ↓e12, ↓splitA, rcv, clook, lget, lset, lset2, lkill, Option.toList, List.nil_append, List.cons_append, wsum, List.map_cons, List.map_nil, List.sum_cons, List.sum_nil, Value.category, Nat.reduceAdd, List.getD_cons_zero, List.getD_cons_succ, ↓reduceIte, if_true, if_false, Bool.false_eq_true, Nat.reduceLeDiff, Nat.reduceEqDiff, true_or, or_true, true_and, and_true, and_self, or_self, not_true, not_false_iff, mR_stI, mN_stI, isO_stI, isA_stI, mI_stI, mR_mW, mN_mW, isO_mW, isA_mW, mI_mW, mW_mW, stI_mW, nI_addL, nI_mulL, nI_subL, nI_ltL, nI_leL, nI_Llt, nI_Lle, nI_eqL, nI_Leq, nI_add, pk_mul, nI_ltI, nI_leI, nI_eq, vpi, nI_clamp, nI_toN, bk_oB hB, bk_oV hB, bk_oH hB, bk_b0 hB, bk_b1 hB, bk_b2 hB, bk_b3 hB, bk_b4 hB, bk_b5 hB, bk_v0 hB, bk_v1 hB, bk_h0 hB, nw_o hB, nw_og hB, nw_od hB, nw_ot hB, nw_r9 hB, nw_r10 hB, nw_r11 hB, nw_r0 hB, nw_r1 hB, nw_r2 hB, nw_r3 hB, nw_r4 hB, nw_r5 hB, nw_r6 hB, nw_r7 hB, nw_r8 hB, nw_a1 hB, nw_a2 hB, nw_a3 hB, nw_a4 hB, nw_a5 hB, nw_a6 hB, nw_a7 hB, nw_a8 hB, nw_a9 hB, nw_a14 hB, nw_as hB, nw_at hB, vR, vT, Nat.not_lt_zero, bv_Tr, bv_Fa, one_n0, eq_self, Nat.zero_le, and_true, true_and, and_false, false_and, not_true, not_false_iff, or_true, true_or, or_false, false_or, mN_mRW, ex_iff, p_B_borrow, i_L_hasTenant, i_B_isResource, i_B_within, i_L_isBankrupt, i_L_loansOf, i_B_slot, i_H_keep, pc_L_hasTenant (b := 20) (M := M) ⟨hL, hD⟩, pc_B_isResource, pc_B_within, pc_L_isBankrupt (b := 20) (M := M) ⟨hL, hD⟩, hln, h5, hk, hi, bv_0, ite_nt, ite_self]
      repeat' (first | exact True.intro | (exfalso; rcases hs with q | q | q <;> contradiction) | split)
    · have g1 : ¬ isB (mI M) 20 (nI k) := fun q => hs (Or.inl q)
      have g2 : ¬ mI M 22 i < n := fun q => hs (Or.inr (Or.inl q))
      have g4 : lnP (mI M) 20 k 4 + n ≤ 10 * mI M 24 k := Decidable.not_not.mp fun q => hs (Or.inr (Or.inr q))
      by_cases g5 : mI M 27 (k * 4 + i) + n ≤ 9999
      · rw [show boQ (mI M) k i n = _ from (if_neg hs).trans (if_pos g5), show boN M k i n = _ from if_neg (fun q => Or.elim q hs (fun z => z g5))]
        generalize hM2 : kpM M = M2 at *
        have hB2 : BkS M2 := hW2.1
        have hn : mN (mW M2 (u2 (u2 (u2 (mI M2) 22 i (mI M2 22 i - n)) 27 (k * 4 + i) (mI M2 27 (k * 4 + i) + n)) 28 (k * 4 + i) (mI M2 28 (k * 4 + i) + n))) = mN M := hn2
        have w1 : ∀ y1 v1, u2 (mI M2) 22 y1 v1 27 (k * 4 + i) = mI M2 27 (k * 4 + i) := fun y1 v1 => u2_ne (by omega)
        have w2 : ∀ y1 v1 y2 v2, u2 (u2 (mI M2) 22 y1 v1) 27 y2 v2 28 (k * 4 + i) = mI M2 28 (k * 4 + i) := fun y1 v1 y2 v2 => by rw [u2_ne (by omega), u2_ne (by omega)]
        refine Gm_run (S := []) [some (.ref 16), some (.int (nI k)), some (.int (nI i)), some (.int n), none] 200 k_B_borrow (okE_cons (ok_L_hasTenant Z (d + 3)) (okE_cons (ok_B_isResource Z (d + 3)) (okE_cons (ok_B_within Z (d + 3)) (okE_cons (ok_L_isBankrupt Z (d + 2)) (okE_cons (ok_L_loansOf Z (d + 2)) (okE_cons (ok_B_slot Z (d + 3)) (okE_cons (ok_H_keep Z d) okE_nil))))))) (ex_n hn) ?_
        simp (maxSteps := 3000000) (disch := first | exact True.intro | assumption | omega) only [↓run, ↓go, ↓jmp, seek, inS, ↓e0, ↓e1, ↓e2, ↓e3, ↓e4, ↓e5, ↓tsw, ↓e7, ↓e8, ↓e9, ↓e10, ↓e11, ↓e12, ↓splitA, rcv, clook, lget, lset, lset2, lkill, Option.toList, List.nil_append, List.cons_append, wsum, List.map_cons, List.map_nil, List.sum_cons, List.sum_nil, Value.category, Nat.reduceAdd, List.getD_cons_zero, List.getD_cons_succ, ↓reduceIte, if_true, if_false, Bool.false_eq_true, Nat.reduceLeDiff, Nat.reduceEqDiff, true_or, or_true, true_and, and_true, and_self, or_self, not_true, not_false_iff, mR_stI, mN_stI, isO_stI, isA_stI, mI_stI, mR_mW, mN_mW, isO_mW, isA_mW, mI_mW, mW_mW, stI_mW, nI_addL, nI_mulL, nI_subL, nI_ltL, nI_leL, nI_Llt, nI_Lle, nI_eqL, nI_Leq, nI_add, pk_mul, nI_ltI, nI_leI, nI_eq, vpi, nI_clamp, nI_toN, bk_oB hB, bk_oV hB, bk_oH hB, bk_b0 hB, bk_b1 hB, bk_b2 hB, bk_b3 hB, bk_b4 hB, bk_b5 hB, bk_v0 hB, bk_v1 hB, bk_h0 hB, nw_o hB, nw_og hB, nw_od hB, nw_ot hB, nw_r9 hB, nw_r10 hB, nw_r11 hB, nw_r0 hB, nw_r1 hB, nw_r2 hB, nw_r3 hB, nw_r4 hB, nw_r5 hB, nw_r6 hB, nw_r7 hB, nw_r8 hB, nw_a1 hB, nw_a2 hB, nw_a3 hB, nw_a4 hB, nw_a5 hB, nw_a6 hB, nw_a7 hB, nw_a8 hB, nw_a9 hB, nw_a14 hB, nw_as hB, nw_at hB, bk_oB hB2, bk_oV hB2, bk_oH hB2, bk_b0 hB2, bk_b1 hB2, bk_b2 hB2, bk_b3 hB2, bk_b4 hB2, bk_b5 hB2, bk_v0 hB2, bk_v1 hB2, bk_h0 hB2, nw_o hB2, nw_og hB2, nw_od hB2, nw_ot hB2, nw_r9 hB2, nw_r10 hB2, nw_r11 hB2, nw_r0 hB2, nw_r1 hB2, nw_r2 hB2, nw_r3 hB2, nw_r4 hB2, nw_r5 hB2, nw_r6 hB2, nw_r7 hB2, nw_r8 hB2, nw_a1 hB2, nw_a2 hB2, nw_a3 hB2, nw_a4 hB2, nw_a5 hB2, nw_a6 hB2, nw_a7 hB2, nw_a8 hB2, nw_a9 hB2, nw_a14 hB2, nw_as hB2, nw_at hB2, vR, vT, Nat.not_lt_zero, bv_Tr, bv_Fa, one_n0, eq_self, Nat.zero_le, and_true, true_and, and_false, false_and, not_true, not_false_iff, or_true, true_or, or_false, false_or, mN_mRW, ex_iff, p_B_borrow, i_L_hasTenant, i_B_isResource, i_B_within, i_L_isBankrupt, i_L_loansOf, i_B_slot, i_H_keep, pc_L_hasTenant (b := 20) (M := M) ⟨hL, hD⟩, pc_B_isResource, pc_B_within, pc_L_isBankrupt (b := 20) (M := M) ⟨hL, hD⟩, hln, pc_B_slot, hkp, w1, w2, u2_eq, hk1, h5, hk, hi, g1, g2, g4, g5]
      · rw [show boQ (mI M) k i n = _ from (if_neg hs).trans (if_neg g5), show boN M k i n = _ from if_pos (Or.inr g5)]
        refine Gm_run (S := [112]) [some (.ref 16), some (.int (nI k)), some (.int (nI i)), some (.int n), none] 200 k_B_borrow (okE_cons (ok_L_hasTenant Z (d + 3)) (okE_cons (ok_B_isResource Z (d + 3)) (okE_cons (ok_B_within Z (d + 3)) (okE_cons (ok_L_isBankrupt Z (d + 2)) (okE_cons (ok_L_loansOf Z (d + 2)) (okE_cons (ok_B_slot Z (d + 3)) (okE_cons (ok_H_keep Z d) okE_nil))))))) (ex_n rfl) ?_
        simp (maxSteps := 3000000) (disch := first | exact True.intro | assumption | omega) only [↓run, ↓go, ↓jmp, seek, inS, ↓e0, ↓e1, ↓e2, ↓e3, ↓e4, ↓e5, ↓tsw, ↓e7, ↓e8, ↓e9, ↓e10, ↓e11, ↓e12, ↓splitA, rcv, clook, lget, lset, lset2, lkill, Option.toList, List.nil_append, List.cons_append, wsum, List.map_cons, List.map_nil, List.sum_cons, List.sum_nil, Value.category, Nat.reduceAdd, List.getD_cons_zero, List.getD_cons_succ, ↓reduceIte, if_true, if_false, Bool.false_eq_true, Nat.reduceLeDiff, Nat.reduceEqDiff, true_or, or_true, true_and, and_true, and_self, or_self, not_true, not_false_iff, mR_stI, mN_stI, isO_stI, isA_stI, mI_stI, mR_mW, mN_mW, isO_mW, isA_mW, mI_mW, mW_mW, stI_mW, nI_addL, nI_mulL, nI_subL, nI_ltL, nI_leL, nI_Llt, nI_Lle, nI_eqL, nI_Leq, nI_add, pk_mul, nI_ltI, nI_leI, nI_eq, vpi, nI_clamp, nI_toN, bk_oB hB, bk_oV hB, bk_oH hB, bk_b0 hB, bk_b1 hB, bk_b2 hB, bk_b3 hB, bk_b4 hB, bk_b5 hB, bk_v0 hB, bk_v1 hB, bk_h0 hB, nw_o hB, nw_og hB, nw_od hB, nw_ot hB, nw_r9 hB, nw_r10 hB, nw_r11 hB, nw_r0 hB, nw_r1 hB, nw_r2 hB, nw_r3 hB, nw_r4 hB, nw_r5 hB, nw_r6 hB, nw_r7 hB, nw_r8 hB, nw_a1 hB, nw_a2 hB, nw_a3 hB, nw_a4 hB, nw_a5 hB, nw_a6 hB, nw_a7 hB, nw_a8 hB, nw_a9 hB, nw_a14 hB, nw_as hB, nw_at hB, vR, vT, Nat.not_lt_zero, bv_Tr, bv_Fa, one_n0, eq_self, Nat.zero_le, and_true, true_and, and_false, false_and, not_true, not_false_iff, or_true, true_or, or_false, false_or, mN_mRW, ex_iff, p_B_borrow, i_L_hasTenant, i_B_isResource, i_B_within, i_L_isBankrupt, i_L_loansOf, i_B_slot, i_H_keep, pc_L_hasTenant (b := 20) (M := M) ⟨hL, hD⟩, pc_B_isResource, pc_B_within, pc_L_isBankrupt (b := 20) (M := M) ⟨hL, hD⟩, hln, pc_B_slot, h5, hk, hi, g1, g2, g4, g5]
  · rw [show boR (mI M) t r n = _ from if_neg hv, show boM M t r n = _ from if_neg hv]
    refine Gm_run (S := [32]) [some (.ref 16), some (.int t), some (.int r), some (.int n), none] 100 k_B_borrow (okE_cons (ok_L_hasTenant Z (d + 3)) (okE_cons (ok_B_isResource Z (d + 3)) (okE_cons (ok_B_within Z (d + 3)) (okE_cons (ok_L_isBankrupt Z (d + 2)) (okE_cons (ok_L_loansOf Z (d + 2)) (okE_cons (ok_B_slot Z (d + 3)) (okE_cons (ok_H_keep Z d) okE_nil))))))) (ex_n rfl) ?_
    simp (maxSteps := 3000000) (disch := first | exact True.intro | assumption | omega) only [↓run, ↓go, ↓jmp, seek, inS, ↓e0, ↓e1, ↓e2, ↓e3, ↓e4, ↓e5, ↓tsw, ↓e7, ↓e8, ↓e9, ↓e10, ↓e11, ↓e12, ↓splitA, rcv, clook, lget, lset, lset2, lkill, Option.toList, List.nil_append, List.cons_append, wsum, List.map_cons, List.map_nil, List.sum_cons, List.sum_nil, Value.category, Nat.reduceAdd, List.getD_cons_zero, List.getD_cons_succ, ↓reduceIte, if_true, if_false, Bool.false_eq_true, Nat.reduceLeDiff, Nat.reduceEqDiff, true_or, or_true, true_and, and_true, and_self, or_self, not_true, not_false_iff, mR_stI, mN_stI, isO_stI, isA_stI, mI_stI, mR_mW, mN_mW, isO_mW, isA_mW, mI_mW, mW_mW, stI_mW, nI_addL, nI_mulL, nI_subL, nI_ltL, nI_leL, nI_Llt, nI_Lle, nI_eqL, nI_Leq, nI_add, pk_mul, nI_ltI, nI_leI, nI_eq, vpi, nI_clamp, nI_toN, bk_oB hB, bk_oV hB, bk_oH hB, bk_b0 hB, bk_b1 hB, bk_b2 hB, bk_b3 hB, bk_b4 hB, bk_b5 hB, bk_v0 hB, bk_v1 hB, bk_h0 hB, nw_o hB, nw_og hB, nw_od hB, nw_ot hB, nw_r9 hB, nw_r10 hB, nw_r11 hB, nw_r0 hB, nw_r1 hB, nw_r2 hB, nw_r3 hB, nw_r4 hB, nw_r5 hB, nw_r6 hB, nw_r7 hB, nw_r8 hB, nw_a1 hB, nw_a2 hB, nw_a3 hB, nw_a4 hB, nw_a5 hB, nw_a6 hB, nw_a7 hB, nw_a8 hB, nw_a9 hB, nw_a14 hB, nw_as hB, nw_at hB, vR, vT, Nat.not_lt_zero, bv_Tr, bv_Fa, one_n0, eq_self, Nat.zero_le, and_true, true_and, and_false, false_and, not_true, not_false_iff, or_true, true_or, or_false, false_or, mN_mRW, ex_iff, p_B_borrow, i_L_hasTenant, i_B_isResource, i_B_within, i_L_isBankrupt, i_L_loansOf, i_B_slot, i_H_keep, pc_L_hasTenant (b := 20) (M := M) ⟨hL, hD⟩, pc_B_isResource, pc_B_within, bv_0, ite_nt, ite_self]
    repeat' (first | exact True.intro | exact absurd ⟨by assumption, by assumption, by assumption⟩ hv | split)
abbrev rpS (f : Nat → Nat → Int32) (t r : Nat) (n : Int32) : Prop := f 28 (t * 4 + r) < n ∨ ¬ n ≤ f 27 (t * 4 + r) - f 29 (t * 4 + r)
def rpQ (f : Nat → Nat → Int32) (t r : Nat) (n : Int32) : Int32 := if rpS f t r n then -1000001 else f 28 (t * 4 + r) - n
noncomputable def rpN (M : Mem) (t r : Nat) (n : Int32) : Mem := if rpS (mI M) t r n then M else mW (kpM M) (gbF (mI (kpM M)) 20 t r n)
def rpR (f : Nat → Nat → Int32) (t r n : Int32) : Int32 := if boC f t r n then rpQ f t.toNatClampNeg r.toNatClampNeg n else -1000000
noncomputable def rpM (M : Mem) (t r n : Int32) : Mem := if boC (mI M) t r n then rpN M t.toNatClampNeg r.toNatClampNeg n else M
def e_B_repay : Ent := (fun av M => ∃ (o : Nat) (t : Int32) (r : Int32) (n : Int32), av = [.ref o, .int t, .int r, .int n] ∧ (o = 16 ∧ WB M), fun av M r_ M_ => ∀ (o : Nat) (t : Int32) (r : Int32) (n : Int32), av = [.ref o, .int t, .int r, .int n] → r_ = (some (.int (rpR (mI M) t r n))) ∧ M_ = (rpM M t r n))
theorem pc_B_repay {o : Nat} {t : Int32} {r : Int32} {n : Int32} {M : Mem} {K : Option Value → Mem → Prop} (hp : o = 16 ∧ WB M) : pcall e_B_repay [.ref o, .int t, .int r, .int n] M K = K (some (.int (rpR (mI M) t r n))) (rpM M t r n) := propext ⟨fun h => h.2 _ _ (fun o' t' r' n' e => by simp only [List.cons.injEq, Value.ref.injEq, Value.int.injEq, Value.long.injEq, and_true] at e; obtain ⟨q0, q1, q2, q3⟩ := e; obtain rfl := q0; obtain rfl := q1; obtain rfl := q2; obtain rfl := q3; exact ⟨rfl, rfl⟩), fun h => ⟨⟨o, t, r, n, rfl, hp⟩, fun r_ M_ q => by obtain ⟨rfl, rfl⟩ := q _ _ _ _ rfl; exact h⟩⟩
theorem mk_B_repay {Z : Zt} {d : Nat} (h : ∀ (o : Nat) (t : Int32) (r : Int32) (n : Int32) (M : Mem), (o = 16 ∧ WB M) → Gm Z d s_B_repay [.ref o, .int t, .int r, .int n] M (ex (some (.int (rpR (mI M) t r n))) (rpM M t r n))) : okE Z d i_B_repay e_B_repay := by
  rintro av M ⟨o, t, r, n, rfl, hp⟩
  exact Gm.cons (h o t r n M  hp) (fun r_ M_ q o' t' r' n' e => by simp only [List.cons.injEq, Value.ref.injEq, Value.int.injEq, Value.long.injEq, and_true] at e; obtain ⟨q0, q1, q2, q3⟩ := e; obtain rfl := q0; obtain rfl := q1; obtain rfl := q2; obtain rfl := q3; exact q)
set_option maxRecDepth 100000 in
set_option maxHeartbeats 4000000 in
theorem ok_B_repay (Z : Zt) (d : Nat) : okE Z (d + 5) i_B_repay e_B_repay := mk_B_repay fun o t r n M hp => by
  obtain ⟨rfl, hW⟩ := hp
  have hW2 := kp_W hW
  obtain ⟨hB, hD, hD2, hH, hT⟩ := hW
  have hL := bk_now hB
  have hkp : ∀ {K : Option Value → Mem → Prop}, pcall e_H_keep [.ref 50, .ref 20] M K = K none (kpM M) := pc_H_keep (o := 50) (b := 20) (M := M) ⟨rfl, rfl, hB, hD, hH⟩
  have hkI : ∀ {x y}, x < 50 ∨ 171 < x → mI (kpM M) x y = mI M x y := fun {x y} h => kp_i hB hH h
  have hn2 := kp_n M

  have h6 : lnT (mI M) 20 ≤ 6 := hD.2.2.2.2.2.1
  by_cases hv : boC (mI M) t r n
  · rw [show rpR (mI M) t r n = _ from if_pos hv, show rpM M t r n = _ from if_pos hv]
    obtain ⟨h1, h2, h5⟩ := hv
    obtain ⟨k, rfl, hk, hk6⟩ := vT_nI hD h1
    obtain ⟨i, rfl, hi⟩ := vR_nI h2
    rw [nI_toN (show k < 2 ^ 31 by omega), nI_toN (show i < 2 ^ 31 by omega)]
    have hfp : ∀ {K : Option Value → Mem → Prop}, pcall e_L_freePart [.ref 20, .int (nI k), .int (nI i)] M K = K (some (.int (mI M 27 (k * 4 + i) - mI M 29 (k * 4 + i)))) M := pc_L_freePart (b := 20) (t := k) (r := i) (M := M) ⟨⟨hL, hD⟩, hk, hi⟩ (by omega) (by omega)
    have hk1 : ∀ {y}, mI (kpM M) 28 y = mI M 28 y := fun {y} => kp_i hB hH (by omega)
    have hk2 : mI (kpM M) 20 13 = mI M 20 13 := kp_i hB hH (by omega)
    by_cases hs : rpS (mI M) k i n
    · rw [show rpQ (mI M) k i n = _ from if_pos hs, show rpN M k i n = _ from if_pos hs]
      refine Gm_run (S := [69]) [some (.ref 16), some (.int (nI k)), some (.int (nI i)), some (.int n), none] 200 k_B_repay (okE_cons (ok_L_hasTenant Z (d + 3)) (okE_cons (ok_B_isResource Z (d + 3)) (okE_cons (ok_B_within Z (d + 3)) (okE_cons (ok_B_slot Z (d + 3)) (okE_cons (ok_L_freePart Z (d + 2)) (okE_cons (ok_H_keep Z d) (okE_cons (ok_L_giveBack Z (d + 1)) okE_nil))))))) (ex_n rfl) ?_
      simp (maxSteps := 3000000) (disch := first | exact True.intro | assumption | omega) only [↓run, ↓go, ↓jmp, seek, inS, ↓e0, ↓e1, ↓e2, ↓e3, ↓e4, ↓e5, ↓tsw, ↓e7, ↓e8, ↓e9, ↓e10, ↓e11, ↓e12, ↓splitA, rcv, clook, lget, lset, lset2, lkill, Option.toList, List.nil_append, List.cons_append, wsum, List.map_cons, List.map_nil, List.sum_cons, List.sum_nil, Value.category, Nat.reduceAdd, List.getD_cons_zero, List.getD_cons_succ, ↓reduceIte, if_true, if_false, Bool.false_eq_true, Nat.reduceLeDiff, Nat.reduceEqDiff, true_or, or_true, true_and, and_true, and_self, or_self, not_true, not_false_iff, mR_stI, mN_stI, isO_stI, isA_stI, mI_stI, mR_mW, mN_mW, isO_mW, isA_mW, mI_mW, mW_mW, stI_mW, nI_addL, nI_mulL, nI_subL, nI_ltL, nI_leL, nI_Llt, nI_Lle, nI_eqL, nI_Leq, nI_add, pk_mul, nI_ltI, nI_leI, nI_eq, vpi, nI_clamp, nI_toN, bk_oB hB, bk_oV hB, bk_oH hB, bk_b0 hB, bk_b1 hB, bk_b2 hB, bk_b3 hB, bk_b4 hB, bk_b5 hB, bk_v0 hB, bk_v1 hB, bk_h0 hB, nw_o hB, nw_og hB, nw_od hB, nw_ot hB, nw_r9 hB, nw_r10 hB, nw_r11 hB, nw_r0 hB, nw_r1 hB, nw_r2 hB, nw_r3 hB, nw_r4 hB, nw_r5 hB, nw_r6 hB, nw_r7 hB, nw_r8 hB, nw_a1 hB, nw_a2 hB, nw_a3 hB, nw_a4 hB, nw_a5 hB, nw_a6 hB, nw_a7 hB, nw_a8 hB, nw_a9 hB, nw_a14 hB, nw_as hB, nw_at hB, vR, vT, Nat.not_lt_zero, bv_Tr, bv_Fa, one_n0, eq_self, Nat.zero_le, and_true, true_and, and_false, false_and, not_true, not_false_iff, or_true, true_or, or_false, false_or, mN_mRW, ex_iff, p_B_repay, i_L_hasTenant, i_B_isResource, i_B_within, i_B_slot, i_L_freePart, i_H_keep, i_L_giveBack, pc_L_hasTenant (b := 20) (M := M) ⟨hL, hD⟩, pc_B_isResource, pc_B_within, pc_B_slot, hfp, h5, hk, hi, bv_0, ite_nt, ite_self]
      repeat' (first | exact True.intro | (exfalso; rcases hs with q | q <;> contradiction) | split)
    · rw [show rpQ (mI M) k i n = _ from if_neg hs, show rpN M k i n = _ from if_neg hs]
      generalize hM2 : kpM M = M2 at *
      have hB2 : BkS M2 := hW2.1
      have hn : mN (mW M2 (gbF (mI M2) 20 k i n)) = mN M := hn2
      have g1 : ¬ mI M 28 (k * 4 + i) < n := fun q => hs (Or.inl q)
      have g2 : n ≤ mI M 27 (k * 4 + i) - mI M 29 (k * 4 + i) := Decidable.not_not.mp fun q => hs (Or.inr q)
      have hlt : lnT (mI M2) 20 = lnT (mI M) 20 := lnT_congr hk2
      have hgb : ∀ {K : Option Value → Mem → Prop}, pcall e_L_giveBack [.ref 20, .int (nI k), .int (nI i), .int n] M2 K = K none (mW M2 (gbF (mI M2) 20 k i n)) := pc_L_giveBack (b := 20) (t := k) (r := i) (M := M2) ⟨⟨bk_now hB2, hW2.2.1⟩, by rw [hlt]; exact hk, hi⟩ (by omega) (by omega)
      have w1 : gbF (mI M2) 20 k i n 28 (k * 4 + i) = mI M 28 (k * 4 + i) - n := by
        unfold gbF afF
        rw [u2_ne (by omega), u2_ne (by omega), u2_eq, hk1]
      refine Gm_run (S := []) [some (.ref 16), some (.int (nI k)), some (.int (nI i)), some (.int n), none] 200 k_B_repay (okE_cons (ok_L_hasTenant Z (d + 3)) (okE_cons (ok_B_isResource Z (d + 3)) (okE_cons (ok_B_within Z (d + 3)) (okE_cons (ok_B_slot Z (d + 3)) (okE_cons (ok_L_freePart Z (d + 2)) (okE_cons (ok_H_keep Z d) (okE_cons (ok_L_giveBack Z (d + 1)) okE_nil))))))) (ex_n hn) ?_
      simp (maxSteps := 3000000) (disch := first | exact True.intro | assumption | omega) only [↓run, ↓go, ↓jmp, seek, inS, ↓e0, ↓e1, ↓e2, ↓e3, ↓e4, ↓e5, ↓tsw, ↓e7, ↓e8, ↓e9, ↓e10, ↓e11, ↓e12, ↓splitA, rcv, clook, lget, lset, lset2, lkill, Option.toList, List.nil_append, List.cons_append, wsum, List.map_cons, List.map_nil, List.sum_cons, List.sum_nil, Value.category, Nat.reduceAdd, List.getD_cons_zero, List.getD_cons_succ, ↓reduceIte, if_true, if_false, Bool.false_eq_true, Nat.reduceLeDiff, Nat.reduceEqDiff, true_or, or_true, true_and, and_true, and_self, or_self, not_true, not_false_iff, mR_stI, mN_stI, isO_stI, isA_stI, mI_stI, mR_mW, mN_mW, isO_mW, isA_mW, mI_mW, mW_mW, stI_mW, nI_addL, nI_mulL, nI_subL, nI_ltL, nI_leL, nI_Llt, nI_Lle, nI_eqL, nI_Leq, nI_add, pk_mul, nI_ltI, nI_leI, nI_eq, vpi, nI_clamp, nI_toN, bk_oB hB, bk_oV hB, bk_oH hB, bk_b0 hB, bk_b1 hB, bk_b2 hB, bk_b3 hB, bk_b4 hB, bk_b5 hB, bk_v0 hB, bk_v1 hB, bk_h0 hB, nw_o hB, nw_og hB, nw_od hB, nw_ot hB, nw_r9 hB, nw_r10 hB, nw_r11 hB, nw_r0 hB, nw_r1 hB, nw_r2 hB, nw_r3 hB, nw_r4 hB, nw_r5 hB, nw_r6 hB, nw_r7 hB, nw_r8 hB, nw_a1 hB, nw_a2 hB, nw_a3 hB, nw_a4 hB, nw_a5 hB, nw_a6 hB, nw_a7 hB, nw_a8 hB, nw_a9 hB, nw_a14 hB, nw_as hB, nw_at hB, bk_oB hB2, bk_oV hB2, bk_oH hB2, bk_b0 hB2, bk_b1 hB2, bk_b2 hB2, bk_b3 hB2, bk_b4 hB2, bk_b5 hB2, bk_v0 hB2, bk_v1 hB2, bk_h0 hB2, nw_o hB2, nw_og hB2, nw_od hB2, nw_ot hB2, nw_r9 hB2, nw_r10 hB2, nw_r11 hB2, nw_r0 hB2, nw_r1 hB2, nw_r2 hB2, nw_r3 hB2, nw_r4 hB2, nw_r5 hB2, nw_r6 hB2, nw_r7 hB2, nw_r8 hB2, nw_a1 hB2, nw_a2 hB2, nw_a3 hB2, nw_a4 hB2, nw_a5 hB2, nw_a6 hB2, nw_a7 hB2, nw_a8 hB2, nw_a9 hB2, nw_a14 hB2, nw_as hB2, nw_at hB2, vR, vT, Nat.not_lt_zero, bv_Tr, bv_Fa, one_n0, eq_self, Nat.zero_le, and_true, true_and, and_false, false_and, not_true, not_false_iff, or_true, true_or, or_false, false_or, mN_mRW, ex_iff, p_B_repay, i_L_hasTenant, i_B_isResource, i_B_within, i_B_slot, i_L_freePart, i_H_keep, i_L_giveBack, pc_L_hasTenant (b := 20) (M := M) ⟨hL, hD⟩, pc_B_isResource, pc_B_within, hfp, pc_B_slot, hkp, hgb, w1, h5, hk, hi, g1, g2]
  · rw [show rpR (mI M) t r n = _ from if_neg hv, show rpM M t r n = _ from if_neg hv]
    refine Gm_run (S := [32]) [some (.ref 16), some (.int t), some (.int r), some (.int n), none] 100 k_B_repay (okE_cons (ok_L_hasTenant Z (d + 3)) (okE_cons (ok_B_isResource Z (d + 3)) (okE_cons (ok_B_within Z (d + 3)) (okE_cons (ok_B_slot Z (d + 3)) (okE_cons (ok_L_freePart Z (d + 2)) (okE_cons (ok_H_keep Z d) (okE_cons (ok_L_giveBack Z (d + 1)) okE_nil))))))) (ex_n rfl) ?_
    simp (maxSteps := 3000000) (disch := first | exact True.intro | assumption | omega) only [↓run, ↓go, ↓jmp, seek, inS, ↓e0, ↓e1, ↓e2, ↓e3, ↓e4, ↓e5, ↓tsw, ↓e7, ↓e8, ↓e9, ↓e10, ↓e11, ↓e12, ↓splitA, rcv, clook, lget, lset, lset2, lkill, Option.toList, List.nil_append, List.cons_append, wsum, List.map_cons, List.map_nil, List.sum_cons, List.sum_nil, Value.category, Nat.reduceAdd, List.getD_cons_zero, List.getD_cons_succ, ↓reduceIte, if_true, if_false, Bool.false_eq_true, Nat.reduceLeDiff, Nat.reduceEqDiff, true_or, or_true, true_and, and_true, and_self, or_self, not_true, not_false_iff, mR_stI, mN_stI, isO_stI, isA_stI, mI_stI, mR_mW, mN_mW, isO_mW, isA_mW, mI_mW, mW_mW, stI_mW, nI_addL, nI_mulL, nI_subL, nI_ltL, nI_leL, nI_Llt, nI_Lle, nI_eqL, nI_Leq, nI_add, pk_mul, nI_ltI, nI_leI, nI_eq, vpi, nI_clamp, nI_toN, bk_oB hB, bk_oV hB, bk_oH hB, bk_b0 hB, bk_b1 hB, bk_b2 hB, bk_b3 hB, bk_b4 hB, bk_b5 hB, bk_v0 hB, bk_v1 hB, bk_h0 hB, nw_o hB, nw_og hB, nw_od hB, nw_ot hB, nw_r9 hB, nw_r10 hB, nw_r11 hB, nw_r0 hB, nw_r1 hB, nw_r2 hB, nw_r3 hB, nw_r4 hB, nw_r5 hB, nw_r6 hB, nw_r7 hB, nw_r8 hB, nw_a1 hB, nw_a2 hB, nw_a3 hB, nw_a4 hB, nw_a5 hB, nw_a6 hB, nw_a7 hB, nw_a8 hB, nw_a9 hB, nw_a14 hB, nw_as hB, nw_at hB, vR, vT, Nat.not_lt_zero, bv_Tr, bv_Fa, one_n0, eq_self, Nat.zero_le, and_true, true_and, and_false, false_and, not_true, not_false_iff, or_true, true_or, or_false, false_or, mN_mRW, ex_iff, p_B_repay, i_L_hasTenant, i_B_isResource, i_B_within, i_B_slot, i_L_freePart, i_H_keep, i_L_giveBack, pc_L_hasTenant (b := 20) (M := M) ⟨hL, hD⟩, pc_B_isResource, pc_B_within, bv_0, ite_nt, ite_self]
    repeat' (first | exact True.intro | exact absurd ⟨by assumption, by assumption, by assumption⟩ hv | split)
end
