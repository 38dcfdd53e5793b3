section
-- ===== PART A: goes FIRST, ahead of the names: the tables' words, and 'selects' of the private methods out of them =====
/-- a private method of a class that the tables say can be made, by its rows of tables_1 -/
def lw_okq (q : MethodName × Nat) : Prop := (q.1.cls ≠ "java/lang/invoke/MethodHandle" ∧ q.1.cls ≠ "java/lang/invoke/VarHandle") ∧ Cond.instantiable q.1.cls q.2 ∈ tables_1 ∧ Cond.privateMethod q.1 ∈ tables_1 ∧ Cond.instanceMethod q.1 ∈ tables_1
theorem lw_p0 : lw_okq (⟨"LimitBank$VectorText", "afterBlanks", "(I)I"⟩, 3) := ⟨⟨by decide +kernel, by decide +kernel⟩, List.mem_of_getElem? (i := 22) (by decide +kernel), List.mem_of_getElem? (i := 202) (by decide +kernel), List.mem_of_getElem? (i := 203) (by decide +kernel)⟩
theorem lw_p1 : lw_okq (⟨"LimitBank$VectorText", "byteAt", "(I)I"⟩, 3) := ⟨⟨by decide +kernel, by decide +kernel⟩, List.mem_of_getElem? (i := 22) (by decide +kernel), List.mem_of_getElem? (i := 206) (by decide +kernel), List.mem_of_getElem? (i := 207) (by decide +kernel)⟩
theorem lw_p2 : lw_okq (⟨"LimitBank$VectorText", "afterLetters", "(I)I"⟩, 3) := ⟨⟨by decide +kernel, by decide +kernel⟩, List.mem_of_getElem? (i := 22) (by decide +kernel), List.mem_of_getElem? (i := 211) (by decide +kernel), List.mem_of_getElem? (i := 212) (by decide +kernel)⟩
theorem lw_p3 : lw_okq (⟨"LimitBank$VectorText", "nameBetween", "(II)I"⟩, 3) := ⟨⟨by decide +kernel, by decide +kernel⟩, List.mem_of_getElem? (i := 22) (by decide +kernel), List.mem_of_getElem? (i := 216) (by decide +kernel), List.mem_of_getElem? (i := 217) (by decide +kernel)⟩
theorem lw_p4 : lw_okq (⟨"LimitBank$VectorText", "isBetween", "(Ljava/lang/String;II)Z"⟩, 3) := ⟨⟨by decide +kernel, by decide +kernel⟩, List.mem_of_getElem? (i := 22) (by decide +kernel), List.mem_of_getElem? (i := 227) (by decide +kernel), List.mem_of_getElem? (i := 228) (by decide +kernel)⟩
theorem lw_p5 : lw_okq (⟨"LimitBank$VectorText", "isDigit", "(I)Z"⟩, 3) := ⟨⟨by decide +kernel, by decide +kernel⟩, List.mem_of_getElem? (i := 22) (by decide +kernel), List.mem_of_getElem? (i := 279) (by decide +kernel), List.mem_of_getElem? (i := 280) (by decide +kernel)⟩
theorem lw_p6 : lw_okq (⟨"LimitBank$VectorText", "numberBetween", "(II)I"⟩, 3) := ⟨⟨by decide +kernel, by decide +kernel⟩, List.mem_of_getElem? (i := 22) (by decide +kernel), List.mem_of_getElem? (i := 283) (by decide +kernel), List.mem_of_getElem? (i := 284) (by decide +kernel)⟩
theorem lw_p7 : lw_okq (⟨"LimitBank$History", "dropOldest", "()V"⟩, 2) := ⟨⟨by decide +kernel, by decide +kernel⟩, List.mem_of_getElem? (i := 141) (by decide +kernel), List.mem_of_getElem? (i := 300) (by decide +kernel), List.mem_of_getElem? (i := 301) (by decide +kernel)⟩
theorem lw_p8 : lw_okq (⟨"LimitBank$Ledger", "fits", "(I)Z"⟩, 18) := ⟨⟨by decide +kernel, by decide +kernel⟩, List.mem_of_getElem? (i := 42) (by decide +kernel), List.mem_of_getElem? (i := 398) (by decide +kernel), List.mem_of_getElem? (i := 399) (by decide +kernel)⟩
theorem lw_p9 : lw_okq (⟨"LimitBank$Ledger", "addUse", "(LLimitBank$Claims;II)V"⟩, 18) := ⟨⟨by decide +kernel, by decide +kernel⟩, List.mem_of_getElem? (i := 42) (by decide +kernel), List.mem_of_getElem? (i := 418) (by decide +kernel), List.mem_of_getElem? (i := 419) (by decide +kernel)⟩
theorem lw_p10 : lw_okq (⟨"LimitBank$Ledger", "isSolvent", "(I)Z"⟩, 18) := ⟨⟨by decide +kernel, by decide +kernel⟩, List.mem_of_getElem? (i := 42) (by decide +kernel), List.mem_of_getElem? (i := 497) (by decide +kernel), List.mem_of_getElem? (i := 498) (by decide +kernel)⟩
theorem lw_p11 : lw_okq (⟨"LimitBank$Ledger", "rentOf", "(I)I"⟩, 18) := ⟨⟨by decide +kernel, by decide +kernel⟩, List.mem_of_getElem? (i := 42) (by decide +kernel), List.mem_of_getElem? (i := 502) (by decide +kernel), List.mem_of_getElem? (i := 503) (by decide +kernel)⟩
theorem lw_p12 : lw_okq (⟨"LimitBank$Ledger", "bankrupt", "(I)V"⟩, 18) := ⟨⟨by decide +kernel, by decide +kernel⟩, List.mem_of_getElem? (i := 42) (by decide +kernel), List.mem_of_getElem? (i := 510) (by decide +kernel), List.mem_of_getElem? (i := 511) (by decide +kernel)⟩
theorem lw_p13 : lw_okq (⟨"LimitBank$Ledger", "redeemFirst", "()V"⟩, 18) := ⟨⟨by decide +kernel, by decide +kernel⟩, List.mem_of_getElem? (i := 42) (by decide +kernel), List.mem_of_getElem? (i := 520) (by decide +kernel), List.mem_of_getElem? (i := 521) (by decide +kernel)⟩
theorem lw_p14 : lw_okq (⟨"LimitBank", "makePlan", "()I"⟩, 6) := ⟨⟨by decide +kernel, by decide +kernel⟩, List.mem_of_getElem? (i := 14) (by decide +kernel), List.mem_of_getElem? (i := 567) (by decide +kernel), List.mem_of_getElem? (i := 568) (by decide +kernel)⟩
theorem lw_p15 : lw_okq (⟨"LimitBank", "foretellRuins", "()V"⟩, 6) := ⟨⟨by decide +kernel, by decide +kernel⟩, List.mem_of_getElem? (i := 14) (by decide +kernel), List.mem_of_getElem? (i := 580) (by decide +kernel), List.mem_of_getElem? (i := 581) (by decide +kernel)⟩
def lw_privs_1 : List (MethodName × Nat) := [(⟨"LimitBank$VectorText", "afterBlanks", "(I)I"⟩, 3), (⟨"LimitBank$VectorText", "byteAt", "(I)I"⟩, 3), (⟨"LimitBank$VectorText", "afterLetters", "(I)I"⟩, 3), (⟨"LimitBank$VectorText", "nameBetween", "(II)I"⟩, 3), (⟨"LimitBank$VectorText", "isBetween", "(Ljava/lang/String;II)Z"⟩, 3), (⟨"LimitBank$VectorText", "isDigit", "(I)Z"⟩, 3), (⟨"LimitBank$VectorText", "numberBetween", "(II)I"⟩, 3), (⟨"LimitBank$History", "dropOldest", "()V"⟩, 2), (⟨"LimitBank$Ledger", "fits", "(I)Z"⟩, 18), (⟨"LimitBank$Ledger", "addUse", "(LLimitBank$Claims;II)V"⟩, 18), (⟨"LimitBank$Ledger", "isSolvent", "(I)Z"⟩, 18), (⟨"LimitBank$Ledger", "rentOf", "(I)I"⟩, 18), (⟨"LimitBank$Ledger", "bankrupt", "(I)V"⟩, 18), (⟨"LimitBank$Ledger", "redeemFirst", "()V"⟩, 18), (⟨"LimitBank", "makePlan", "()I"⟩, 6), (⟨"LimitBank", "foretellRuins", "()V"⟩, 6)]
theorem lw_r1 : ∀ q ∈ lw_privs_1, lw_okq q := List.forall_mem_cons.mpr ⟨lw_p0, List.forall_mem_cons.mpr ⟨lw_p1, List.forall_mem_cons.mpr ⟨lw_p2, List.forall_mem_cons.mpr ⟨lw_p3, List.forall_mem_cons.mpr ⟨lw_p4, List.forall_mem_cons.mpr ⟨lw_p5, List.forall_mem_cons.mpr ⟨lw_p6, List.forall_mem_cons.mpr ⟨lw_p7, List.forall_mem_cons.mpr ⟨lw_p8, List.forall_mem_cons.mpr ⟨lw_p9, List.forall_mem_cons.mpr ⟨lw_p10, List.forall_mem_cons.mpr ⟨lw_p11, List.forall_mem_cons.mpr ⟨lw_p12, List.forall_mem_cons.mpr ⟨lw_p13, List.forall_mem_cons.mpr ⟨lw_p14, List.forall_mem_cons.mpr ⟨lw_p15, fun _ h => absurd h List.not_mem_nil⟩⟩⟩⟩⟩⟩⟩⟩⟩⟩⟩⟩⟩⟩⟩⟩
theorem lw_p16 : lw_okq (⟨"LimitBank", "noteRuins", "(I)I"⟩, 6) := ⟨⟨by decide +kernel, by decide +kernel⟩, List.mem_of_getElem? (i := 14) (by decide +kernel), List.mem_of_getElem? (i := 584) (by decide +kernel), List.mem_of_getElem? (i := 585) (by decide +kernel)⟩
theorem lw_p17 : lw_okq (⟨"LimitBank", "withTenant", "(JI)J"⟩, 6) := ⟨⟨by decide +kernel, by decide +kernel⟩, List.mem_of_getElem? (i := 14) (by decide +kernel), List.mem_of_getElem? (i := 600) (by decide +kernel), List.mem_of_getElem? (i := 601) (by decide +kernel)⟩
theorem lw_p18 : lw_okq (⟨"LimitBank", "withPlan", "(J)J"⟩, 6) := ⟨⟨by decide +kernel, by decide +kernel⟩, List.mem_of_getElem? (i := 14) (by decide +kernel), List.mem_of_getElem? (i := 610) (by decide +kernel), List.mem_of_getElem? (i := 611) (by decide +kernel)⟩
theorem lw_p19 : lw_okq (⟨"LimitBank", "withText", "(J)J"⟩, 6) := ⟨⟨by decide +kernel, by decide +kernel⟩, List.mem_of_getElem? (i := 14) (by decide +kernel), List.mem_of_getElem? (i := 614) (by decide +kernel), List.mem_of_getElem? (i := 615) (by decide +kernel)⟩
theorem lw_p20 : lw_okq (⟨"LimitBankModel", "reads", "()V"⟩, 11) := ⟨⟨by decide +kernel, by decide +kernel⟩, List.mem_of_getElem? (i := 618) (by decide +kernel), List.mem_of_getElem? (i := 680) (by decide +kernel), List.mem_of_getElem? (i := 681) (by decide +kernel)⟩
theorem lw_p21 : lw_okq (⟨"LimitBankModel", "blanks", "()V"⟩, 11) := ⟨⟨by decide +kernel, by decide +kernel⟩, List.mem_of_getElem? (i := 618) (by decide +kernel), List.mem_of_getElem? (i := 685) (by decide +kernel), List.mem_of_getElem? (i := 686) (by decide +kernel)⟩
theorem lw_p22 : lw_okq (⟨"LimitBankModel", "next", "()I"⟩, 11) := ⟨⟨by decide +kernel, by decide +kernel⟩, List.mem_of_getElem? (i := 618) (by decide +kernel), List.mem_of_getElem? (i := 689) (by decide +kernel), List.mem_of_getElem? (i := 690) (by decide +kernel)⟩
theorem lw_p23 : lw_okq (⟨"LimitBankModel", "name", "()I"⟩, 11) := ⟨⟨by decide +kernel, by decide +kernel⟩, List.mem_of_getElem? (i := 618) (by decide +kernel), List.mem_of_getElem? (i := 693) (by decide +kernel), List.mem_of_getElem? (i := 694) (by decide +kernel)⟩
theorem lw_p24 : lw_okq (⟨"LimitBankModel", "isWord", "(III)Z"⟩, 11) := ⟨⟨by decide +kernel, by decide +kernel⟩, List.mem_of_getElem? (i := 618) (by decide +kernel), List.mem_of_getElem? (i := 698) (by decide +kernel), List.mem_of_getElem? (i := 699) (by decide +kernel)⟩
theorem lw_p25 : lw_okq (⟨"LimitBankModel", "fails", "(I)V"⟩, 11) := ⟨⟨by decide +kernel, by decide +kernel⟩, List.mem_of_getElem? (i := 618) (by decide +kernel), List.mem_of_getElem? (i := 705) (by decide +kernel), List.mem_of_getElem? (i := 706) (by decide +kernel)⟩
theorem lw_p26 : lw_okq (⟨"LimitBankModel", "isDigit", "()Z"⟩, 11) := ⟨⟨by decide +kernel, by decide +kernel⟩, List.mem_of_getElem? (i := 618) (by decide +kernel), List.mem_of_getElem? (i := 709) (by decide +kernel), List.mem_of_getElem? (i := 710) (by decide +kernel)⟩
theorem lw_p27 : lw_okq (⟨"LimitBankModel", "use", "(II)I"⟩, 11) := ⟨⟨by decide +kernel, by decide +kernel⟩, List.mem_of_getElem? (i := 618) (by decide +kernel), List.mem_of_getElem? (i := 720) (by decide +kernel), List.mem_of_getElem? (i := 721) (by decide +kernel)⟩
theorem lw_p28 : lw_okq (⟨"LimitBankModel", "grantOf", "(II)I"⟩, 11) := ⟨⟨by decide +kernel, by decide +kernel⟩, List.mem_of_getElem? (i := 618) (by decide +kernel), List.mem_of_getElem? (i := 724) (by decide +kernel), List.mem_of_getElem? (i := 725) (by decide +kernel)⟩
theorem lw_p29 : lw_okq (⟨"LimitBankModel", "keeps", "()V"⟩, 11) := ⟨⟨by decide +kernel, by decide +kernel⟩, List.mem_of_getElem? (i := 618) (by decide +kernel), List.mem_of_getElem? (i := 728) (by decide +kernel), List.mem_of_getElem? (i := 729) (by decide +kernel)⟩
theorem lw_p30 : lw_okq (⟨"LimitBankModel", "isTenant", "(I)Z"⟩, 11) := ⟨⟨by decide +kernel, by decide +kernel⟩, List.mem_of_getElem? (i := 618) (by decide +kernel), List.mem_of_getElem? (i := 744) (by decide +kernel), List.mem_of_getElem? (i := 745) (by decide +kernel)⟩
theorem lw_p31 : lw_okq (⟨"LimitBankModel", "of", "(II)I"⟩, 11) := ⟨⟨by decide +kernel, by decide +kernel⟩, List.mem_of_getElem? (i := 618) (by decide +kernel), List.mem_of_getElem? (i := 748) (by decide +kernel), List.mem_of_getElem? (i := 749) (by decide +kernel)⟩
def lw_privs_2 : List (MethodName × Nat) := [(⟨"LimitBank", "noteRuins", "(I)I"⟩, 6), (⟨"LimitBank", "withTenant", "(JI)J"⟩, 6), (⟨"LimitBank", "withPlan", "(J)J"⟩, 6), (⟨"LimitBank", "withText", "(J)J"⟩, 6), (⟨"LimitBankModel", "reads", "()V"⟩, 11), (⟨"LimitBankModel", "blanks", "()V"⟩, 11), (⟨"LimitBankModel", "next", "()I"⟩, 11), (⟨"LimitBankModel", "name", "()I"⟩, 11), (⟨"LimitBankModel", "isWord", "(III)Z"⟩, 11), (⟨"LimitBankModel", "fails", "(I)V"⟩, 11), (⟨"LimitBankModel", "isDigit", "()Z"⟩, 11), (⟨"LimitBankModel", "use", "(II)I"⟩, 11), (⟨"LimitBankModel", "grantOf", "(II)I"⟩, 11), (⟨"LimitBankModel", "keeps", "()V"⟩, 11), (⟨"LimitBankModel", "isTenant", "(I)Z"⟩, 11), (⟨"LimitBankModel", "of", "(II)I"⟩, 11)]
theorem lw_r2 : ∀ q ∈ lw_privs_2, lw_okq q := List.forall_mem_cons.mpr ⟨lw_p16, List.forall_mem_cons.mpr ⟨lw_p17, List.forall_mem_cons.mpr ⟨lw_p18, List.forall_mem_cons.mpr ⟨lw_p19, List.forall_mem_cons.mpr ⟨lw_p20, List.forall_mem_cons.mpr ⟨lw_p21, List.forall_mem_cons.mpr ⟨lw_p22, List.forall_mem_cons.mpr ⟨lw_p23, List.forall_mem_cons.mpr ⟨lw_p24, List.forall_mem_cons.mpr ⟨lw_p25, List.forall_mem_cons.mpr ⟨lw_p26, List.forall_mem_cons.mpr ⟨lw_p27, List.forall_mem_cons.mpr ⟨lw_p28, List.forall_mem_cons.mpr ⟨lw_p29, List.forall_mem_cons.mpr ⟨lw_p30, List.forall_mem_cons.mpr ⟨lw_p31, fun _ h => absurd h List.not_mem_nil⟩⟩⟩⟩⟩⟩⟩⟩⟩⟩⟩⟩⟩⟩⟩⟩
theorem lw_p32 : lw_okq (⟨"LimitBankModel", "firstOf", "(I)I"⟩, 11) := ⟨⟨by decide +kernel, by decide +kernel⟩, List.mem_of_getElem? (i := 618) (by decide +kernel), List.mem_of_getElem? (i := 764) (by decide +kernel), List.mem_of_getElem? (i := 765) (by decide +kernel)⟩
theorem lw_p33 : lw_okq (⟨"LimitBankModel", "demandOf", "(II)I"⟩, 11) := ⟨⟨by decide +kernel, by decide +kernel⟩, List.mem_of_getElem? (i := 618) (by decide +kernel), List.mem_of_getElem? (i := 768) (by decide +kernel), List.mem_of_getElem? (i := 769) (by decide +kernel)⟩
theorem lw_p34 : lw_okq (⟨"LimitBankModel", "leavesDemand", "(I)V"⟩, 11) := ⟨⟨by decide +kernel, by decide +kernel⟩, List.mem_of_getElem? (i := 618) (by decide +kernel), List.mem_of_getElem? (i := 772) (by decide +kernel), List.mem_of_getElem? (i := 773) (by decide +kernel)⟩
theorem lw_p35 : lw_okq (⟨"LimitBankModel", "nextDemand", "()I"⟩, 11) := ⟨⟨by decide +kernel, by decide +kernel⟩, List.mem_of_getElem? (i := 618) (by decide +kernel), List.mem_of_getElem? (i := 780) (by decide +kernel), List.mem_of_getElem? (i := 781) (by decide +kernel)⟩
theorem lw_p36 : lw_okq (⟨"LimitBankModel", "fits", "(I)Z"⟩, 11) := ⟨⟨by decide +kernel, by decide +kernel⟩, List.mem_of_getElem? (i := 618) (by decide +kernel), List.mem_of_getElem? (i := 784) (by decide +kernel), List.mem_of_getElem? (i := 785) (by decide +kernel)⟩
theorem lw_p37 : lw_okq (⟨"LimitBankModel", "free", "(II)I"⟩, 11) := ⟨⟨by decide +kernel, by decide +kernel⟩, List.mem_of_getElem? (i := 618) (by decide +kernel), List.mem_of_getElem? (i := 788) (by decide +kernel), List.mem_of_getElem? (i := 789) (by decide +kernel)⟩
theorem lw_p38 : lw_okq (⟨"LimitBankModel", "share", "(I)I"⟩, 11) := ⟨⟨by decide +kernel, by decide +kernel⟩, List.mem_of_getElem? (i := 618) (by decide +kernel), List.mem_of_getElem? (i := 792) (by decide +kernel), List.mem_of_getElem? (i := 793) (by decide +kernel)⟩
theorem lw_p39 : lw_okq (⟨"LimitBankModel", "grants", "(I)I"⟩, 11) := ⟨⟨by decide +kernel, by decide +kernel⟩, List.mem_of_getElem? (i := 618) (by decide +kernel), List.mem_of_getElem? (i := 796) (by decide +kernel), List.mem_of_getElem? (i := 797) (by decide +kernel)⟩
theorem lw_p40 : lw_okq (⟨"LimitBankModel", "placeOf", "(I)I"⟩, 11) := ⟨⟨by decide +kernel, by decide +kernel⟩, List.mem_of_getElem? (i := 618) (by decide +kernel), List.mem_of_getElem? (i := 808) (by decide +kernel), List.mem_of_getElem? (i := 809) (by decide +kernel)⟩
theorem lw_p41 : lw_okq (⟨"LimitBankModel", "leavesGrant", "(I)V"⟩, 11) := ⟨⟨by decide +kernel, by decide +kernel⟩, List.mem_of_getElem? (i := 618) (by decide +kernel), List.mem_of_getElem? (i := 812) (by decide +kernel), List.mem_of_getElem? (i := 813) (by decide +kernel)⟩
theorem lw_p42 : lw_okq (⟨"LimitBankModel", "price", "(I)I"⟩, 11) := ⟨⟨by decide +kernel, by decide +kernel⟩, List.mem_of_getElem? (i := 618) (by decide +kernel), List.mem_of_getElem? (i := 820) (by decide +kernel), List.mem_of_getElem? (i := 821) (by decide +kernel)⟩
theorem lw_p43 : lw_okq (⟨"LimitBankModel", "adds", "(III)V"⟩, 11) := ⟨⟨by decide +kernel, by decide +kernel⟩, List.mem_of_getElem? (i := 618) (by decide +kernel), List.mem_of_getElem? (i := 824) (by decide +kernel), List.mem_of_getElem? (i := 825) (by decide +kernel)⟩
theorem lw_p44 : lw_okq (⟨"LimitBankModel", "comesToFund", "(II)V"⟩, 11) := ⟨⟨by decide +kernel, by decide +kernel⟩, List.mem_of_getElem? (i := 618) (by decide +kernel), List.mem_of_getElem? (i := 828) (by decide +kernel), List.mem_of_getElem? (i := 829) (by decide +kernel)⟩
theorem lw_p45 : lw_okq (⟨"LimitBankModel", "loans", "(I)I"⟩, 11) := ⟨⟨by decide +kernel, by decide +kernel⟩, List.mem_of_getElem? (i := 618) (by decide +kernel), List.mem_of_getElem? (i := 839) (by decide +kernel), List.mem_of_getElem? (i := 840) (by decide +kernel)⟩
theorem lw_p46 : lw_okq (⟨"LimitBankModel", "tick", "()V"⟩, 11) := ⟨⟨by decide +kernel, by decide +kernel⟩, List.mem_of_getElem? (i := 618) (by decide +kernel), List.mem_of_getElem? (i := 851) (by decide +kernel), List.mem_of_getElem? (i := 852) (by decide +kernel)⟩
theorem lw_p47 : lw_okq (⟨"LimitBankModel", "goesBankrupt", "(I)V"⟩, 11) := ⟨⟨by decide +kernel, by decide +kernel⟩, List.mem_of_getElem? (i := 618) (by decide +kernel), List.mem_of_getElem? (i := 855) (by decide +kernel), List.mem_of_getElem? (i := 856) (by decide +kernel)⟩
def lw_privs_3 : List (MethodName × Nat) := [(⟨"LimitBankModel", "firstOf", "(I)I"⟩, 11), (⟨"LimitBankModel", "demandOf", "(II)I"⟩, 11), (⟨"LimitBankModel", "leavesDemand", "(I)V"⟩, 11), (⟨"LimitBankModel", "nextDemand", "()I"⟩, 11), (⟨"LimitBankModel", "fits", "(I)Z"⟩, 11), (⟨"LimitBankModel", "free", "(II)I"⟩, 11), (⟨"LimitBankModel", "share", "(I)I"⟩, 11), (⟨"LimitBankModel", "grants", "(I)I"⟩, 11), (⟨"LimitBankModel", "placeOf", "(I)I"⟩, 11), (⟨"LimitBankModel", "leavesGrant", "(I)V"⟩, 11), (⟨"LimitBankModel", "price", "(I)I"⟩, 11), (⟨"LimitBankModel", "adds", "(III)V"⟩, 11), (⟨"LimitBankModel", "comesToFund", "(II)V"⟩, 11), (⟨"LimitBankModel", "loans", "(I)I"⟩, 11), (⟨"LimitBankModel", "tick", "()V"⟩, 11), (⟨"LimitBankModel", "goesBankrupt", "(I)V"⟩, 11)]
theorem lw_r3 : ∀ q ∈ lw_privs_3, lw_okq q := List.forall_mem_cons.mpr ⟨lw_p32, List.forall_mem_cons.mpr ⟨lw_p33, List.forall_mem_cons.mpr ⟨lw_p34, List.forall_mem_cons.mpr ⟨lw_p35, List.forall_mem_cons.mpr ⟨lw_p36, List.forall_mem_cons.mpr ⟨lw_p37, List.forall_mem_cons.mpr ⟨lw_p38, List.forall_mem_cons.mpr ⟨lw_p39, List.forall_mem_cons.mpr ⟨lw_p40, List.forall_mem_cons.mpr ⟨lw_p41, List.forall_mem_cons.mpr ⟨lw_p42, List.forall_mem_cons.mpr ⟨lw_p43, List.forall_mem_cons.mpr ⟨lw_p44, List.forall_mem_cons.mpr ⟨lw_p45, List.forall_mem_cons.mpr ⟨lw_p46, List.forall_mem_cons.mpr ⟨lw_p47, fun _ h => absurd h List.not_mem_nil⟩⟩⟩⟩⟩⟩⟩⟩⟩⟩⟩⟩⟩⟩⟩⟩
theorem lw_p48 : lw_okq (⟨"LimitBankModel", "sums", "(II)I"⟩, 11) := ⟨⟨by decide +kernel, by decide +kernel⟩, List.mem_of_getElem? (i := 618) (by decide +kernel), List.mem_of_getElem? (i := 863) (by decide +kernel), List.mem_of_getElem? (i := 864) (by decide +kernel)⟩
theorem lw_p49 : lw_okq (⟨"LimitBankModel", "grantsOf", "(I)I"⟩, 11) := ⟨⟨by decide +kernel, by decide +kernel⟩, List.mem_of_getElem? (i := 618) (by decide +kernel), List.mem_of_getElem? (i := 871) (by decide +kernel), List.mem_of_getElem? (i := 872) (by decide +kernel)⟩
theorem lw_p50 : lw_okq (⟨"LimitBankModel", "demandsOf", "(I)I"⟩, 11) := ⟨⟨by decide +kernel, by decide +kernel⟩, List.mem_of_getElem? (i := 618) (by decide +kernel), List.mem_of_getElem? (i := 875) (by decide +kernel), List.mem_of_getElem? (i := 876) (by decide +kernel)⟩
theorem lw_p51 : lw_okq (⟨"LimitBankModel", "placeInQueue", "(I)I"⟩, 11) := ⟨⟨by decide +kernel, by decide +kernel⟩, List.mem_of_getElem? (i := 618) (by decide +kernel), List.mem_of_getElem? (i := 879) (by decide +kernel), List.mem_of_getElem? (i := 880) (by decide +kernel)⟩
theorem lw_p52 : lw_okq (⟨"LimitBankModel", "plans", "()I"⟩, 11) := ⟨⟨by decide +kernel, by decide +kernel⟩, List.mem_of_getElem? (i := 618) (by decide +kernel), List.mem_of_getElem? (i := 899) (by decide +kernel), List.mem_of_getElem? (i := 900) (by decide +kernel)⟩
theorem lw_p53 : lw_okq (⟨"LimitBankModel", "keepsAside", "()V"⟩, 11) := ⟨⟨by decide +kernel, by decide +kernel⟩, List.mem_of_getElem? (i := 618) (by decide +kernel), List.mem_of_getElem? (i := 903) (by decide +kernel), List.mem_of_getElem? (i := 904) (by decide +kernel)⟩
theorem lw_p54 : lw_okq (⟨"LimitBankModel", "returns", "()V"⟩, 11) := ⟨⟨by decide +kernel, by decide +kernel⟩, List.mem_of_getElem? (i := 618) (by decide +kernel), List.mem_of_getElem? (i := 907) (by decide +kernel), List.mem_of_getElem? (i := 908) (by decide +kernel)⟩
theorem lw_p55 : lw_okq (⟨"LimitBankModel", "worthOf", "(II)I"⟩, 11) := ⟨⟨by decide +kernel, by decide +kernel⟩, List.mem_of_getElem? (i := 618) (by decide +kernel), List.mem_of_getElem? (i := 915) (by decide +kernel), List.mem_of_getElem? (i := 916) (by decide +kernel)⟩
theorem lw_p56 : lw_okq (⟨"LimitBankModel", "ruinOf", "(I)I"⟩, 11) := ⟨⟨by decide +kernel, by decide +kernel⟩, List.mem_of_getElem? (i := 618) (by decide +kernel), List.mem_of_getElem? (i := 923) (by decide +kernel), List.mem_of_getElem? (i := 924) (by decide +kernel)⟩
theorem lw_p57 : lw_okq (⟨"LimitBankModel", "hasFailed", "(I)Z"⟩, 11) := ⟨⟨by decide +kernel, by decide +kernel⟩, List.mem_of_getElem? (i := 618) (by decide +kernel), List.mem_of_getElem? (i := 927) (by decide +kernel), List.mem_of_getElem? (i := 928) (by decide +kernel)⟩
theorem lw_p58 : lw_okq (⟨"LimitBankModel", "mixes", "(I)V"⟩, 11) := ⟨⟨by decide +kernel, by decide +kernel⟩, List.mem_of_getElem? (i := 618) (by decide +kernel), List.mem_of_getElem? (i := 941) (by decide +kernel), List.mem_of_getElem? (i := 942) (by decide +kernel)⟩
theorem lw_p59 : lw_okq (⟨"LimitBankModel", "mixesTenant", "(I)V"⟩, 11) := ⟨⟨by decide +kernel, by decide +kernel⟩, List.mem_of_getElem? (i := 618) (by decide +kernel), List.mem_of_getElem? (i := 947) (by decide +kernel), List.mem_of_getElem? (i := 948) (by decide +kernel)⟩
def lw_privs_4 : List (MethodName × Nat) := [(⟨"LimitBankModel", "sums", "(II)I"⟩, 11), (⟨"LimitBankModel", "grantsOf", "(I)I"⟩, 11), (⟨"LimitBankModel", "demandsOf", "(I)I"⟩, 11), (⟨"LimitBankModel", "placeInQueue", "(I)I"⟩, 11), (⟨"LimitBankModel", "plans", "()I"⟩, 11), (⟨"LimitBankModel", "keepsAside", "()V"⟩, 11), (⟨"LimitBankModel", "returns", "()V"⟩, 11), (⟨"LimitBankModel", "worthOf", "(II)I"⟩, 11), (⟨"LimitBankModel", "ruinOf", "(I)I"⟩, 11), (⟨"LimitBankModel", "hasFailed", "(I)Z"⟩, 11), (⟨"LimitBankModel", "mixes", "(I)V"⟩, 11), (⟨"LimitBankModel", "mixesTenant", "(I)V"⟩, 11)]
theorem lw_r4 : ∀ q ∈ lw_privs_4, lw_okq q := List.forall_mem_cons.mpr ⟨lw_p48, List.forall_mem_cons.mpr ⟨lw_p49, List.forall_mem_cons.mpr ⟨lw_p50, List.forall_mem_cons.mpr ⟨lw_p51, List.forall_mem_cons.mpr ⟨lw_p52, List.forall_mem_cons.mpr ⟨lw_p53, List.forall_mem_cons.mpr ⟨lw_p54, List.forall_mem_cons.mpr ⟨lw_p55, List.forall_mem_cons.mpr ⟨lw_p56, List.forall_mem_cons.mpr ⟨lw_p57, List.forall_mem_cons.mpr ⟨lw_p58, List.forall_mem_cons.mpr ⟨lw_p59, fun _ h => absurd h List.not_mem_nil⟩⟩⟩⟩⟩⟩⟩⟩⟩⟩⟩⟩
def lw_privs : List (MethodName × Nat) := lw_privs_1 ++ (lw_privs_2 ++ (lw_privs_3 ++ (lw_privs_4)))
def lw_tbl : List Cond := k2_sels lw_privs ++ tables_1
theorem lw_privs_ok : ∀ q ∈ lw_privs, lw_okq q := by
  show ∀ q ∈ lw_privs_1 ++ (lw_privs_2 ++ (lw_privs_3 ++ (lw_privs_4))), lw_okq q
  exact List.forall_mem_append.mpr ⟨lw_r1, List.forall_mem_append.mpr ⟨lw_r2, List.forall_mem_append.mpr ⟨lw_r3, lw_r4⟩⟩⟩
-- ===== end of PART A; then your names; then what follows =====
end
section
/-! ===== the abstract memory: cells are numbered in the order in which they are made; 16 is the first ===== -/
abbrev Mem : Type := Nat × (Nat → Nat → Int32) × (Nat → Nat → Nat) × (Nat → Int64)
def mN (M : Mem) : Nat := M.1
def mI (M : Mem) : Nat → Nat → Int32 := M.2.1
def mR (M : Mem) : Nat → Nat → Nat := M.2.2.1
def mL (M : Mem) : Nat → Int64 := M.2.2.2
def u2 {α : Type} (f : Nat → Nat → α) (a k : Nat) (v : α) : Nat → Nat → α := fun x y => if x = a ∧ y = k then v else f x y
def u1 {α : Type} (f : Nat → α) (a : Nat) (v : α) : Nat → α := fun x => if x = a then v else f x
def stI (M : Mem) (a k : Nat) (v : Int32) : Mem := (M.1, u2 M.2.1 a k v, M.2.2.1, M.2.2.2)
def stR (M : Mem) (a k : Nat) (v : Nat) : Mem := (M.1, M.2.1, u2 M.2.2.1 a k v, M.2.2.2)
def stL (M : Mem) (a : Nat) (v : Int64) : Mem := (M.1, M.2.1, M.2.2.1, u1 M.2.2.2 a v)
/-- a new cell, all zeros -/
def al (M : Mem) : Mem := (M.1 + 1, fun x y => if x = M.1 then 0 else M.2.1 x y, fun x y => if x = M.1 then 0 else M.2.2.1 x y, fun x => if x = M.1 then 0 else M.2.2.2 x)
/-- kinds: (1, n) ints, (2, n) ledgers, (3 + c, n) an object of class c -/
def ledK : List (Nat × Nat) := [(5, 18), (1, 4), (1, 4), (1, 4), (1, 6), (1, 6), (1, 6), (1, 24), (1, 24), (1, 24), (3, 3), (1, 240), (3, 3), (1, 144), (1, 6)]
def kdl : List (Nat × Nat) := [(7, 6), (6, 3), (1, 60), (1, 4)] ++ (ledK ++ (ledK ++ ([(4, 2), (2, 8)] ++ (ledK ++ (ledK ++ (ledK ++ (ledK ++ (ledK ++ (ledK ++ (ledK ++ (ledK ++ [(1, 24), (1, 6), (8, 11), (1, 454), (1, 3632), (1, 454), (1, 60), (1, 4), (1, 40)])))))))))))
def kd (i : Nat) : Nat × Nat := if i < 16 then (0, 0) else kdl.getD (i - 16) (0, 0)
theorem kd_lo {i : Nat} (h : ¬ (kd i).1 = 0) : 16 ≤ i := by
  unfold kd at h
  by_cases q : i < 16
  · rw [if_pos q] at h
    exact absurd rfl h
  · omega
def sl (n : Nat) : Nat := ((List.range (n - 16)).map fun j => (kd (j + 16)).2).sum
theorem sl_succ {n : Nat} (h : 16 ≤ n) : sl (n + 1) = sl n + (kd n).2 := by
  unfold sl
  rw [show n + 1 - 16 = (n - 16) + 1 by omega, List.range_succ, List.map_append, List.sum_append]
  simp [show n - 16 + 16 = n by omega]
theorem sl_mono {a b : Nat} (h : a ≤ b) : sl a ≤ sl b := by
  induction b with
  | zero => rw [Nat.le_zero.mp h]; exact Nat.le_refl _
  | succ b ih =>
    rcases Nat.lt_or_ge a (b + 1) with q | q
    · refine Nat.le_trans (ih (by omega)) ?_
      rcases Nat.lt_or_ge b 16 with z | z
      · have e1 : b - 16 = 0 := by omega
        have e2 : b + 1 - 16 = 0 := by omega
        simp [sl, e1, e2]
      · rw [sl_succ z]; omega
    · rw [show a = b + 1 by omega]; exact Nat.le_refl _
/-! ===== what is given around it: launch, script (address, length, ints), first address, classes, the two array classes, the four texts and their bytes, a static that is only carried ===== -/
abbrev Zt : Type := Launch × (Nat × Nat × (Nat → Int32)) × Nat × va_G × (ClassId × ClassId) × (Nat → Nat) × (Nat → Nat) × Option Nat
def zl (Z : Zt) : Launch := Z.1
def zb (Z : Zt) : Nat := Z.2.1.1
def zn (Z : Zt) : Nat := Z.2.1.2.1
def zx (Z : Zt) : Nat → Int32 := Z.2.1.2.2
def zo (Z : Zt) : Nat := Z.2.2.1
def zD (Z : Zt) : va_G := Z.2.2.2.1
def zcI (Z : Zt) : ClassId := Z.2.2.2.2.1.1
def zcL (Z : Zt) : ClassId := Z.2.2.2.2.1.2
def zK (Z : Zt) : Nat → Nat := Z.2.2.2.2.2.1
def zV (Z : Zt) : Nat → Nat := Z.2.2.2.2.2.2.1
def zF (Z : Zt) : Option Nat := Z.2.2.2.2.2.2.2
/-- the address of a number: 0 null, 1 the script, 2 .. 5 the texts, 6 .. 9 their bytes, 10 what is only carried, from 16 on the cells -/
def rfo (Z : Zt) (i : Nat) : Option Nat := if 16 ≤ i then some (zo Z + (i - 16)) else if i = 1 then some (zb Z) else if 2 ≤ i ∧ i < 6 then some (zK Z (i - 2)) else if 6 ≤ i ∧ i < 10 then some (zV Z (i - 6)) else if i = 10 then zF Z else none
def ad (Z : Zt) (i : Nat) : Value := va_rf (rfo Z i)
def cv (Z : Zt) (v : Value) : Value := match v with
  | .ref i => ad Z i
  | w => w
theorem ad_cell {Z : Zt} {i : Nat} (h : 16 ≤ i) : ad Z i = .ref (zo Z + (i - 16)) := by simp [ad, rfo, h, va_rf]
theorem rfo_cell {Z : Zt} {i : Nat} (h : 16 ≤ i) : rfo Z i = some (zo Z + (i - 16)) := by simp [rfo, h]
theorem ad_or (Z : Zt) (i : Nat) : ad Z i = .null ∨ ∃ a, ad Z i = .ref a := by
  unfold ad
  cases rfo Z i with
  | none => exact Or.inl rfl
  | some a => exact Or.inr ⟨a, rfl⟩
theorem ad_cat (Z : Zt) (i : Nat) : (ad Z i).category = 1 := by
  rcases ad_or Z i with h | ⟨a, h⟩ <;> rw [h] <;> rfl
theorem cv_cat (Z : Zt) (v : Value) : (cv Z v).category = v.category := by
  cases v with
  | ref i => exact ad_cat Z i
  | _ => rfl
def RX0 : String := "LimitBank$Claims"
def TX0 : u_T := fun k => match k with
  | 0 => ("LimitBank$Claims", "cells", "[I", true)
  | 1 => ("LimitBank$Claims", "most", "I", true)
  | _ => ("LimitBank$Claims", "size", "I", false)
def tyX0 : Nat → FieldType := fun k => match k with
  | 0 => .array .int
  | 1 => .int
  | _ => .int
def RX1 : String := "LimitBank$History"
def TX1 : u_T := fun k => match k with
  | 0 => ("LimitBank$History", "states", "[LLimitBank$Ledger;", true)
  | _ => ("LimitBank$History", "size", "I", false)
def tyX1 : Nat → FieldType := fun k => match k with
  | 0 => .array (.object "LimitBank$Ledger")
  | _ => .int
def RX2 : String := "LimitBank$Ledger"
def TX2 : u_T := fun k => match k with
  | 0 => ("LimitBank$Ledger", "capacity", "[I", true)
  | 1 => ("LimitBank$Ledger", "fund", "[I", true)
  | 2 => ("LimitBank$Ledger", "used", "[I", true)
  | 3 => ("LimitBank$Ledger", "weight", "[I", true)
  | 4 => ("LimitBank$Ledger", "points", "[I", true)
  | 5 => ("LimitBank$Ledger", "ruinedAt", "[I", true)
  | 6 => ("LimitBank$Ledger", "limit", "[I", true)
  | 7 => ("LimitBank$Ledger", "loan", "[I", true)
  | 8 => ("LimitBank$Ledger", "usedBy", "[I", true)
  | 9 => ("LimitBank$Ledger", "grants", "LLimitBank$Claims;", true)
  | 10 => ("LimitBank$Ledger", "demands", "LLimitBank$Claims;", true)
  | 11 => ("LimitBank$Ledger", "queue", "[I", true)
  | 12 => ("LimitBank$Ledger", "bankrupts", "I", false)
  | 13 => ("LimitBank$Ledger", "tenants", "I", false)
  | 14 => ("LimitBank$Ledger", "time", "I", false)
  | 15 => ("LimitBank$Ledger", "rest", "I", false)
  | 16 => ("LimitBank$Ledger", "nextNumber", "I", false)
  | _ => ("LimitBank$Ledger", "ruins", "I", false)
def tyX2 : Nat → FieldType := fun k => match k with
  | 0 => .array .int
  | 1 => .array .int
  | 2 => .array .int
  | 3 => .array .int
  | 4 => .array .int
  | 5 => .array .int
  | 6 => .array .int
  | 7 => .array .int
  | 8 => .array .int
  | 9 => .object "LimitBank$Claims"
  | 10 => .object "LimitBank$Claims"
  | 11 => .array .int
  | 12 => .int
  | 13 => .int
  | 14 => .int
  | 15 => .int
  | 16 => .int
  | _ => .int
def RX3 : String := "LimitBank$VectorText"
def TX3 : u_T := fun k => match k with
  | 0 => ("LimitBank$VectorText", "bytes", "[I", true)
  | 1 => ("LimitBank$VectorText", "units", "[I", true)
  | _ => ("LimitBank$VectorText", "length", "I", false)
def tyX3 : Nat → FieldType := fun k => match k with
  | 0 => .array .int
  | 1 => .array .int
  | _ => .int
def RX4 : String := "LimitBank"
def TX4 : u_T := fun k => match k with
  | 0 => ("LimitBank", "text", "LLimitBank$VectorText;", true)
  | 1 => ("LimitBank", "now", "LLimitBank$Ledger;", true)
  | 2 => ("LimitBank", "trial", "LLimitBank$Ledger;", true)
  | 3 => ("LimitBank", "history", "LLimitBank$History;", true)
  | 4 => ("LimitBank", "served", "[I", true)
  | _ => ("LimitBank", "ticksToRuin", "[I", true)
def tyX4 : Nat → FieldType := fun k => match k with
  | 0 => .object "LimitBank$VectorText"
  | 1 => .object "LimitBank$Ledger"
  | 2 => .object "LimitBank$Ledger"
  | 3 => .object "LimitBank$History"
  | 4 => .array .int
  | _ => .array .int
def RX5 : String := "LimitBankModel"
def TX5 : u_T := fun k => match k with
  | 0 => ("LimitBankModel", "m", "[I", true)
  | 1 => ("LimitBankModel", "past", "[I", true)
  | 2 => ("LimitBankModel", "aside", "[I", true)
  | 3 => ("LimitBankModel", "undos", "I", false)
  | 4 => ("LimitBankModel", "text", "[I", true)
  | 5 => ("LimitBankModel", "textLength", "I", false)
  | 6 => ("LimitBankModel", "read", "[I", true)
  | 7 => ("LimitBankModel", "at", "I", false)
  | 8 => ("LimitBankModel", "fault", "I", false)
  | 9 => ("LimitBankModel", "served", "[I", true)
  | _ => ("LimitBankModel", "hash", "J", false)
def tyX5 : Nat → FieldType := fun k => match k with
  | 0 => .array .int
  | 1 => .array .int
  | 2 => .array .int
  | 3 => .int
  | 4 => .array .int
  | 5 => .int
  | 6 => .array .int
  | 7 => .int
  | 8 => .int
  | 9 => .array .int
  | _ => .long
/-- the classes of the cells: claims, history, ledger, text, bank, model -/
def cls : List vw_C := [(RX0, TX0, 3), (RX1, TX1, 2), (RX2, TX2, 18), (RX3, TX3, 3), (RX4, TX4, 6), (RX5, TX5, 11)]
def cnm (ci : Nat) : String := (cls.getD ci ("", TX0, 0)).1
def cT (ci : Nat) : u_T := (cls.getD ci ("", TX0, 0)).2.1
def cW (ci : Nat) : Nat := (cls.getD ci ("", TX0, 0)).2.2
def cty (ci : Nat) : Nat → FieldType := [tyX0, tyX1, tyX2, tyX3, tyX4, tyX5].getD ci tyX0
/-- how a field is kept: 0 an int, 1 a reference, 2 an int that never changes (in mR), 3 a long -/
def fkl : List (List Nat) := [[1, 2, 0], [1, 0], [1, 1, 1, 1, 1, 1, 1, 1, 1, 1, 1, 1, 0, 0, 0, 0, 0, 0], [1, 1, 0], [1, 1, 1, 1, 1, 1], [1, 1, 1, 0, 1, 0, 1, 0, 0, 1, 3]]
def fk (ci k : Nat) : Nat := (fkl.getD ci []).getD k 0
def fv (Z : Zt) (M : Mem) (i ci k : Nat) : Value := if fk ci k = 0 then .int (mI M i k) else if fk ci k = 1 then ad Z (mR M i k) else if fk ci k = 2 then .int (nI (mR M i k)) else .long (mL M i)
def ce (Z : Zt) (M : Mem) (i : Nat) : va_E := if (kd i).1 = 1 then .inl (zcI Z, (kd i).2, .inl (mI M i)) else if (kd i).1 = 2 then .inl (zcL Z, (kd i).2, .inr (.inr (.inr (.inr (fun j => rfo Z (mR M i j)))))) else .inr ((kd i).1 - 3, (List.range (kd i).2).map (fv Z M i ((kd i).1 - 3)))
def wsZ (Z : Zt) (M : Mem) : va_W := (List.range (mN M - 16)).map fun j => (zo Z + j, ce Z M (j + 16))
def Ar (Z : Zt) : Nat → Prop := fun q => zo Z ≤ q
def Rep (Z : Zt) (M : Mem) (H : Heap) : Prop := va_P (zD Z) cls (wsZ Z M) H ∧ H.size = zo Z + (mN M - 16) ∧ 16 ≤ mN M
theorem wsZ_len (Z : Zt) (M : Mem) : (wsZ Z M).length = mN M - 16 := by simp [wsZ]
theorem wsZ_at {Z : Zt} {M : Mem} {i : Nat} (h : 16 ≤ i) (h2 : i < mN M) : (wsZ Z M)[i - 16]? = some (zo Z + (i - 16), ce Z M i) := by
  unfold wsZ
  rw [List.getElem?_map, List.getElem?_range (by omega)]
  simp [show i - 16 + 16 = i by omega]
theorem wsZ_get {Z : Zt} {M : Mem} {k : Nat} {q : Nat × va_E} (h : (wsZ Z M)[k]? = some q) : k < mN M - 16 ∧ q = (zo Z + k, ce Z M (k + 16)) := by
  have hl : k < (wsZ Z M).length := (List.getElem?_eq_some_iff.mp h).1
  rw [wsZ_len] at hl
  have h2 := wsZ_at (Z := Z) (M := M) (i := k + 16) (by omega) (by omega)
  rw [show k + 16 - 16 = k by omega] at h2
  exact ⟨hl, Option.some.inj (h.symm.trans h2)⟩
theorem wsD (Z : Zt) (M : Mem) : va_D (Ar Z) (wsZ Z M) := by
  refine ⟨fun i j p q hi hj e => ?_, fun k q h => ?_⟩
  · obtain ⟨-, rfl⟩ := wsZ_get hi
    obtain ⟨-, rfl⟩ := wsZ_get hj
    simp at e
    exact e
  · obtain ⟨-, rfl⟩ := wsZ_get h
    show zo Z ≤ zo Z + k
    omega
theorem wsZ_set {Z : Zt} {M M' : Mem} {i : Nat} (h : 16 ≤ i) (h2 : i < mN M) (hn : mN M' = mN M) (ho : ∀ j, j ≠ i → ce Z M' j = ce Z M j) : (wsZ Z M).set (i - 16) (zo Z + (i - 16), ce Z M' i) = wsZ Z M' := by
  apply List.ext_getElem?
  intro k
  by_cases hk : k = i - 16
  · subst hk
    rw [List.getElem?_set_self (by rw [wsZ_len]; omega), wsZ_at h (by rw [hn]; exact h2)]
  · rw [List.getElem?_set_ne (fun z => hk z.symm)]
    by_cases hl : k < mN M - 16
    · have a := wsZ_at (Z := Z) (M := M) (i := k + 16) (by omega) (by omega)
      have b := wsZ_at (Z := Z) (M := M') (i := k + 16) (by omega) (by omega)
      rw [show k + 16 - 16 = k by omega] at a b
      rw [a, b, ho _ (by omega)]
    · rw [List.getElem?_eq_none (by rw [wsZ_len]; omega), List.getElem?_eq_none (by rw [wsZ_len]; omega)]
theorem wsZ_push {Z : Zt} {M M' : Mem} (h : 16 ≤ mN M) (hn : mN M' = mN M + 1) (ho : ∀ j, j < mN M → ce Z M' j = ce Z M j) : wsZ Z M ++ [(zo Z + (mN M - 16), ce Z M' (mN M))] = wsZ Z M' := by
  unfold wsZ
  rw [hn, show mN M + 1 - 16 = (mN M - 16) + 1 by omega, List.range_succ, List.map_append]
  congr 1
  · apply List.map_congr_left
    intro j hj
    have := List.mem_range.mp hj
    rw [ho _ (by omega)]
  · simp [show mN M - 16 + 16 = mN M by omega]
theorem ce_stI {Z : Zt} {M : Mem} {i k j : Nat} {v : Int32} (h : j ≠ i) : ce Z (stI M i k v) j = ce Z M j := by
  have e : ∀ y, mI (stI M i k v) j y = mI M j y := fun y => by simp [mI, stI, u2, h]
  have e2 : mI (stI M i k v) j = mI M j := funext e
  have e3 : fv Z (stI M i k v) j = fv Z M j := by
    funext ci y
    unfold fv
    rw [e]
    rfl
  unfold ce
  rw [e2, e3]
  rfl
theorem ce_stR {Z : Zt} {M : Mem} {i k j : Nat} {v : Nat} (h : j ≠ i) : ce Z (stR M i k v) j = ce Z M j := by
  have e : ∀ y, mR (stR M i k v) j y = mR M j y := fun y => by simp [mR, stR, u2, h]
  have e3 : fv Z (stR M i k v) j = fv Z M j := by
    funext ci y
    unfold fv
    rw [e]
    rfl
  unfold ce
  rw [e3]
  simp only [e]
  rfl
theorem ce_stL {Z : Zt} {M : Mem} {i j : Nat} {v : Int64} (h : j ≠ i) : ce Z (stL M i v) j = ce Z M j := by
  have e : mL (stL M i v) j = mL M j := by simp [mL, stL, u1, h]
  have e3 : fv Z (stL M i v) j = fv Z M j := by
    funext ci y
    unfold fv
    rw [e]
    rfl
  unfold ce
  rw [e3]
  rfl
theorem ce_al {Z : Zt} {M : Mem} {j : Nat} (h : j < mN M) : ce Z (al M) j = ce Z M j := by
  have hne : ¬ j = M.1 := Nat.ne_of_lt h
  have e1 : mI (al M) j = mI M j := by funext y; simp [mI, al, hne]
  have e2 : ∀ y, mR (al M) j y = mR M j y := fun y => by simp [mR, al, hne]
  have e4 : mL (al M) j = mL M j := by simp [mL, al, hne]
  have e3 : fv Z (al M) j = fv Z M j := by
    funext ci y
    unfold fv
    rw [e1, e2, e4]
  unfold ce
  rw [e1, e3]
  simp only [e2]
theorem map_set_range {α : Type} (f g : Nat → α) (n k : Nat) (v : α) (hk : g k = v) (ho : ∀ j, j ≠ k → g j = f j) : ((List.range n).map f).set k v = (List.range n).map g := by
  apply List.ext_getElem?
  intro j
  by_cases hj : j = k
  · subst hj
    by_cases hl : j < n
    · rw [List.getElem?_set_self (by simpa using hl), List.getElem?_map, List.getElem?_range hl]
      simp [hk]
    · rw [List.getElem?_eq_none (by simp; omega), List.getElem?_eq_none (by simp; omega)]
  · rw [List.getElem?_set_ne (fun z => hj z.symm), List.getElem?_map, List.getElem?_map]
    by_cases hl : j < n
    · rw [List.getElem?_range hl]
      simp [ho j hj]
    · rw [List.getElem?_eq_none (by simp; omega)]
      rfl
theorem fv_get {Z : Zt} {M : Mem} {i ci n k : Nat} (hk : k < n) : ((List.range n).map (fv Z M i ci))[k]? = some (fv Z M i ci k) := by
  rw [List.getElem?_map, List.getElem?_range hk]
  rfl
theorem fits_ad (Z : Zt) (i : Nat) (ty : FieldType) (h : ty.isReference = true) : fits ty (ad Z i) = true ∧ narrow ty (ad Z i) = ad Z i := by
  rcases ad_or Z i with e | ⟨a, e⟩ <;> rw [e] <;> cases ty <;> first | exact ⟨rfl, rfl⟩ | simp [FieldType.isReference] at h
end
section
/-! ===== the words, and what stays given in every frame ===== -/
def WS : List Cond := lw_tbl.filter goodWord
theorem WS_of {w : Cond} (h : w ∈ lw_tbl) (g : goodWord w = true) : w ∈ WS := List.mem_filter.mpr ⟨h, g⟩
theorem WS_good : ∀ w ∈ WS, goodWord w = true := fun _ h => (List.mem_filter.mp h).2
theorem WS_tbl : ∀ w ∈ WS, w ∈ lw_tbl := fun _ h => (List.mem_filter.mp h).1
def nestL : List (String × Nat × MethodName × String) := [("LimitBank", 9, ⟨"LimitBank$VectorText", "<init>", "()V"⟩, "LimitBank"), ("LimitBank$VectorText", 44, ⟨"LimitBank", "within", "(III)Z"⟩, "LimitBank"), ("LimitBank$Ledger", 59, ⟨"LimitBank", "copy", "([I[I)V"⟩, "LimitBank"), ("LimitBank$Claims", 25, ⟨"LimitBank", "copy", "([I[I)V"⟩, "LimitBank"), ("LimitBank$Claims", 32, ⟨"LimitBank", "within", "(III)Z"⟩, "LimitBank"), ("LimitBank$Ledger", 89, ⟨"LimitBank", "slot", "(II)I"⟩, "LimitBank"), ("LimitBank$Ledger", 82, ⟨"LimitBank", "isResource", "(I)Z"⟩, "LimitBank")]
def nestW (q : String × Nat × MethodName × String) : Cond := .methodLinkNest q.1 q.2.1 q.2.2.1 q.2.2.2
def strL : List (Nat × String) := [(65, "cpu"), (67, "mem"), (69, "net"), (71, "disk")]
def lenL : List Nat := [3, 3, 3, 4]
def bytL : List (List Int32) := [[99, 112, 117], [109, 101, 109], [110, 101, 116], [100, 105, 115, 107]]
def tysZ (Z : Zt) : List (ClassId × FieldType) := [(zcI Z, .int), (zcL Z, .object RX2)]
def GS (Z : Zt) (U : State) : Prop := va_K (zD Z) cls (tysZ Z) U ∧ (∀ q ∈ nestL, va_Nw (nestW q) U) ∧ va_AO RX2 U ∧ (∀ i, i < 4 → vk_R RX3 (strL.getD i (0, "")).1 (strL.getD i (0, "")).2 (zK Z i) U) ∧ vk_S 4 lenL bytL (zK Z) (zV Z) (Ar Z) U U.heap ∧ va_Z "java/lang/String" "COMPACT_STRINGS" "Z" (.int 1) (Ar Z) U U.heap ∧ va_Z "jdk/internal/util/Preconditions" "SIOOBE_FORMATTER" "Ljava/util/function/BiFunction;" (va_rf (zF Z)) (Ar Z) U U.heap ∧ va_T .int (zb Z) (zn Z) (fun j => .int (zx Z j)) (Ar Z) U U.heap
theorem GS.step {Z : Zt} {s U : State} {H : Heap} {locs : List Loc} (h : GS Z s) (hS : va_S (Ar Z) s.heap H locs) (hU : U.heap = H) (hW : s.WarmedH U.vm) : GS Z U := by
  obtain ⟨h1, h2, h3, h4, h5, h6, h7, h8⟩ := h
  have hv := hW.alike
  refine ⟨va_K.moved hv h1, fun q hq => va_Nw.warmM hW (h2 q hq), va_AO.moved hv h3, fun i hi => (h4 i hi).warm hW, ?_, ?_, ?_, ?_⟩
  · rw [hU]; exact (vk_S.moved hv h5).kept hS.2.1
  · rw [hU]; exact (va_Z.moved hv h6).kept hS.2.1
  · rw [hU]; exact (va_Z.moved hv h7).kept hS.2.1
  · rw [hU]; exact (va_T.moved hv h8).kept hS.2.1
theorem GS.calling {Z : Zt} {U : State} {g : JFrame} {mk : MethodId} {a : Array Value} (h : GS Z U) : GS Z (U.calling g mk a) := by
  obtain ⟨h1, h2, h3, h4, h5, h6, h7, h8⟩ := h
  have hv : U.vm.Alike (U.calling g mk a).vm := Vm.Alike.refl U.vm
  exact ⟨va_K.moved (u := U) (U := U.calling g mk a) hv h1, fun q hq => va_Nw.same rfl (u := U) (U := U.calling g mk a) rfl (h2 q hq), va_AO.moved (u := U) (U := U.calling g mk a) hv h3, fun i hi => vk_R.same (u := U) (U := U.calling g mk a) rfl (h4 i hi), vk_S.moved (u := U) (U := U.calling g mk a) hv h5, va_Z.moved (u := U) (U := U.calling g mk a) hv h6, va_Z.moved (u := U) (U := U.calling g mk a) hv h7, va_T.moved (u := U) (U := U.calling g mk a) hv h8⟩
/-! ===== the locals, by their places ===== -/
def lget (l : List (Option Value)) (i : Nat) : Option Value := match l, i with
  | [], _ => none
  | x :: _, 0 => x
  | _ :: t, i + 1 => lget t i
def lkill (x : Option Value) : Option Value := match x with
  | some (.long _) => none
  | some (.double _) => none
  | y => y
def lset (l : List (Option Value)) (i : Nat) (v : Value) : List (Option Value) := match l, i with
  | [], _ => []
  | _ :: t, 0 => some v :: t
  | x :: t, 1 => lkill x :: lset t 0 v
  | x :: t, i + 2 => x :: lset t (i + 1) v
def lset2 (l : List (Option Value)) (i : Nat) (v : Value) : List (Option Value) := match l, i with
  | [], _ => []
  | [_], 0 => []
  | _ :: _ :: t, 0 => some v :: none :: t
  | x :: t, 1 => lkill x :: lset2 t 0 v
  | x :: t, i + 2 => x :: lset2 t (i + 1) v
def LH (Z : Zt) (la : Array Slot) (nL : Nat) (l : List (Option Value)) : Prop := la.size = nL ∧ lv_wf la ∧ ∀ (i : Nat) (v : Value), lget l i = some v → la[i]? = some (.val (cv Z v))
theorem lkill_some {x : Option Value} {v : Value} (h : lkill x = some v) : x = some v ∧ v.category = 1 := by
  cases x with
  | none => simp [lkill] at h
  | some w => cases w <;> simp [lkill] at h <;> subst h <;> exact ⟨rfl, rfl⟩
theorem lset_get : ∀ (l : List (Option Value)) (i : Nat) (v w : Value) (j : Nat), lget (lset l i v) j = some w → (j = i ∧ w = v) ∨ (j ≠ i ∧ lget l j = some w ∧ (j + 1 = i → w.category = 1))
  | [], i, v, w, j, h => by simp [lset, lget] at h
  | x :: t, 0, v, w, j, h => by
    cases j with
    | zero => simp [lset, lget] at h; exact Or.inl ⟨rfl, h.symm⟩
    | succ j => simp [lset, lget] at h; exact Or.inr ⟨by omega, by simpa [lget] using h, by omega⟩
  | x :: t, 1, v, w, j, h => by
    cases j with
    | zero =>
      simp only [lset, lget] at h
      obtain ⟨a, b⟩ := lkill_some h
      exact Or.inr ⟨by omega, by simpa [lget] using a, fun _ => b⟩
    | succ j =>
      simp only [lset, lget] at h
      rcases lset_get t 0 v w j h with ⟨a, b⟩ | ⟨a, b, c⟩
      · exact Or.inl ⟨by omega, b⟩
      · exact Or.inr ⟨by omega, by simpa [lget] using b, by omega⟩
  | x :: t, i + 2, v, w, j, h => by
    cases j with
    | zero => simp only [lset, lget] at h; exact Or.inr ⟨by omega, by simpa [lget] using h, by omega⟩
    | succ j =>
      simp only [lset, lget] at h
      rcases lset_get t (i + 1) v w j h with ⟨a, b⟩ | ⟨a, b, c⟩
      · exact Or.inl ⟨by omega, b⟩
      · exact Or.inr ⟨by omega, by simpa [lget] using b, fun z => c (by omega)⟩
theorem lset2_get : ∀ (l : List (Option Value)) (i : Nat) (v w : Value) (j : Nat), lget (lset2 l i v) j = some w → (j = i ∧ w = v) ∨ (j ≠ i ∧ j ≠ i + 1 ∧ lget l j = some w ∧ (j + 1 = i → w.category = 1))
  | [], i, v, w, j, h => by simp [lset2, lget] at h
  | [x], 0, v, w, j, h => by simp [lset2, lget] at h
  | x :: y :: t, 0, v, w, j, h => by
    match j with
    | 0 => simp [lset2, lget] at h; exact Or.inl ⟨rfl, h.symm⟩
    | 1 => simp [lset2, lget] at h
    | j + 2 => simp [lset2, lget] at h; exact Or.inr ⟨by omega, by omega, by simpa [lget] using h, by omega⟩
  | x :: t, 1, v, w, j, h => by
    cases j with
    | zero =>
      simp only [lset2, lget] at h
      obtain ⟨a, b⟩ := lkill_some h
      exact Or.inr ⟨by omega, by omega, by simpa [lget] using a, fun _ => b⟩
    | succ j =>
      simp only [lset2, lget] at h
      rcases lset2_get t 0 v w j h with ⟨a, b⟩ | ⟨a, a2, b, c⟩
      · exact Or.inl ⟨by omega, b⟩
      · exact Or.inr ⟨by omega, by omega, by simpa [lget] using b, by omega⟩
  | x :: t, i + 2, v, w, j, h => by
    cases j with
    | zero => simp only [lset2, lget] at h; exact Or.inr ⟨by omega, by omega, by simpa [lget] using h, by omega⟩
    | succ j =>
      simp only [lset2, lget] at h
      rcases lset2_get t (i + 1) v w j h with ⟨a, b⟩ | ⟨a, a2, b, c⟩
      · exact Or.inl ⟨by omega, b⟩
      · exact Or.inr ⟨by omega, by omega, by simpa [lget] using b, fun z => c (by omega)⟩
/-- the listed pairs of the kit's own form -/
def lpairs (Z : Zt) (l : List (Option Value)) : List (Nat × Value) := (List.range l.length).filterMap fun i => (lget l i).map fun v => (i, cv Z v)
theorem lget_lt : ∀ (l : List (Option Value)) (i : Nat) (v : Value), lget l i = some v → i < l.length
  | [], i, v, h => by simp [lget] at h
  | x :: t, 0, v, h => by simp
  | x :: t, i + 1, v, h => by simp only [lget] at h; have := lget_lt t i v h; simp; omega
theorem lpairs_mem {Z : Zt} {l : List (Option Value)} {i : Nat} {v : Value} (h : lget l i = some v) : (i, cv Z v) ∈ lpairs Z l := by
  unfold lpairs
  exact List.mem_filterMap.mpr ⟨i, List.mem_range.mpr (lget_lt l i v h), by rw [h]; rfl⟩
theorem LH.has {Z : Zt} {la : Array Slot} {nL : Nat} {l : List (Option Value)} (h : LH Z la nL l) : lv_has la nL (lpairs Z l) := by
  refine ⟨h.1, h.2.1, fun q hq => ?_⟩
  obtain ⟨i, -, hi⟩ := List.mem_filterMap.mp hq
  cases hg : lget l i with
  | none => rw [hg] at hi; simp at hi
  | some v =>
    rw [hg] at hi
    simp at hi
    rw [← hi]
    exact h.2.2 i v hg
theorem LH.set1 {Z : Zt} {la : Array Slot} {nL i : Nat} {l : List (Option Value)} {v : Value} (h : lv_has la nL ((i, cv Z v) :: (lpairs Z l).filter (fun q => !(q.1 == i) && !(q.1 + 1 == i && q.2.category == 2)))) : LH Z la nL (lset l i v) := by
  refine ⟨h.1, h.2.1, fun j w hw => ?_⟩
  rcases lset_get l i v w j hw with ⟨rfl, rfl⟩ | ⟨a, b, c⟩
  · exact h.2.2 (j, cv Z w) List.mem_cons_self
  · refine h.2.2 (j, cv Z w) (List.mem_cons_of_mem _ (List.mem_filter.mpr ⟨lpairs_mem b, ?_⟩))
    by_cases hj : j + 1 = i
    · have := c hj
      simp [a, cv_cat, this]
    · simp [a, hj]
theorem LH.set2 {Z : Zt} {la : Array Slot} {nL i : Nat} {l : List (Option Value)} {v : Value} (h : lv_has la nL ((i, cv Z v) :: (lpairs Z l).filter (fun q => !(q.1 == i) && (!(q.1 == i + 1) && !(q.1 + 1 == i && q.2.category == 2))))) : LH Z la nL (lset2 l i v) := by
  refine ⟨h.1, h.2.1, fun j w hw => ?_⟩
  rcases lset2_get l i v w j hw with ⟨rfl, rfl⟩ | ⟨a, a2, b, c⟩
  · exact h.2.2 (j, cv Z w) List.mem_cons_self
  · refine h.2.2 (j, cv Z w) (List.mem_cons_of_mem _ (List.mem_filter.mpr ⟨lpairs_mem b, ?_⟩))
    by_cases hj : j + 1 = i
    · have := c hj
      simp [a, a2, cv_cat, this]
    · simp [a, a2, hj]
/-! ===== a method: its name, bytes, locals, type of its answer ===== -/
abbrev Sig : Type := MethodName × ByteArray × Nat × Option FieldType
def FC (Z : Zt) (d : Nat) (sg : Sig) (R : Room) (p : Program) (s : State) (m : MethodId) (args : Array Value) (meth : Method) (c : Code) : Prop :=
  p.tables.exec = Jvm.exec ∧ c.code = sg.2.1 ∧ c.maxLocals = sg.2.2.1 ∧ s.vm.findClass sg.1.cls = some m.cls ∧ (∀ w ∈ WS, w.before args s = true) ∧ GS Z s ∧ d ≤ R.frames ∧ 36 * d ≤ R.locals ∧ meth.name = sg.1.name
/-- the return instruction that fits an answer -/
def rOK (sg : Sig) (pc : Nat) (r : Option Value) : Prop := match r with
  | none => decode sg.2.1 pc = .ok (.return_, 1) ∧ sg.2.2.2 = none
  | some (.int v) => decode sg.2.1 pc = .ok (.ireturn, 1) ∧ ∃ ty, sg.2.2.2 = some ty ∧ narrow ty (.int v) = .int v
  | some (.long _) => decode sg.2.1 pc = .ok (.lreturn, 1) ∧ sg.2.2.2 = some .long
  | some (.ref _) => decode sg.2.1 pc = .ok (.areturn, 1) ∧ ∃ ty, sg.2.2.2 = some ty ∧ ((∃ n, ty = .object n) ∨ ∃ t, ty = .array t)
  | _ => False
/-- from here the machine comes to the frame's end, with an answer and a memory that are in Q -/
def X (Z : Zt) (d : Nat) (sg : Sig) (n0 nF : Nat) (Q : Option Value → Mem → Prop) (pc : Nat) (lv : List (Option Value)) (st : List Value) (M : Mem) : Prop :=
  ∀ (p : Program) (e : Env) (R : Room) (s : State) (m : MethodId) (args : Array Value) (below : List Frame) (meth : Method) (c : Code) (Qe : State → Prop) (H : Heap) (locs : List Loc) (la : Array Slot),
    FC Z d sg R p s m args meth c → nF - n0 ≤ R.cells → sl nF - sl n0 ≤ R.slots → n0 ≤ mN M → mN M ≤ nF → Rep Z M H → va_S (Ar Z) s.heap H locs → LH Z la sg.2.2.1 lv →
    (∀ (r : Option Value) (M' : Mem) (H' : Heap) (locs' : List Loc) (la' : Array Slot) (pc' : Nat), Q r M' → n0 ≤ mN M' → mN M' ≤ nF → Rep Z M' H' → va_S (Ar Z) s.heap H' locs' → rOK sg pc' r →
      W p (zl Z) e R s m args below meth c H' locs' (mN M' - n0) (sl (mN M') - sl n0) Qe (F0 m pc' la' (r.map (cv Z)).toList)) →
    W p (zl Z) e R s m args below meth c H locs (mN M - n0) (sl (mN M) - sl n0) Qe (F0 m pc la (st.map (cv Z)))
section XR
variable {Z : Zt} {d : Nat} {sg : Sig} {n0 nF : Nat} {Q : Option Value → Mem → Prop} {pc : Nat} {lv : List (Option Value)} {st : List Value} {M : Mem}
theorem X_ret {r : Option Value} (hr : rOK sg pc r) (hq : Q r M) : X Z d sg n0 nF Q pc lv r.toList M := by
  intro p e R s m args below meth c Qe H locs la hF h1 h2 h3 h4 hR hS hL hE
  have := hE r M H locs la pc hq h3 h4 hR hS hr
  cases r <;> exact this
theorem X_iconst {v : Int32} (hd : decode sg.2.1 pc = .ok (.iconst v.toInt, 1)) (h : X Z d sg n0 nF Q (pc + 1) lv (.int v :: st) M) : X Z d sg n0 nF Q pc lv st M := by
  intro p e R s m args below meth c Qe H locs la hF h1 h2 h3 h4 hR hS hL hE
  exact lv_iconst hF.1 hF.2.1 hd (by simp) (h p e R s m args below meth c Qe H locs la hF h1 h2 h3 h4 hR hS hL hE)
theorem X_bipush {v : Int32} (hd : decode sg.2.1 pc = .ok (.bipush v.toInt, 2)) (hv : (Int8.ofInt v.toInt).toInt32 = v) (h : X Z d sg n0 nF Q (pc + 2) lv (.int v :: st) M) : X Z d sg n0 nF Q pc lv st M := by
  intro p e R s m args below meth c Qe H locs la hF h1 h2 h3 h4 hR hS hL hE
  exact lv_bipush hF.1 hF.2.1 hd hv (h p e R s m args below meth c Qe H locs la hF h1 h2 h3 h4 hR hS hL hE)
theorem X_sipush {v : Int32} (hd : decode sg.2.1 pc = .ok (.sipush v.toInt, 3)) (hv : (Int16.ofInt v.toInt).toInt32 = v) (h : X Z d sg n0 nF Q (pc + 3) lv (.int v :: st) M) : X Z d sg n0 nF Q pc lv st M := by
  intro p e R s m args below meth c Qe H locs la hF h1 h2 h3 h4 hR hS hL hE
  exact lv_sipush hF.1 hF.2.1 hd hv (h p e R s m args below meth c Qe H locs la hF h1 h2 h3 h4 hR hS hL hE)
theorem X_ldc {v : Int32} {ix : Nat} (hw : Cond.constant sg.1.cls ix v ∈ WS) (hd : decode sg.2.1 pc = .ok (.ldc ix, 2)) (h : X Z d sg n0 nF Q (pc + 2) lv (.int v :: st) M) : X Z d sg n0 nF Q pc lv st M := by
  intro p e R s m args below meth c Qe H locs la hF h1 h2 h3 h4 hR hS hL hE
  exact lv_ldc hF.1 hF.2.1 hF.2.2.2.1 (hF.2.2.2.2.1 _ hw) hd (h p e R s m args below meth c Qe H locs la hF h1 h2 h3 h4 hR hS hL hE)
theorem X_ldc2 {v : Int64} {ix : Nat} (hw : Cond.constantLong sg.1.cls ix v ∈ WS) (hd : decode sg.2.1 pc = .ok (.ldc2_w ix, 3)) (h : X Z d sg n0 nF Q (pc + 3) lv (.long v :: st) M) : X Z d sg n0 nF Q pc lv st M := by
  intro p e R s m args below meth c Qe H locs la hF h1 h2 h3 h4 hR hS hL hE
  exact lv_ldc2 hF.1 hF.2.1 hF.2.2.2.1 (hF.2.2.2.2.1 _ hw) hd (h p e R s m args below meth c Qe H locs la hF h1 h2 h3 h4 hR hS hL hE)
theorem X_ldcS {i : Nat} (hi : i < 4) (hc : sg.1.cls = RX3) (hd : decode sg.2.1 pc = .ok (.ldc (strL.getD i (0, "")).1, 2)) (h : X Z d sg n0 nF Q (pc + 2) lv (.ref (i + 2) :: st) M) : X Z d sg n0 nF Q pc lv st M := by
  intro p e R s m args below meth c Qe H locs la hF h1 h2 h3 h4 hR hS hL hE
  have hz := hF.2.2.2.2.2.1.2.2.2.1 i hi
  have e1 : cv Z (.ref (i + 2)) = .ref (zK Z i) := by
    show ad Z (i + 2) = _
    have a : ¬ 16 ≤ i + 2 := by omega
    have b : ¬ i + 2 = 1 := by omega
    have c : 2 ≤ i + 2 ∧ i + 2 < 6 := by omega
    unfold ad rfo
    rw [if_neg a, if_neg b, if_pos c, show i + 2 - 2 = i by omega]
    rfl
  refine va_ldcS hF.1 hF.2.1 hF.2.2.2.1 (by rw [hc]; exact hz) hd ?_
  have := h p e R s m args below meth c Qe H locs la hF h1 h2 h3 h4 hR hS hL hE
  rw [List.map_cons, e1] at this
  exact this
theorem X_iload {i : Nat} {x : Int32} (hd : decode sg.2.1 pc = .ok (.iload i, 2)) (hl : lget lv i = some (.int x)) (h : X Z d sg n0 nF Q (pc + 2) lv (.int x :: st) M) : X Z d sg n0 nF Q pc lv st M := by
  intro p e R s m args below meth c Qe H locs la hF h1 h2 h3 h4 hR hS hL hE
  exact lv_iload hF.1 hF.2.1 hd (hL.2.2 _ _ hl) (h p e R s m args below meth c Qe H locs la hF h1 h2 h3 h4 hR hS hL hE)
theorem X_iload_n {k : Fin 4} {x : Int32} (hd : decode sg.2.1 pc = .ok (.iload_n k, 1)) (hl : lget lv k = some (.int x)) (h : X Z d sg n0 nF Q (pc + 1) lv (.int x :: st) M) : X Z d sg n0 nF Q pc lv st M := by
  intro p e R s m args below meth c Qe H locs la hF h1 h2 h3 h4 hR hS hL hE
  exact lv_iload_n hF.1 hF.2.1 hd rfl (hL.2.2 _ _ hl) (h p e R s m args below meth c Qe H locs la hF h1 h2 h3 h4 hR hS hL hE)
theorem X_lload {i : Nat} {x : Int64} (hd : decode sg.2.1 pc = .ok (.lload i, 2)) (hl : lget lv i = some (.long x)) (h : X Z d sg n0 nF Q (pc + 2) lv (.long x :: st) M) : X Z d sg n0 nF Q pc lv st M := by
  intro p e R s m args below meth c Qe H locs la hF h1 h2 h3 h4 hR hS hL hE
  exact lv_lload hF.1 hF.2.1 hd (hL.2.2 _ _ hl) (h p e R s m args below meth c Qe H locs la hF h1 h2 h3 h4 hR hS hL hE)
theorem X_lload_n {k : Fin 4} {x : Int64} (hd : decode sg.2.1 pc = .ok (.lload_n k, 1)) (hl : lget lv k = some (.long x)) (h : X Z d sg n0 nF Q (pc + 1) lv (.long x :: st) M) : X Z d sg n0 nF Q pc lv st M := by
  intro p e R s m args below meth c Qe H locs la hF h1 h2 h3 h4 hR hS hL hE
  exact lv_lload_n hF.1 hF.2.1 hd rfl (hL.2.2 _ _ hl) (h p e R s m args below meth c Qe H locs la hF h1 h2 h3 h4 hR hS hL hE)
theorem X_aload {i x : Nat} (hd : decode sg.2.1 pc = .ok (.aload i, 2)) (hl : lget lv i = some (.ref x)) (h : X Z d sg n0 nF Q (pc + 2) lv (.ref x :: st) M) : X Z d sg n0 nF Q pc lv st M := by
  intro p e R s m args below meth c Qe H locs la hF h1 h2 h3 h4 hR hS hL hE
  have a := hL.2.2 _ _ hl
  have b := h p e R s m args below meth c Qe H locs la hF h1 h2 h3 h4 hR hS hL hE
  rw [List.map_cons] at b
  change la[i]? = some (.val (ad Z x)) at a
  change W p (zl Z) e R s m args below meth c H locs _ _ Qe (F0 m _ la (ad Z x :: _)) at b
  rcases ad_or Z x with z | ⟨y, z⟩ <;> rw [z] at a b
  · exact lv_aloadN hF.1 hF.2.1 hd a b
  · exact lv_aload hF.1 hF.2.1 hd a b
theorem X_aload_n {k : Fin 4} {x : Nat} (hd : decode sg.2.1 pc = .ok (.aload_n k, 1)) (hl : lget lv k = some (.ref x)) (h : X Z d sg n0 nF Q (pc + 1) lv (.ref x :: st) M) : X Z d sg n0 nF Q pc lv st M := by
  intro p e R s m args below meth c Qe H locs la hF h1 h2 h3 h4 hR hS hL hE
  have a := hL.2.2 _ _ hl
  have b := h p e R s m args below meth c Qe H locs la hF h1 h2 h3 h4 hR hS hL hE
  rw [List.map_cons] at b
  change la[(k : Nat)]? = some (.val (ad Z x)) at a
  change W p (zl Z) e R s m args below meth c H locs _ _ Qe (F0 m _ la (ad Z x :: _)) at b
  rcases ad_or Z x with z | ⟨y, z⟩ <;> rw [z] at a b
  · exact lv_aload_nN hF.1 hF.2.1 hd rfl a b
  · exact lv_aload_n hF.1 hF.2.1 hd rfl a b
theorem X_istore {i : Nat} {x : Int32} (hn : i < sg.2.2.1) (hd : decode sg.2.1 pc = .ok (.istore i, 2)) (h : X Z d sg n0 nF Q (pc + 2) (lset lv i (.int x)) st M) : X Z d sg n0 nF Q pc lv (.int x :: st) M := by
  intro p e R s m args below meth c Qe H locs la hF h1 h2 h3 h4 hR hS hL hE
  exact lv_istore hF.1 hF.2.1 hd hL.has hn rfl (fun la' hla => h p e R s m args below meth c Qe H locs la' hF h1 h2 h3 h4 hR hS (LH.set1 (v := .int x) hla) hE)
theorem X_istore_n {k : Fin 4} {x : Int32} (hn : (k : Nat) < sg.2.2.1) (hd : decode sg.2.1 pc = .ok (.istore_n k, 1)) (h : X Z d sg n0 nF Q (pc + 1) (lset lv k (.int x)) st M) : X Z d sg n0 nF Q pc lv (.int x :: st) M := by
  intro p e R s m args below meth c Qe H locs la hF h1 h2 h3 h4 hR hS hL hE
  exact lv_istore_n hF.1 hF.2.1 hd rfl hL.has hn rfl (fun la' hla => h p e R s m args below meth c Qe H locs la' hF h1 h2 h3 h4 hR hS (LH.set1 (v := .int x) hla) hE)
theorem X_lstore {i : Nat} {x : Int64} (hn : i + 1 < sg.2.2.1) (hd : decode sg.2.1 pc = .ok (.lstore i, 2)) (h : X Z d sg n0 nF Q (pc + 2) (lset2 lv i (.long x)) st M) : X Z d sg n0 nF Q pc lv (.long x :: st) M := by
  intro p e R s m args below meth c Qe H locs la hF h1 h2 h3 h4 hR hS hL hE
  exact lv_lstore hF.1 hF.2.1 hd hL.has hn rfl (fun la' hla => h p e R s m args below meth c Qe H locs la' hF h1 h2 h3 h4 hR hS (LH.set2 (v := .long x) hla) hE)
theorem X_lstore_n {k : Fin 4} {x : Int64} (hn : (k : Nat) + 1 < sg.2.2.1) (hd : decode sg.2.1 pc = .ok (.lstore_n k, 1)) (h : X Z d sg n0 nF Q (pc + 1) (lset2 lv k (.long x)) st M) : X Z d sg n0 nF Q pc lv (.long x :: st) M := by
  intro p e R s m args below meth c Qe H locs la hF h1 h2 h3 h4 hR hS hL hE
  exact lv_lstore_n hF.1 hF.2.1 hd rfl hL.has hn rfl (fun la' hla => h p e R s m args below meth c Qe H locs la' hF h1 h2 h3 h4 hR hS (LH.set2 (v := .long x) hla) hE)
theorem X_astore {i x : Nat} (hn : i < sg.2.2.1) (hd : decode sg.2.1 pc = .ok (.astore i, 2)) (h : X Z d sg n0 nF Q (pc + 2) (lset lv i (.ref x)) st M) : X Z d sg n0 nF Q pc lv (.ref x :: st) M := by
  intro p e R s m args below meth c Qe H locs la hF h1 h2 h3 h4 hR hS hL hE
  rw [List.map_cons]
  change W p (zl Z) e R s m args below meth c H locs _ _ Qe (F0 m _ la (ad Z x :: _))
  rcases ad_or Z x with z | ⟨y, z⟩
  · rw [z]
    exact lv_astoreN hF.1 hF.2.1 hd hL.has hn rfl (fun la' hla => h p e R s m args below meth c Qe H locs la' hF h1 h2 h3 h4 hR hS (LH.set1 (v := .ref x) (by show lv_has _ _ ((i, ad Z x) :: _); rw [z]; exact hla)) hE)
  · rw [z]
    exact lv_astore hF.1 hF.2.1 hd hL.has hn rfl (fun la' hla => h p e R s m args below meth c Qe H locs la' hF h1 h2 h3 h4 hR hS (LH.set1 (v := .ref x) (by show lv_has _ _ ((i, ad Z x) :: _); rw [z]; exact hla)) hE)
theorem X_astore_n {k : Fin 4} {x : Nat} (hn : (k : Nat) < sg.2.2.1) (hd : decode sg.2.1 pc = .ok (.astore_n k, 1)) (h : X Z d sg n0 nF Q (pc + 1) (lset lv k (.ref x)) st M) : X Z d sg n0 nF Q pc lv (.ref x :: st) M := by
  intro p e R s m args below meth c Qe H locs la hF h1 h2 h3 h4 hR hS hL hE
  rw [List.map_cons]
  change W p (zl Z) e R s m args below meth c H locs _ _ Qe (F0 m _ la (ad Z x :: _))
  rcases ad_or Z x with z | ⟨y, z⟩
  · rw [z]
    exact lv_astore_nN hF.1 hF.2.1 hd rfl hL.has hn rfl (fun la' hla => h p e R s m args below meth c Qe H locs la' hF h1 h2 h3 h4 hR hS (LH.set1 (v := .ref x) (by show lv_has _ _ (((k : Nat), ad Z x) :: _); rw [z]; exact hla)) hE)
  · rw [z]
    exact lv_astore_n hF.1 hF.2.1 hd rfl hL.has hn rfl (fun la' hla => h p e R s m args below meth c Qe H locs la' hF h1 h2 h3 h4 hR hS (LH.set1 (v := .ref x) (by show lv_has _ _ (((k : Nat), ad Z x) :: _); rw [z]; exact hla)) hE)
theorem X_iinc {i : Nat} {x v : Int32} (hn : i < sg.2.2.1) (hl : lget lv i = some (.int x)) (hd : decode sg.2.1 pc = .ok (.iinc i v.toInt, 3)) (h : X Z d sg n0 nF Q (pc + 3) (lset lv i (.int (x + v))) st M) : X Z d sg n0 nF Q pc lv st M := by
  intro p e R s m args below meth c Qe H locs la hF h1 h2 h3 h4 hR hS hL hE
  obtain ⟨k, hk⟩ := List.getElem?_of_mem (lpairs_mem (Z := Z) hl)
  exact lv_iinc (v := x + v) hF.1 hF.2.1 hd hL.has hk (by simp) hn rfl (fun la' hla => h p e R s m args below meth c Qe H locs la' hF h1 h2 h3 h4 hR hS (LH.set1 (v := .int (x + v)) hla) hE)
theorem X_iadd {x y : Int32} (hd : decode sg.2.1 pc = .ok (.iadd, 1)) (h : X Z d sg n0 nF Q (pc + 1) lv (.int (x + y) :: st) M) : X Z d sg n0 nF Q pc lv (.int y :: .int x :: st) M := by
  intro p e R s m args below meth c Qe H locs la hF h1 h2 h3 h4 hR hS hL hE
  exact lv_iadd hF.1 hF.2.1 hd (h p e R s m args below meth c Qe H locs la hF h1 h2 h3 h4 hR hS hL hE)
theorem X_isub {x y : Int32} (hd : decode sg.2.1 pc = .ok (.isub, 1)) (h : X Z d sg n0 nF Q (pc + 1) lv (.int (x - y) :: st) M) : X Z d sg n0 nF Q pc lv (.int y :: .int x :: st) M := by
  intro p e R s m args below meth c Qe H locs la hF h1 h2 h3 h4 hR hS hL hE
  exact lv_isub hF.1 hF.2.1 hd (h p e R s m args below meth c Qe H locs la hF h1 h2 h3 h4 hR hS hL hE)
theorem X_imul {x y : Int32} (hd : decode sg.2.1 pc = .ok (.imul, 1)) (h : X Z d sg n0 nF Q (pc + 1) lv (.int (x * y) :: st) M) : X Z d sg n0 nF Q pc lv (.int y :: .int x :: st) M := by
  intro p e R s m args below meth c Qe H locs la hF h1 h2 h3 h4 hR hS hL hE
  exact lv_imul hF.1 hF.2.1 hd (h p e R s m args below meth c Qe H locs la hF h1 h2 h3 h4 hR hS hL hE)
theorem X_idiv {x y : Int32} (hd : decode sg.2.1 pc = .ok (.idiv, 1)) (hy : ¬ y = 0) (h : X Z d sg n0 nF Q (pc + 1) lv (.int (x / y) :: st) M) : X Z d sg n0 nF Q pc lv (.int y :: .int x :: st) M := by
  intro p e R s m args below meth c Qe H locs la hF h1 h2 h3 h4 hR hS hL hE
  exact lv_idiv hF.1 hF.2.1 hd hy (h p e R s m args below meth c Qe H locs la hF h1 h2 h3 h4 hR hS hL hE)
theorem X_irem {x y : Int32} (hd : decode sg.2.1 pc = .ok (.irem, 1)) (hy : ¬ y = 0) (h : X Z d sg n0 nF Q (pc + 1) lv (.int (x - x / y * y) :: st) M) : X Z d sg n0 nF Q pc lv (.int y :: .int x :: st) M := by
  intro p e R s m args below meth c Qe H locs la hF h1 h2 h3 h4 hR hS hL hE
  exact lv_irem hF.1 hF.2.1 hd hy (h p e R s m args below meth c Qe H locs la hF h1 h2 h3 h4 hR hS hL hE)
theorem X_ineg {x : Int32} (hd : decode sg.2.1 pc = .ok (.ineg, 1)) (h : X Z d sg n0 nF Q (pc + 1) lv (.int (-x) :: st) M) : X Z d sg n0 nF Q pc lv (.int x :: st) M := by
  intro p e R s m args below meth c Qe H locs la hF h1 h2 h3 h4 hR hS hL hE
  exact lv_ineg hF.1 hF.2.1 hd (h p e R s m args below meth c Qe H locs la hF h1 h2 h3 h4 hR hS hL hE)
theorem X_iand {x y : Int32} (hd : decode sg.2.1 pc = .ok (.iand, 1)) (h : X Z d sg n0 nF Q (pc + 1) lv (.int (x &&& y) :: st) M) : X Z d sg n0 nF Q pc lv (.int y :: .int x :: st) M := by
  intro p e R s m args below meth c Qe H locs la hF h1 h2 h3 h4 hR hS hL hE
  exact lv_iand hF.1 hF.2.1 hd (h p e R s m args below meth c Qe H locs la hF h1 h2 h3 h4 hR hS hL hE)
theorem X_ior {x y : Int32} (hd : decode sg.2.1 pc = .ok (.ior, 1)) (h : X Z d sg n0 nF Q (pc + 1) lv (.int (x ||| y) :: st) M) : X Z d sg n0 nF Q pc lv (.int y :: .int x :: st) M := by
  intro p e R s m args below meth c Qe H locs la hF h1 h2 h3 h4 hR hS hL hE
  exact lv_ior hF.1 hF.2.1 hd (h p e R s m args below meth c Qe H locs la hF h1 h2 h3 h4 hR hS hL hE)
theorem X_ishl {x y : Int32} (hd : decode sg.2.1 pc = .ok (.ishl, 1)) (h : X Z d sg n0 nF Q (pc + 1) lv (.int (x <<< (y &&& 31)) :: st) M) : X Z d sg n0 nF Q pc lv (.int y :: .int x :: st) M := by
  intro p e R s m args below meth c Qe H locs la hF h1 h2 h3 h4 hR hS hL hE
  exact lv_ishl hF.1 hF.2.1 hd (h p e R s m args below meth c Qe H locs la hF h1 h2 h3 h4 hR hS hL hE)
theorem X_ishr {x y : Int32} (hd : decode sg.2.1 pc = .ok (.ishr, 1)) (h : X Z d sg n0 nF Q (pc + 1) lv (.int (x >>> (y &&& 31)) :: st) M) : X Z d sg n0 nF Q pc lv (.int y :: .int x :: st) M := by
  intro p e R s m args below meth c Qe H locs la hF h1 h2 h3 h4 hR hS hL hE
  exact lv_ishr hF.1 hF.2.1 hd (h p e R s m args below meth c Qe H locs la hF h1 h2 h3 h4 hR hS hL hE)
theorem X_i2l {x : Int32} (hd : decode sg.2.1 pc = .ok (.i2l, 1)) (h : X Z d sg n0 nF Q (pc + 1) lv (.long x.toInt64 :: st) M) : X Z d sg n0 nF Q pc lv (.int x :: st) M := by
  intro p e R s m args below meth c Qe H locs la hF h1 h2 h3 h4 hR hS hL hE
  exact lv_i2l hF.1 hF.2.1 hd rfl (h p e R s m args below meth c Qe H locs la hF h1 h2 h3 h4 hR hS hL hE)
theorem X_i2c {x : Int32} (hd : decode sg.2.1 pc = .ok (.i2c, 1)) (h : X Z d sg n0 nF Q (pc + 1) lv (.int (x.toUInt32 % 65536).toInt32 :: st) M) : X Z d sg n0 nF Q pc lv (.int x :: st) M := by
  intro p e R s m args below meth c Qe H locs la hF h1 h2 h3 h4 hR hS hL hE
  exact lv_i2c hF.1 hF.2.1 hd rfl (h p e R s m args below meth c Qe H locs la hF h1 h2 h3 h4 hR hS hL hE)
theorem X_ladd {x y : Int64} (hd : decode sg.2.1 pc = .ok (.ladd, 1)) (h : X Z d sg n0 nF Q (pc + 1) lv (.long (x + y) :: st) M) : X Z d sg n0 nF Q pc lv (.long y :: .long x :: st) M := by
  intro p e R s m args below meth c Qe H locs la hF h1 h2 h3 h4 hR hS hL hE
  exact lv_ladd hF.1 hF.2.1 hd (h p e R s m args below meth c Qe H locs la hF h1 h2 h3 h4 hR hS hL hE)
theorem X_lmul {x y : Int64} (hd : decode sg.2.1 pc = .ok (.lmul, 1)) (h : X Z d sg n0 nF Q (pc + 1) lv (.long (x * y) :: st) M) : X Z d sg n0 nF Q pc lv (.long y :: .long x :: st) M := by
  intro p e R s m args below meth c Qe H locs la hF h1 h2 h3 h4 hR hS hL hE
  exact lv_lmul hF.1 hF.2.1 hd (h p e R s m args below meth c Qe H locs la hF h1 h2 h3 h4 hR hS hL hE)
theorem X_lcmp {x y : Int64} (hd : decode sg.2.1 pc = .ok (.lcmp, 1)) (h : X Z d sg n0 nF Q (pc + 1) lv (.int (lg_cmp x y) :: st) M) : X Z d sg n0 nF Q pc lv (.long y :: .long x :: st) M := by
  intro p e R s m args below meth c Qe H locs la hF h1 h2 h3 h4 hR hS hL hE
  exact W.lcmp hF.1 hF.2.1 hd (h p e R s m args below meth c Qe H locs la hF h1 h2 h3 h4 hR hS hL hE)
theorem X_dup {v : Value} (hc : v.category = 1) (hd : decode sg.2.1 pc = .ok (.dup, 1)) (h : X Z d sg n0 nF Q (pc + 1) lv (v :: v :: st) M) : X Z d sg n0 nF Q pc lv (v :: st) M := by
  intro p e R s m args below meth c Qe H locs la hF h1 h2 h3 h4 hR hS hL hE
  exact lv_dup hF.1 hF.2.1 hd (by rw [cv_cat]; exact hc) (h p e R s m args below meth c Qe H locs la hF h1 h2 h3 h4 hR hS hL hE)
theorem X_dup2 {v w : Value} (hc : v.category = 1) (hc2 : w.category = 1) (hd : decode sg.2.1 pc = .ok (.dup2, 1)) (h : X Z d sg n0 nF Q (pc + 1) lv (v :: w :: v :: w :: st) M) : X Z d sg n0 nF Q pc lv (v :: w :: st) M := by
  intro p e R s m args below meth c Qe H locs la hF h1 h2 h3 h4 hR hS hL hE
  exact lv_dup2_11 hF.1 hF.2.1 hd (by rw [cv_cat]; exact hc) (by rw [cv_cat]; exact hc2) (h p e R s m args below meth c Qe H locs la hF h1 h2 h3 h4 hR hS hL hE)
theorem X_pop {v : Value} (hc : v.category = 1) (hd : decode sg.2.1 pc = .ok (.pop, 1)) (h : X Z d sg n0 nF Q (pc + 1) lv st M) : X Z d sg n0 nF Q pc lv (v :: st) M := by
  intro p e R s m args below meth c Qe H locs la hF h1 h2 h3 h4 hR hS hL hE
  exact lv_pop hF.1 hF.2.1 hd (by rw [cv_cat]; exact hc) (h p e R s m args below meth c Qe H locs la hF h1 h2 h3 h4 hR hS hL hE)
theorem X_goto {tgt : Nat} (hd : decode sg.2.1 pc = .ok (.goto ((tgt : Int) - pc), 3)) (h : X Z d sg n0 nF Q tgt lv st M) : X Z d sg n0 nF Q pc lv st M := by
  intro p e R s m args below meth c Qe H locs la hF h1 h2 h3 h4 hR hS hL hE
  exact lv_goto hF.1 hF.2.1 hd (by omega) (h p e R s m args below meth c Qe H locs la hF h1 h2 h3 h4 hR hS hL hE)
theorem X_if_eq {x : Int32} {tgt : Nat} (hd : decode sg.2.1 pc = .ok (.ifCond .eq ((tgt : Int) - pc), 3)) (ht : x = 0 → X Z d sg n0 nF Q tgt lv st M) (hf : ¬ x = 0 → X Z d sg n0 nF Q (pc + 3) lv st M) : X Z d sg n0 nF Q pc lv (.int x :: st) M := by
  intro p e R s m args below meth c Qe H locs la hF h1 h2 h3 h4 hR hS hL hE
  exact lv_if_eq hF.1 hF.2.1 hd (by omega) (fun q => ht q p e R s m args below meth c Qe H locs la hF h1 h2 h3 h4 hR hS hL hE) (fun q => hf q p e R s m args below meth c Qe H locs la hF h1 h2 h3 h4 hR hS hL hE)
theorem X_icmp_eq {x y : Int32} {tgt : Nat} (hd : decode sg.2.1 pc = .ok (.if_icmp .eq ((tgt : Int) - pc), 3)) (ht : x = y → X Z d sg n0 nF Q tgt lv st M) (hf : ¬ x = y → X Z d sg n0 nF Q (pc + 3) lv st M) : X Z d sg n0 nF Q pc lv (.int y :: .int x :: st) M := by
  intro p e R s m args below meth c Qe H locs la hF h1 h2 h3 h4 hR hS hL hE
  exact lv_icmp_eq hF.1 hF.2.1 hd (by omega) (fun q => ht q p e R s m args below meth c Qe H locs la hF h1 h2 h3 h4 hR hS hL hE) (fun q => hf q p e R s m args below meth c Qe H locs la hF h1 h2 h3 h4 hR hS hL hE)
theorem X_if_ne {x : Int32} {tgt : Nat} (hd : decode sg.2.1 pc = .ok (.ifCond .ne ((tgt : Int) - pc), 3)) (ht : ¬ x = 0 → X Z d sg n0 nF Q tgt lv st M) (hf : x = 0 → X Z d sg n0 nF Q (pc + 3) lv st M) : X Z d sg n0 nF Q pc lv (.int x :: st) M := by
  intro p e R s m args below meth c Qe H locs la hF h1 h2 h3 h4 hR hS hL hE
  exact lv_if_ne hF.1 hF.2.1 hd (by omega) (fun q => ht q p e R s m args below meth c Qe H locs la hF h1 h2 h3 h4 hR hS hL hE) (fun q => hf q p e R s m args below meth c Qe H locs la hF h1 h2 h3 h4 hR hS hL hE)
theorem X_icmp_ne {x y : Int32} {tgt : Nat} (hd : decode sg.2.1 pc = .ok (.if_icmp .ne ((tgt : Int) - pc), 3)) (ht : ¬ x = y → X Z d sg n0 nF Q tgt lv st M) (hf : x = y → X Z d sg n0 nF Q (pc + 3) lv st M) : X Z d sg n0 nF Q pc lv (.int y :: .int x :: st) M := by
  intro p e R s m args below meth c Qe H locs la hF h1 h2 h3 h4 hR hS hL hE
  exact lv_icmp_ne hF.1 hF.2.1 hd (by omega) (fun q => ht q p e R s m args below meth c Qe H locs la hF h1 h2 h3 h4 hR hS hL hE) (fun q => hf q p e R s m args below meth c Qe H locs la hF h1 h2 h3 h4 hR hS hL hE)
theorem X_if_lt {x : Int32} {tgt : Nat} (hd : decode sg.2.1 pc = .ok (.ifCond .lt ((tgt : Int) - pc), 3)) (ht : x < 0 → X Z d sg n0 nF Q tgt lv st M) (hf : ¬ x < 0 → X Z d sg n0 nF Q (pc + 3) lv st M) : X Z d sg n0 nF Q pc lv (.int x :: st) M := by
  intro p e R s m args below meth c Qe H locs la hF h1 h2 h3 h4 hR hS hL hE
  exact lv_if_lt hF.1 hF.2.1 hd (by omega) (fun q => ht q p e R s m args below meth c Qe H locs la hF h1 h2 h3 h4 hR hS hL hE) (fun q => hf q p e R s m args below meth c Qe H locs la hF h1 h2 h3 h4 hR hS hL hE)
theorem X_icmp_lt {x y : Int32} {tgt : Nat} (hd : decode sg.2.1 pc = .ok (.if_icmp .lt ((tgt : Int) - pc), 3)) (ht : x < y → X Z d sg n0 nF Q tgt lv st M) (hf : ¬ x < y → X Z d sg n0 nF Q (pc + 3) lv st M) : X Z d sg n0 nF Q pc lv (.int y :: .int x :: st) M := by
  intro p e R s m args below meth c Qe H locs la hF h1 h2 h3 h4 hR hS hL hE
  exact lv_icmp_lt hF.1 hF.2.1 hd (by omega) (fun q => ht q p e R s m args below meth c Qe H locs la hF h1 h2 h3 h4 hR hS hL hE) (fun q => hf q p e R s m args below meth c Qe H locs la hF h1 h2 h3 h4 hR hS hL hE)
theorem X_if_ge {x : Int32} {tgt : Nat} (hd : decode sg.2.1 pc = .ok (.ifCond .ge ((tgt : Int) - pc), 3)) (ht : 0 ≤ x → X Z d sg n0 nF Q tgt lv st M) (hf : ¬ 0 ≤ x → X Z d sg n0 nF Q (pc + 3) lv st M) : X Z d sg n0 nF Q pc lv (.int x :: st) M := by
  intro p e R s m args below meth c Qe H locs la hF h1 h2 h3 h4 hR hS hL hE
  exact lv_if_ge hF.1 hF.2.1 hd (by omega) (fun q => ht q p e R s m args below meth c Qe H locs la hF h1 h2 h3 h4 hR hS hL hE) (fun q => hf q p e R s m args below meth c Qe H locs la hF h1 h2 h3 h4 hR hS hL hE)
theorem X_icmp_ge {x y : Int32} {tgt : Nat} (hd : decode sg.2.1 pc = .ok (.if_icmp .ge ((tgt : Int) - pc), 3)) (ht : y ≤ x → X Z d sg n0 nF Q tgt lv st M) (hf : ¬ y ≤ x → X Z d sg n0 nF Q (pc + 3) lv st M) : X Z d sg n0 nF Q pc lv (.int y :: .int x :: st) M := by
  intro p e R s m args below meth c Qe H locs la hF h1 h2 h3 h4 hR hS hL hE
  exact lv_icmp_ge hF.1 hF.2.1 hd (by omega) (fun q => ht q p e R s m args below meth c Qe H locs la hF h1 h2 h3 h4 hR hS hL hE) (fun q => hf q p e R s m args below meth c Qe H locs la hF h1 h2 h3 h4 hR hS hL hE)
theorem X_if_gt {x : Int32} {tgt : Nat} (hd : decode sg.2.1 pc = .ok (.ifCond .gt ((tgt : Int) - pc), 3)) (ht : 0 < x → X Z d sg n0 nF Q tgt lv st M) (hf : ¬ 0 < x → X Z d sg n0 nF Q (pc + 3) lv st M) : X Z d sg n0 nF Q pc lv (.int x :: st) M := by
  intro p e R s m args below meth c Qe H locs la hF h1 h2 h3 h4 hR hS hL hE
  exact lv_if_gt hF.1 hF.2.1 hd (by omega) (fun q => ht q p e R s m args below meth c Qe H locs la hF h1 h2 h3 h4 hR hS hL hE) (fun q => hf q p e R s m args below meth c Qe H locs la hF h1 h2 h3 h4 hR hS hL hE)
theorem X_icmp_gt {x y : Int32} {tgt : Nat} (hd : decode sg.2.1 pc = .ok (.if_icmp .gt ((tgt : Int) - pc), 3)) (ht : y < x → X Z d sg n0 nF Q tgt lv st M) (hf : ¬ y < x → X Z d sg n0 nF Q (pc + 3) lv st M) : X Z d sg n0 nF Q pc lv (.int y :: .int x :: st) M := by
  intro p e R s m args below meth c Qe H locs la hF h1 h2 h3 h4 hR hS hL hE
  exact lv_icmp_gt hF.1 hF.2.1 hd (by omega) (fun q => ht q p e R s m args below meth c Qe H locs la hF h1 h2 h3 h4 hR hS hL hE) (fun q => hf q p e R s m args below meth c Qe H locs la hF h1 h2 h3 h4 hR hS hL hE)
theorem X_if_le {x : Int32} {tgt : Nat} (hd : decode sg.2.1 pc = .ok (.ifCond .le ((tgt : Int) - pc), 3)) (ht : x ≤ 0 → X Z d sg n0 nF Q tgt lv st M) (hf : ¬ x ≤ 0 → X Z d sg n0 nF Q (pc + 3) lv st M) : X Z d sg n0 nF Q pc lv (.int x :: st) M := by
  intro p e R s m args below meth c Qe H locs la hF h1 h2 h3 h4 hR hS hL hE
  exact lv_if_le hF.1 hF.2.1 hd (by omega) (fun q => ht q p e R s m args below meth c Qe H locs la hF h1 h2 h3 h4 hR hS hL hE) (fun q => hf q p e R s m args below meth c Qe H locs la hF h1 h2 h3 h4 hR hS hL hE)
theorem X_icmp_le {x y : Int32} {tgt : Nat} (hd : decode sg.2.1 pc = .ok (.if_icmp .le ((tgt : Int) - pc), 3)) (ht : x ≤ y → X Z d sg n0 nF Q tgt lv st M) (hf : ¬ x ≤ y → X Z d sg n0 nF Q (pc + 3) lv st M) : X Z d sg n0 nF Q pc lv (.int y :: .int x :: st) M := by
  intro p e R s m args below meth c Qe H locs la hF h1 h2 h3 h4 hR hS hL hE
  exact lv_icmp_le hF.1 hF.2.1 hd (by omega) (fun q => ht q p e R s m args below meth c Qe H locs la hF h1 h2 h3 h4 hR hS hL hE) (fun q => hf q p e R s m args below meth c Qe H locs la hF h1 h2 h3 h4 hR hS hL hE)
end XR
end
