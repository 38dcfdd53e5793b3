theorem fwF_cases (f : Nat → Nat → Int32) (c : Nat) (col v : Int32) : fwF f c col v = -1 ∨ ∃ k, fwF f c col v = nI k ∧ k < csz f c := by
  rcases fwR_cases (fun k => cellF f c (nI k) col = v) (csz f c) 0 with e | ⟨k, -, h2, -, e⟩
  · exact Or.inl e
  · exact Or.inr ⟨k, e, by omega⟩
theorem rowF_cases (f : Nat → Nat → Int32) (c : Nat) (v : Int32) : rowF f c v = -1 ∨ ∃ k, rowF f c v = nI k ∧ k < csz f c := by
  unfold rowF
  split
  · exact Or.inl rfl
  · exact fwF_cases f c 5 v
theorem nI_geT (k : Nat) (h : k < 2 ^ 31) : (0 ≤ nI k) = True := by
  have := nI_leI (a := 0) (b := k) (by omega) h
  exact eq_true (this.mpr (Nat.zero_le _))
theorem nI_lt0 (k : Nat) (h : k < 2 ^ 31) : (nI k < 0) = False := by
  have := nI_ltI (a := k) (b := 0) h (by omega)
  exact eq_false (fun q => absurd (this.mp q) (Nat.not_lt_zero _))
def wdR (f : Nat → Nat → Int32) (t : Int32) : Int32 := if vT f t then (if fwF f 32 4 t < 0 then -1000001 else nI (csz f 32 - 1)) else -1000000
noncomputable def wdM (M : Mem) (t : Int32) : Mem := if vT (mI M) t ∧ ¬ fwF (mI M) 32 4 t < 0 then mW (kpM M) (rmF (mI (kpM M)) 32 (fwF (mI M) 32 4 t).toNatClampNeg) else M
def e_B_withdraw : Ent := (fun av M => ∃ (o : Nat) (t : Int32), av = [.ref o, .int t] ∧ (o = 16 ∧ WB M), fun av M r_ M_ => ∀ (o : Nat) (t : Int32), av = [.ref o, .int t] → r_ = (some (.int (wdR (mI M) t))) ∧ M_ = (wdM M t))
theorem pc_B_withdraw {o : Nat} {t : Int32} {M : Mem} {K : Option Value → Mem → Prop} (hp : o = 16 ∧ WB M) : pcall e_B_withdraw [.ref o, .int t] M K = K (some (.int (wdR (mI M) t))) (wdM M t) := propext ⟨fun h => h.2 _ _ (fun o' t' e => by simp only [List.cons.injEq, Value.ref.injEq, Value.int.injEq, Value.long.injEq, and_true] at e; obtain ⟨q0, q1⟩ := e; obtain rfl := q0; obtain rfl := q1; exact ⟨rfl, rfl⟩), fun h => ⟨⟨o, t, rfl, hp⟩, fun r_ M_ q => by obtain ⟨rfl, rfl⟩ := q _ _ rfl; exact h⟩⟩
theorem mk_B_withdraw {Z : Zt} {d : Nat} (h : ∀ (o : Nat) (t : Int32) (M : Mem), (o = 16 ∧ WB M) → Gm Z d s_B_withdraw [.ref o, .int t] M (ex (some (.int (wdR (mI M) t))) (wdM M t))) : okE Z d i_B_withdraw e_B_withdraw := by
  rintro av M ⟨o, t, rfl, hp⟩
  exact Gm.cons (h o t M  hp) (fun r_ M_ q o' t' e => by simp only [List.cons.injEq, Value.ref.injEq, Value.int.injEq, Value.long.injEq, and_true] at e; obtain ⟨q0, q1⟩ := e; obtain rfl := q0; obtain rfl := q1; exact q)
set_option maxRecDepth 100000 in
set_option maxHeartbeats 4000000 in
theorem ok_B_withdraw (Z : Zt) (d : Nat) : okE Z (d + 5) i_B_withdraw e_B_withdraw := mk_B_withdraw fun o t M hp => by
  obtain ⟨rfl, hW⟩ := hp
  have hW2 := kp_W hW
  obtain ⟨hB, hD, hD2, hH, hT⟩ := hW
  have hL := bk_now hB
  have hkp : ∀ {K : Option Value → Mem → Prop}, pcall e_H_keep [.ref 50, .ref 20] M K = K none (kpM M) := pc_H_keep (o := 50) (b := 20) (M := M) ⟨rfl, rfl, hB, hD, hH⟩
  have hkI : ∀ {x y}, x < 50 ∨ 171 < x → mI (kpM M) x y = mI M x y := fun {x y} h => kp_i hB hH h
  have hn2 := kp_n M

  have hc24 : csz (mI M) 32 ≤ 24 := hD.2.2.2.1
  have hw := fwF_cases (mI M) 32 4 t
  have hfw : ∀ {K : Option Value → Mem → Prop}, pcall e_C_firstWith [.ref 32, .int 4, .int t] M K = K (some (.int (fwF (mI M) 32 4 t))) M := pc_C_firstWith (ld_cd hL hD)
  have hz : csz (mI (kpM M)) 32 = csz (mI M) 32 := by unfold csz; rw [hkI (by omega)]
  unfold wdR wdM
  generalize hf : fwF (mI M) 32 4 t = w at *
  generalize hM2 : kpM M = M2 at *
  have hB2 : BkS M2 := hW2.1
  have hq : ∀ k, rmF (mI M2) 32 k 32 2 = nI (csz (mI M) 32 - 1) := fun k => by rw [rmF_s, hz]
  have hrm : ∀ {k : Nat} {K : Option Value → Mem → Prop}, k < csz (mI M) 32 → pcall e_C_remove [.ref 32, .int (nI k)] M2 K = K none (mW M2 (rmF (mI M2) 32 k)) := fun h => pc_C_remove ⟨ld_cd (bk_now hB2) hW2.2.1, by rw [hz]; exact h⟩ (by omega)
  have hC : ∀ q ∈ [(i_L_hasTenant, e_L_hasTenant), (i_C_firstWith, e_C_firstWith), (i_H_keep, e_H_keep), (i_C_remove, e_C_remove)], okE Z (d + 4) q.1 q.2 := (okE_cons (ok_L_hasTenant Z (d + 3)) (okE_cons (ok_C_firstWith Z (d + 1)) (okE_cons (ok_H_keep Z d) (okE_cons (ok_C_remove Z (d + 2)) okE_nil))))
  by_cases h1 : 0 ≤ t ∧ t < nI (lnT (mI M) 20)
  · rcases hw with rfl | ⟨k, rfl, hk⟩
    · refine Gm_run (S := [34]) [some (.ref 16), some (.int t), none] 100 k_B_withdraw hC (ex_n (by simp [m1_neg])) ?_
      simp (maxSteps := 3000000) (disch := first | exact True.intro | assumption | omega) only [↓run, ↓go, ↓jmp, seek, inS, ↓e0, ↓e1, ↓e2, ↓e3, ↓e4, ↓e5, ↓tsw, ↓e7, ↓e8, ↓e9, ↓e10, ↓e11, ↓e12, ↓splitA, rcv, clook, lget, lset, lset2, lkill, Option.toList, List.nil_append, List.cons_append, wsum, List.map_cons, List.map_nil, List.sum_cons, List.sum_nil, Value.category, Nat.reduceAdd, List.getD_cons_zero, List.getD_cons_succ, ↓reduceIte, if_true, if_false, Bool.false_eq_true, Nat.reduceLeDiff, Nat.reduceEqDiff, true_or, or_true, true_and, and_true, and_self, or_self, not_true, not_false_iff, mR_stI, mN_stI, isO_stI, isA_stI, mI_stI, mR_mW, mN_mW, isO_mW, isA_mW, mI_mW, mW_mW, stI_mW, nI_addL, nI_mulL, nI_subL, nI_ltL, nI_leL, nI_Llt, nI_Lle, nI_eqL, nI_Leq, nI_add, pk_mul, nI_ltI, nI_leI, nI_eq, vpi, nI_clamp, nI_toN, bk_oB hB, bk_oV hB, bk_oH hB, bk_b0 hB, bk_b1 hB, bk_b2 hB, bk_b3 hB, bk_b4 hB, bk_b5 hB, bk_v0 hB, bk_v1 hB, bk_h0 hB, nw_o hB, nw_og hB, nw_od hB, nw_ot hB, nw_r9 hB, nw_r10 hB, nw_r11 hB, nw_r0 hB, nw_r1 hB, nw_r2 hB, nw_r3 hB, nw_r4 hB, nw_r5 hB, nw_r6 hB, nw_r7 hB, nw_r8 hB, nw_a1 hB, nw_a2 hB, nw_a3 hB, nw_a4 hB, nw_a5 hB, nw_a6 hB, nw_a7 hB, nw_a8 hB, nw_a9 hB, nw_a14 hB, nw_as hB, nw_at hB, vR, vT, Nat.not_lt_zero, bv_Tr, bv_Fa, one_n0, eq_self, Nat.zero_le, and_true, true_and, and_false, false_and, not_true, not_false_iff, or_true, true_or, or_false, false_or, mN_mRW, ex_iff, p_B_withdraw, i_L_hasTenant, i_C_firstWith, i_H_keep, i_C_remove, pc_L_hasTenant (b := 20) (M := M) ⟨hL, hD⟩, hfw, m1_neg, m1_nn, h1]
    · refine Gm_run (S := []) [some (.ref 16), some (.int t), none] 100 k_B_withdraw hC (ex_n (by split; exact hn2; rfl)) ?_
      simp (maxSteps := 3000000) (disch := first | exact True.intro | assumption | omega) only [↓run, ↓go, ↓jmp, seek, inS, ↓e0, ↓e1, ↓e2, ↓e3, ↓e4, ↓e5, ↓tsw, ↓e7, ↓e8, ↓e9, ↓e10, ↓e11, ↓e12, ↓splitA, rcv, clook, lget, lset, lset2, lkill, Option.toList, List.nil_append, List.cons_append, wsum, List.map_cons, List.map_nil, List.sum_cons, List.sum_nil, Value.category, Nat.reduceAdd, List.getD_cons_zero, List.getD_cons_succ, ↓reduceIte, if_true, if_false, Bool.false_eq_true, Nat.reduceLeDiff, Nat.reduceEqDiff, true_or, or_true, true_and, and_true, and_self, or_self, not_true, not_false_iff, mR_stI, mN_stI, isO_stI, isA_stI, mI_stI, mR_mW, mN_mW, isO_mW, isA_mW, mI_mW, mW_mW, stI_mW, nI_addL, nI_mulL, nI_subL, nI_ltL, nI_leL, nI_Llt, nI_Lle, nI_eqL, nI_Leq, nI_add, pk_mul, nI_ltI, nI_leI, nI_eq, vpi, nI_clamp, nI_toN, bk_oB hB, bk_oV hB, bk_oH hB, bk_b0 hB, bk_b1 hB, bk_b2 hB, bk_b3 hB, bk_b4 hB, bk_b5 hB, bk_v0 hB, bk_v1 hB, bk_h0 hB, nw_o hB, nw_og hB, nw_od hB, nw_ot hB, nw_r9 hB, nw_r10 hB, nw_r11 hB, nw_r0 hB, nw_r1 hB, nw_r2 hB, nw_r3 hB, nw_r4 hB, nw_r5 hB, nw_r6 hB, nw_r7 hB, nw_r8 hB, nw_a1 hB, nw_a2 hB, nw_a3 hB, nw_a4 hB, nw_a5 hB, nw_a6 hB, nw_a7 hB, nw_a8 hB, nw_a9 hB, nw_a14 hB, nw_as hB, nw_at hB, bk_oB hB2, bk_oV hB2, bk_oH hB2, bk_b0 hB2, bk_b1 hB2, bk_b2 hB2, bk_b3 hB2, bk_b4 hB2, bk_b5 hB2, bk_v0 hB2, bk_v1 hB2, bk_h0 hB2, nw_o hB2, nw_og hB2, nw_od hB2, nw_ot hB2, nw_r9 hB2, nw_r10 hB2, nw_r11 hB2, nw_r0 hB2, nw_r1 hB2, nw_r2 hB2, nw_r3 hB2, nw_r4 hB2, nw_r5 hB2, nw_r6 hB2, nw_r7 hB2, nw_r8 hB2, nw_a1 hB2, nw_a2 hB2, nw_a3 hB2, nw_a4 hB2, nw_a5 hB2, nw_a6 hB2, nw_a7 hB2, nw_a8 hB2, nw_a9 hB2, nw_a14 hB2, nw_as hB2, nw_at hB2, vR, vT, Nat.not_lt_zero, bv_Tr, bv_Fa, one_n0, eq_self, Nat.zero_le, and_true, true_and, and_false, false_and, not_true, not_false_iff, or_true, true_or, or_false, false_or, mN_mRW, ex_iff, p_B_withdraw, i_L_hasTenant, i_C_firstWith, i_H_keep, i_C_remove, pc_L_hasTenant (b := 20) (M := M) ⟨hL, hD⟩, hfw, hkp, hrm hk, hq, nI_geT, nI_lt0, h1]
  · refine Gm_run (S := [14]) [some (.ref 16), some (.int t), none] 100 k_B_withdraw hC (ex_n (by simp [h1])) ?_
    simp (maxSteps := 3000000) (disch := first | exact True.intro | assumption | omega) only [↓run, ↓go, ↓jmp, seek, inS, ↓e0, ↓e1, ↓e2, ↓e3, ↓e4, ↓e5, ↓tsw, ↓e7, ↓e8, ↓e9, ↓e10, ↓e11, ↓e12, ↓splitA, rcv, clook, lget, lset, lset2, lkill, Option.toList, List.nil_append, List.cons_append, wsum, List.map_cons, List.map_nil, List.sum_cons, List.sum_nil, Value.category, Nat.reduceAdd, List.getD_cons_zero, List.getD_cons_succ, ↓reduceIte, if_true, if_false, Bool.false_eq_true, Nat.reduceLeDiff, Nat.reduceEqDiff, true_or, or_true, true_and, and_true, and_self, or_self, not_true, not_false_iff, mR_stI, mN_stI, isO_stI, isA_stI, mI_stI, mR_mW, mN_mW, isO_mW, isA_mW, mI_mW, mW_mW, stI_mW, nI_addL, nI_mulL, nI_subL, nI_ltL, nI_leL, nI_Llt, nI_Lle, nI_eqL, nI_Leq, nI_add, pk_mul, nI_ltI, nI_leI, nI_eq, vpi, nI_clamp, nI_toN, bk_oB hB, bk_oV hB, bk_oH hB, bk_b0 hB, bk_b1 hB, bk_b2 hB, bk_b3 hB, bk_b4 hB, bk_b5 hB, bk_v0 hB, bk_v1 hB, bk_h0 hB, nw_o hB, nw_og hB, nw_od hB, nw_ot hB, nw_r9 hB, nw_r10 hB, nw_r11 hB, nw_r0 hB, nw_r1 hB, nw_r2 hB, nw_r3 hB, nw_r4 hB, nw_r5 hB, nw_r6 hB, nw_r7 hB, nw_r8 hB, nw_a1 hB, nw_a2 hB, nw_a3 hB, nw_a4 hB, nw_a5 hB, nw_a6 hB, nw_a7 hB, nw_a8 hB, nw_a9 hB, nw_a14 hB, nw_as hB, nw_at hB, vR, vT, Nat.not_lt_zero, bv_Tr, bv_Fa, one_n0, eq_self, Nat.zero_le, and_true, true_and, and_false, false_and, not_true, not_false_iff, or_true, true_or, or_false, false_or, mN_mRW, ex_iff, p_B_withdraw, i_L_hasTenant, i_C_firstWith, i_H_keep, i_C_remove, pc_L_hasTenant (b := 20) (M := M) ⟨hL, hD⟩, h1]
def gtR (f : Nat → Nat → Int32) : Int32 := if ndF f 20 < 0 then -1000001 else if 40 ≤ csz f 30 then -1000002 else f 33 ((ndF f 20).toNatClampNeg * 6 + 4)
noncomputable def gtM (M : Mem) : Mem := if ndF (mI M) 20 < 0 ∨ 40 ≤ csz (mI M) 30 then M else mW (kpM M) (svF (mI (kpM M)) 20 (ndF (mI M) 20).toNatClampNeg)
def e_B_grant : Ent := (fun av M => ∃ (o : Nat), av = [.ref o] ∧ (o = 16 ∧ WB M), fun av M r_ M_ => ∀ (o : Nat), av = [.ref o] → r_ = (some (.int (gtR (mI M)))) ∧ M_ = (gtM M))
theorem pc_B_grant {o : Nat} {M : Mem} {K : Option Value → Mem → Prop} (hp : o = 16 ∧ WB M) : pcall e_B_grant [.ref o] M K = K (some (.int (gtR (mI M)))) (gtM M) := propext ⟨fun h => h.2 _ _ (fun o' e => by simp only [List.cons.injEq, Value.ref.injEq, Value.int.injEq, Value.long.injEq, and_true] at e; have q0 := e; obtain rfl := q0; exact ⟨rfl, rfl⟩), fun h => ⟨⟨o, rfl, hp⟩, fun r_ M_ q => by obtain ⟨rfl, rfl⟩ := q _ rfl; exact h⟩⟩
theorem mk_B_grant {Z : Zt} {d : Nat} (h : ∀ (o : Nat) (M : Mem), (o = 16 ∧ WB M) → Gm Z d s_B_grant [.ref o] M (ex (some (.int (gtR (mI M)))) (gtM M))) : okE Z d i_B_grant e_B_grant := by
  rintro av M ⟨o, rfl, hp⟩
  exact Gm.cons (h o M  hp) (fun r_ M_ q o' e => by simp only [List.cons.injEq, Value.ref.injEq, Value.int.injEq, Value.long.injEq, and_true] at e; have q0 := e; obtain rfl := q0; exact q)
set_option maxRecDepth 100000 in
set_option maxHeartbeats 4000000 in
theorem ok_B_grant (Z : Zt) (d : Nat) : okE Z (d + 5) i_B_grant e_B_grant := mk_B_grant fun o M hp => by
  obtain ⟨rfl, hW⟩ := hp
  have hW2 := kp_W hW
  obtain ⟨hB, hD, hD2, hH, hT⟩ := hW
  have hL := bk_now hB
  have hkp : ∀ {K : Option Value → Mem → Prop}, pcall e_H_keep [.ref 50, .ref 20] M K = K none (kpM M) := pc_H_keep (o := 50) (b := 20) (M := M) ⟨rfl, rfl, hB, hD, hH⟩
  have hkI : ∀ {x y}, x < 50 ∨ 171 < x → mI (kpM M) x y = mI M x y := fun {x y} h => kp_i hB hH h
  have hn2 := kp_n M

  have hc24 : csz (mI M) 32 ≤ 24 := hD.2.2.2.1
  have hw := ndF_cases (mI M) 20
  have hcc : ccap 30 = 40 := rfl
  have hnd : ∀ {K : Option Value → Mem → Prop}, pcall e_L_nextDemand [.ref 20] M K = K (some (.int (ndF (mI M) 20))) M := pc_L_nextDemand ⟨hL, hD⟩
  have hfl : ∀ {K : Option Value → Mem → Prop}, pcall e_C_isFull [.ref 30] M K = K (some (.int (bv (40 ≤ csz (mI M) 30)))) M := by
    intro K
    rw [pc_C_isFull (c := 30) (M := M) (ld_cg hL hD), hcc]
  have hz : csz (mI (kpM M)) 32 = csz (mI M) 32 := by unfold csz; rw [hkI (by omega)]
  have hzg : csz (mI (kpM M)) 30 = csz (mI M) 30 := by unfold csz; rw [hkI (by omega)]
  unfold gtR gtM
  generalize hf : ndF (mI M) 20 = w at *
  generalize hM2 : kpM M = M2 at *
  have hB2 : BkS M2 := hW2.1
  have hC : ∀ q ∈ [(i_L_nextDemand, e_L_nextDemand), (i_C_isFull, e_C_isFull), (i_H_keep, e_H_keep), (i_L_serve, e_L_serve)], okE Z (d + 4) q.1 q.2 := (okE_cons (ok_L_nextDemand Z d) (okE_cons (ok_C_isFull Z (d + 3)) (okE_cons (ok_H_keep Z d) (okE_cons (ok_L_serve Z d) okE_nil))))
  rcases hw with rfl | ⟨k, hk, rfl⟩
  · refine Gm_run (S := [15]) [some (.ref 16), none] 100 k_B_grant hC (ex_n (by simp [m1_neg])) ?_
    simp (maxSteps := 3000000) (disch := first | exact True.intro | assumption | omega) only [↓run, ↓go, ↓jmp, seek, inS, ↓e0, ↓e1, ↓e2, ↓e3, ↓e4, ↓e5, ↓tsw, ↓e7, ↓e8, ↓e9, ↓e10, ↓e11, ↓e12, ↓splitA, rcv, clook, lget, lset, lset2, lkill, Option.toList, List.nil_append, List.cons_append, wsum, List.map_cons, List.map_nil, List.sum_cons, List.sum_nil, Value.category, Nat.reduceAdd, List.getD_cons_zero, List.getD_cons_succ, ↓reduceIte, if_true, if_false, Bool.false_eq_true, Nat.reduceLeDiff, Nat.reduceEqDiff, true_or, or_true, true_and, and_true, and_self, or_self, not_true, not_false_iff, mR_stI, mN_stI, isO_stI, isA_stI, mI_stI, mR_mW, mN_mW, isO_mW, isA_mW, mI_mW, mW_mW, stI_mW, nI_addL, nI_mulL, nI_subL, nI_ltL, nI_leL, nI_Llt, nI_Lle, nI_eqL, nI_Leq, nI_add, pk_mul, nI_ltI, nI_leI, nI_eq, vpi, nI_clamp, nI_toN, bk_oB hB, bk_oV hB, bk_oH hB, bk_b0 hB, bk_b1 hB, bk_b2 hB, bk_b3 hB, bk_b4 hB, bk_b5 hB, bk_v0 hB, bk_v1 hB, bk_h0 hB, nw_o hB, nw_og hB, nw_od hB, nw_ot hB, nw_r9 hB, nw_r10 hB, nw_r11 hB, nw_r0 hB, nw_r1 hB, nw_r2 hB, nw_r3 hB, nw_r4 hB, nw_r5 hB, nw_r6 hB, nw_r7 hB, nw_r8 hB, nw_a1 hB, nw_a2 hB, nw_a3 hB, nw_a4 hB, nw_a5 hB, nw_a6 hB, nw_a7 hB, nw_a8 hB, nw_a9 hB, nw_a14 hB, nw_as hB, nw_at hB, vR, vT, Nat.not_lt_zero, bv_Tr, bv_Fa, one_n0, eq_self, Nat.zero_le, and_true, true_and, and_false, false_and, not_true, not_false_iff, or_true, true_or, or_false, false_or, mN_mRW, ex_iff, p_B_grant, i_L_nextDemand, i_C_isFull, i_H_keep, i_L_serve, hnd, m1_neg, m1_nn]
  · have hk : k < csz (mI M) 32 := hk
    by_cases h1 : 40 ≤ csz (mI M) 30
    · refine Gm_run (S := [31]) [some (.ref 16), none] 100 k_B_grant hC (ex_n (by simp [h1])) ?_
      simp (maxSteps := 3000000) (disch := first | exact True.intro | assumption | omega) only [↓run, ↓go, ↓jmp, seek, inS, ↓e0, ↓e1, ↓e2, ↓e3, ↓e4, ↓e5, ↓tsw, ↓e7, ↓e8, ↓e9, ↓e10, ↓e11, ↓e12, ↓splitA, rcv, clook, lget, lset, lset2, lkill, Option.toList, List.nil_append, List.cons_append, wsum, List.map_cons, List.map_nil, List.sum_cons, List.sum_nil, Value.category, Nat.reduceAdd, List.getD_cons_zero, List.getD_cons_succ, ↓reduceIte, if_true, if_false, Bool.false_eq_true, Nat.reduceLeDiff, Nat.reduceEqDiff, true_or, or_true, true_and, and_true, and_self, or_self, not_true, not_false_iff, mR_stI, mN_stI, isO_stI, isA_stI, mI_stI, mR_mW, mN_mW, isO_mW, isA_mW, mI_mW, mW_mW, stI_mW, nI_addL, nI_mulL, nI_subL, nI_ltL, nI_leL, nI_Llt, nI_Lle, nI_eqL, nI_Leq, nI_add, pk_mul, nI_ltI, nI_leI, nI_eq, vpi, nI_clamp, nI_toN, bk_oB hB, bk_oV hB, bk_oH hB, bk_b0 hB, bk_b1 hB, bk_b2 hB, bk_b3 hB, bk_b4 hB, bk_b5 hB, bk_v0 hB, bk_v1 hB, bk_h0 hB, nw_o hB, nw_og hB, nw_od hB, nw_ot hB, nw_r9 hB, nw_r10 hB, nw_r11 hB, nw_r0 hB, nw_r1 hB, nw_r2 hB, nw_r3 hB, nw_r4 hB, nw_r5 hB, nw_r6 hB, nw_r7 hB, nw_r8 hB, nw_a1 hB, nw_a2 hB, nw_a3 hB, nw_a4 hB, nw_a5 hB, nw_a6 hB, nw_a7 hB, nw_a8 hB, nw_a9 hB, nw_a14 hB, nw_as hB, nw_at hB, vR, vT, Nat.not_lt_zero, bv_Tr, bv_Fa, one_n0, eq_self, Nat.zero_le, and_true, true_and, and_false, false_and, not_true, not_false_iff, or_true, true_or, or_false, false_or, mN_mRW, ex_iff, p_B_grant, i_L_nextDemand, i_C_isFull, i_H_keep, i_L_serve, hnd, hfl, nI_geT, nI_lt0, h1]
    · have hsv : ∀ {K : Option Value → Mem → Prop}, pcall e_L_serve [.ref 20, .int (nI k)] M2 K = K (some (.int (mI M 33 (k * 6 + 4)))) (mW M2 (svF (mI M2) 20 k)) := by
        intro K
        rw [pc_L_serve (b := 20) (k := k) (M := M2) ⟨⟨bk_now hB2, hW2.2.1⟩, by show k < csz (mI M2) 32; rw [hz]; exact hk, by show csz (mI M2) 30 < 40; rw [hzg]; omega⟩ (by omega), hkI (by omega)]
      refine Gm_run (S := []) [some (.ref 16), none] 100 k_B_grant hC (ex_n (by split; rfl; exact hn2)) ?_
      simp (maxSteps := 3000000) (disch := first | exact True.intro | assumption | omega) only [↓run, ↓go, ↓jmp, seek, inS, ↓e0, ↓e1, ↓e2, ↓e3, ↓e4, ↓e5, ↓tsw, ↓e7, ↓e8, ↓e9, ↓e10, ↓e11, ↓e12, ↓splitA, rcv, clook, lget, lset, lset2, lkill, Option.toList, List.nil_append, List.cons_append, wsum, List.map_cons, List.map_nil, List.sum_cons, List.sum_nil, Value.category, Nat.reduceAdd, List.getD_cons_zero, List.getD_cons_succ, ↓reduceIte, if_true, if_false, Bool.false_eq_true, Nat.reduceLeDiff, Nat.reduceEqDiff, true_or, or_true, true_and, and_true, and_self, or_self, not_true, not_false_iff, mR_stI, mN_stI, isO_stI, isA_stI, mI_stI, mR_mW, mN_mW, isO_mW, isA_mW, mI_mW, mW_mW, stI_mW, nI_addL, nI_mulL, nI_subL, nI_ltL, nI_leL, nI_Llt, nI_Lle, nI_eqL, nI_Leq, nI_add, pk_mul, nI_ltI, nI_leI, nI_eq, vpi, nI_clamp, nI_toN, bk_oB hB, bk_oV hB, bk_oH hB, bk_b0 hB, bk_b1 hB, bk_b2 hB, bk_b3 hB, bk_b4 hB, bk_b5 hB, bk_v0 hB, bk_v1 hB, bk_h0 hB, nw_o hB, nw_og hB, nw_od hB, nw_ot hB, nw_r9 hB, nw_r10 hB, nw_r11 hB, nw_r0 hB, nw_r1 hB, nw_r2 hB, nw_r3 hB, nw_r4 hB, nw_r5 hB, nw_r6 hB, nw_r7 hB, nw_r8 hB, nw_a1 hB, nw_a2 hB, nw_a3 hB, nw_a4 hB, nw_a5 hB, nw_a6 hB, nw_a7 hB, nw_a8 hB, nw_a9 hB, nw_a14 hB, nw_as hB, nw_at hB, bk_oB hB2, bk_oV hB2, bk_oH hB2, bk_b0 hB2, bk_b1 hB2, bk_b2 hB2, bk_b3 hB2, bk_b4 hB2, bk_b5 hB2, bk_v0 hB2, bk_v1 hB2, bk_h0 hB2, nw_o hB2, nw_og hB2, nw_od hB2, nw_ot hB2, nw_r9 hB2, nw_r10 hB2, nw_r11 hB2, nw_r0 hB2, nw_r1 hB2, nw_r2 hB2, nw_r3 hB2, nw_r4 hB2, nw_r5 hB2, nw_r6 hB2, nw_r7 hB2, nw_r8 hB2, nw_a1 hB2, nw_a2 hB2, nw_a3 hB2, nw_a4 hB2, nw_a5 hB2, nw_a6 hB2, nw_a7 hB2, nw_a8 hB2, nw_a9 hB2, nw_a14 hB2, nw_as hB2, nw_at hB2, vR, vT, Nat.not_lt_zero, bv_Tr, bv_Fa, one_n0, eq_self, Nat.zero_le, and_true, true_and, and_false, false_and, not_true, not_false_iff, or_true, true_or, or_false, false_or, mN_mRW, ex_iff, p_B_grant, i_L_nextDemand, i_C_isFull, i_H_keep, i_L_serve, hnd, hfl, hkp, hsv, nI_geT, nI_lt0, h1]
def gaR (f g : Nat → Nat → Int32) : Int32 := if ndF f 20 < 0 then -1000001 else if 40 ≤ csz f 30 then -1000002 else nI (saP 20 172 24 g 0).2
noncomputable def gaM (M : Mem) : Mem := if ndF (mI M) 20 < 0 ∨ 40 ≤ csz (mI M) 30 then M else mW (kpM M) (saP 20 172 24 (mI (kpM M)) 0).1
def e_B_grantAll : Ent := (fun av M => ∃ (o : Nat), av = [.ref o] ∧ (o = 16 ∧ WB M), fun av M r_ M_ => ∀ (o : Nat), av = [.ref o] → r_ = (some (.int (gaR (mI M) (mI (kpM M))))) ∧ M_ = (gaM M))
theorem pc_B_grantAll {o : Nat} {M : Mem} {K : Option Value → Mem → Prop} (hp : o = 16 ∧ WB M) : pcall e_B_grantAll [.ref o] M K = K (some (.int (gaR (mI M) (mI (kpM M))))) (gaM M) := propext ⟨fun h => h.2 _ _ (fun o' e => by simp only [List.cons.injEq, Value.ref.injEq, Value.int.injEq, Value.long.injEq, and_true] at e; have q0 := e; obtain rfl := q0; exact ⟨rfl, rfl⟩), fun h => ⟨⟨o, rfl, hp⟩, fun r_ M_ q => by obtain ⟨rfl, rfl⟩ := q _ rfl; exact h⟩⟩
theorem mk_B_grantAll {Z : Zt} {d : Nat} (h : ∀ (o : Nat) (M : Mem), (o = 16 ∧ WB M) → Gm Z d s_B_grantAll [.ref o] M (ex (some (.int (gaR (mI M) (mI (kpM M))))) (gaM M))) : okE Z d i_B_grantAll e_B_grantAll := by
  rintro av M ⟨o, rfl, hp⟩
  exact Gm.cons (h o M  hp) (fun r_ M_ q o' e => by simp only [List.cons.injEq, Value.ref.injEq, Value.int.injEq, Value.long.injEq, and_true] at e; have q0 := e; obtain rfl := q0; exact q)
set_option maxRecDepth 100000 in
set_option maxHeartbeats 4000000 in
theorem ok_B_grantAll (Z : Zt) (d : Nat) : okE Z (d + 6) i_B_grantAll e_B_grantAll := mk_B_grantAll fun o M hp => by
  obtain ⟨rfl, hW⟩ := hp
  have hW2 := kp_W hW
  obtain ⟨hB, hD, hD2, hH, hT⟩ := hW
  have hL := bk_now hB
  have hkp : ∀ {K : Option Value → Mem → Prop}, pcall e_H_keep [.ref 50, .ref 20] M K = K none (kpM M) := pc_H_keep (o := 50) (b := 20) (M := M) ⟨rfl, rfl, hB, hD, hH⟩
  have hkI : ∀ {x y}, x < 50 ∨ 171 < x → mI (kpM M) x y = mI M x y := fun {x y} h => kp_i hB hH h
  have hn2 := kp_n M

  have hw := ndF_cases (mI M) 20
  have hcc : ccap 30 = 40 := rfl
  have hc24 : csz (mI M) 32 ≤ 24 := hD.2.2.2.1
  have hnd : ∀ {K : Option Value → Mem → Prop}, pcall e_L_nextDemand [.ref 20] M K = K (some (.int (ndF (mI M) 20))) M := pc_L_nextDemand ⟨hL, hD⟩
  have hfl : ∀ {K : Option Value → Mem → Prop}, pcall e_C_isFull [.ref 30] M K = K (some (.int (bv (40 ≤ csz (mI M) 30)))) M := by
    intro K
    rw [pc_C_isFull (c := 30) (M := M) (ld_cg hL hD), hcc]
  unfold gaR gaM
  generalize hf : ndF (mI M) 20 = w at *
  generalize hM2 : kpM M = M2 at *
  have hB2 : BkS M2 := hW2.1
  have hsa : ∀ {K : Option Value → Mem → Prop}, pcall e_L_serveAll [.ref 20, .ref 172] M2 K = K (some (.int (nI (saP 20 172 24 (mI M2) 0).2))) (mW M2 (saP 20 172 24 (mI M2) 0).1) := pc_L_serveAll ⟨⟨bk_now hB2, hW2.2.1⟩, (by have := hB2.1; omega), rfl, by omega⟩
  generalize hS : saP 20 172 24 (mI M2) 0 = S at *
  have hC : ∀ q ∈ [(i_L_nextDemand, e_L_nextDemand), (i_C_isFull, e_C_isFull), (i_H_keep, e_H_keep), (i_L_serveAll, e_L_serveAll)], okE Z (d + 5) q.1 q.2 := (okE_cons (ok_L_nextDemand Z (d + 1)) (okE_cons (ok_C_isFull Z (d + 4)) (okE_cons (ok_H_keep Z (d + 1)) (okE_cons (ok_L_serveAll Z d) okE_nil))))
  rcases hw with rfl | ⟨k, hk, rfl⟩
  · refine Gm_run (S := [13]) [some (.ref 16)] 100 k_B_grantAll hC (ex_n (by simp [m1_neg])) ?_
    simp (maxSteps := 3000000) (disch := first | exact True.intro | assumption | omega) only [↓run, ↓go, ↓jmp, seek, inS, ↓e0, ↓e1, ↓e2, ↓e3, ↓e4, ↓e5, ↓tsw, ↓e7, ↓e8, ↓e9, ↓e10, ↓e11, ↓e12, ↓splitA, rcv, clook, lget, lset, lset2, lkill, Option.toList, List.nil_append, List.cons_append, wsum, List.map_cons, List.map_nil, List.sum_cons, List.sum_nil, Value.category, Nat.reduceAdd, List.getD_cons_zero, List.getD_cons_succ, ↓reduceIte, if_true, if_false, Bool.false_eq_true, Nat.reduceLeDiff, Nat.reduceEqDiff, true_or, or_true, true_and, and_true, and_self, or_self, not_true, not_false_iff, mR_stI, mN_stI, isO_stI, isA_stI, mI_stI, mR_mW, mN_mW, isO_mW, isA_mW, mI_mW, mW_mW, stI_mW, nI_addL, nI_mulL, nI_subL, nI_ltL, nI_leL, nI_Llt, nI_Lle, nI_eqL, nI_Leq, nI_add, pk_mul, nI_ltI, nI_leI, nI_eq, vpi, nI_clamp, nI_toN, bk_oB hB, bk_oV hB, bk_oH hB, bk_b0 hB, bk_b1 hB, bk_b2 hB, bk_b3 hB, bk_b4 hB, bk_b5 hB, bk_v0 hB, bk_v1 hB, bk_h0 hB, nw_o hB, nw_og hB, nw_od hB, nw_ot hB, nw_r9 hB, nw_r10 hB, nw_r11 hB, nw_r0 hB, nw_r1 hB, nw_r2 hB, nw_r3 hB, nw_r4 hB, nw_r5 hB, nw_r6 hB, nw_r7 hB, nw_r8 hB, nw_a1 hB, nw_a2 hB, nw_a3 hB, nw_a4 hB, nw_a5 hB, nw_a6 hB, nw_a7 hB, nw_a8 hB, nw_a9 hB, nw_a14 hB, nw_as hB, nw_at hB, vR, vT, Nat.not_lt_zero, bv_Tr, bv_Fa, one_n0, eq_self, Nat.zero_le, and_true, true_and, and_false, false_and, not_true, not_false_iff, or_true, true_or, or_false, false_or, mN_mRW, ex_iff, p_B_grantAll, i_L_nextDemand, i_C_isFull, i_H_keep, i_L_serveAll, hnd, m1_neg, m1_nn]
  · have hk : k < csz (mI M) 32 := hk
    by_cases h1 : 40 ≤ csz (mI M) 30
    · refine Gm_run (S := [29]) [some (.ref 16)] 100 k_B_grantAll hC (ex_n (by simp [h1])) ?_
      simp (maxSteps := 3000000) (disch := first | exact True.intro | assumption | omega) only [↓run, ↓go, ↓jmp, seek, inS, ↓e0, ↓e1, ↓e2, ↓e3, ↓e4, ↓e5, ↓tsw, ↓e7, ↓e8, ↓e9, ↓e10, ↓e11, ↓e12, ↓splitA, rcv, clook, lget, lset, lset2, lkill, Option.toList, List.nil_append, List.cons_append, wsum, List.map_cons, List.map_nil, List.sum_cons, List.sum_nil, Value.category, Nat.reduceAdd, List.getD_cons_zero, List.getD_cons_succ, ↓reduceIte, if_true, if_false, Bool.false_eq_true, Nat.reduceLeDiff, Nat.reduceEqDiff, true_or, or_true, true_and, and_true, and_self, or_self, not_true, not_false_iff, mR_stI, mN_stI, isO_stI, isA_stI, mI_stI, mR_mW, mN_mW, isO_mW, isA_mW, mI_mW, mW_mW, stI_mW, nI_addL, nI_mulL, nI_subL, nI_ltL, nI_leL, nI_Llt, nI_Lle, nI_eqL, nI_Leq, nI_add, pk_mul, nI_ltI, nI_leI, nI_eq, vpi, nI_clamp, nI_toN, bk_oB hB, bk_oV hB, bk_oH hB, bk_b0 hB, bk_b1 hB, bk_b2 hB, bk_b3 hB, bk_b4 hB, bk_b5 hB, bk_v0 hB, bk_v1 hB, bk_h0 hB, nw_o hB, nw_og hB, nw_od hB, nw_ot hB, nw_r9 hB, nw_r10 hB, nw_r11 hB, nw_r0 hB, nw_r1 hB, nw_r2 hB, nw_r3 hB, nw_r4 hB, nw_r5 hB, nw_r6 hB, nw_r7 hB, nw_r8 hB, nw_a1 hB, nw_a2 hB, nw_a3 hB, nw_a4 hB, nw_a5 hB, nw_a6 hB, nw_a7 hB, nw_a8 hB, nw_a9 hB, nw_a14 hB, nw_as hB, nw_at hB, vR, vT, Nat.not_lt_zero, bv_Tr, bv_Fa, one_n0, eq_self, Nat.zero_le, and_true, true_and, and_false, false_and, not_true, not_false_iff, or_true, true_or, or_false, false_or, mN_mRW, ex_iff, p_B_grantAll, i_L_nextDemand, i_C_isFull, i_H_keep, i_L_serveAll, hnd, hfl, nI_geT, nI_lt0, h1]
    · refine Gm_run (S := []) [some (.ref 16)] 100 k_B_grantAll hC (ex_n (by split; rfl; exact hn2)) ?_
      simp (maxSteps := 3000000) (disch := first | exact True.intro | assumption | omega) only [↓run, ↓go, ↓jmp, seek, inS, ↓e0, ↓e1, ↓e2, ↓e3, ↓e4, ↓e5, ↓tsw, ↓e7, ↓e8, ↓e9, ↓e10, ↓e11, ↓e12, ↓splitA, rcv, clook, lget, lset, lset2, lkill, Option.toList, List.nil_append, List.cons_append, wsum, List.map_cons, List.map_nil, List.sum_cons, List.sum_nil, Value.category, Nat.reduceAdd, List.getD_cons_zero, List.getD_cons_succ, ↓reduceIte, if_true, if_false, Bool.false_eq_true, Nat.reduceLeDiff, Nat.reduceEqDiff, true_or, or_true, true_and, and_true, and_self, or_self, not_true, not_false_iff, mR_stI, mN_stI, isO_stI, isA_stI, mI_stI, mR_mW, mN_mW, isO_mW, isA_mW, mI_mW, mW_mW, stI_mW, nI_addL, nI_mulL, nI_subL, nI_ltL, nI_leL, nI_Llt, nI_Lle, nI_eqL, nI_Leq, nI_add, pk_mul, nI_ltI, nI_leI, nI_eq, vpi, nI_clamp, nI_toN, bk_oB hB, bk_oV hB, bk_oH hB, bk_b0 hB, bk_b1 hB, bk_b2 hB, bk_b3 hB, bk_b4 hB, bk_b5 hB, bk_v0 hB, bk_v1 hB, bk_h0 hB, nw_o hB, nw_og hB, nw_od hB, nw_ot hB, nw_r9 hB, nw_r10 hB, nw_r11 hB, nw_r0 hB, nw_r1 hB, nw_r2 hB, nw_r3 hB, nw_r4 hB, nw_r5 hB, nw_r6 hB, nw_r7 hB, nw_r8 hB, nw_a1 hB, nw_a2 hB, nw_a3 hB, nw_a4 hB, nw_a5 hB, nw_a6 hB, nw_a7 hB, nw_a8 hB, nw_a9 hB, nw_a14 hB, nw_as hB, nw_at hB, bk_oB hB2, bk_oV hB2, bk_oH hB2, bk_b0 hB2, bk_b1 hB2, bk_b2 hB2, bk_b3 hB2, bk_b4 hB2, bk_b5 hB2, bk_v0 hB2, bk_v1 hB2, bk_h0 hB2, nw_o hB2, nw_og hB2, nw_od hB2, nw_ot hB2, nw_r9 hB2, nw_r10 hB2, nw_r11 hB2, nw_r0 hB2, nw_r1 hB2, nw_r2 hB2, nw_r3 hB2, nw_r4 hB2, nw_r5 hB2, nw_r6 hB2, nw_r7 hB2, nw_r8 hB2, nw_a1 hB2, nw_a2 hB2, nw_a3 hB2, nw_a4 hB2, nw_a5 hB2, nw_a6 hB2, nw_a7 hB2, nw_a8 hB2, nw_a9 hB2, nw_a14 hB2, nw_as hB2, nw_at hB2, vR, vT, Nat.not_lt_zero, bv_Tr, bv_Fa, one_n0, eq_self, Nat.zero_le, and_true, true_and, and_false, false_and, not_true, not_false_iff, or_true, true_or, or_false, false_or, mN_mRW, ex_iff, p_B_grantAll, i_L_nextDemand, i_C_isFull, i_H_keep, i_L_serveAll, hnd, hfl, hkp, hsa, nI_geT, nI_lt0, h1]
def rlR (f : Nat → Nat → Int32) (n : Int32) : Int32 := if rowF f 30 n < 0 then -1000000 else nI (csz f 30 - 1)
noncomputable def rlM (M : Mem) (n : Int32) : Mem := if rowF (mI M) 30 n < 0 then M else mW (kpM M) (rmF (auF (mI (kpM M)) 20 30 (rowF (mI M) 30 n).toNatClampNeg (-1)) 30 (rowF (mI M) 30 n).toNatClampNeg)
def e_B_release : Ent := (fun av M => ∃ (o : Nat) (n : Int32), av = [.ref o, .int n] ∧ (o = 16 ∧ WB M), fun av M r_ M_ => ∀ (o : Nat) (n : Int32), av = [.ref o, .int n] → r_ = (some (.int (rlR (mI M) n))) ∧ M_ = (rlM M n))
theorem pc_B_release {o : Nat} {n : Int32} {M : Mem} {K : Option Value → Mem → Prop} (hp : o = 16 ∧ WB M) : pcall e_B_release [.ref o, .int n] M K = K (some (.int (rlR (mI M) n))) (rlM M n) := propext ⟨fun h => h.2 _ _ (fun o' n' e => by simp only [List.cons.injEq, Value.ref.injEq, Value.int.injEq, Value.long.injEq, and_true] at e; obtain ⟨q0, q1⟩ := e; obtain rfl := q0; obtain rfl := q1; exact ⟨rfl, rfl⟩), fun h => ⟨⟨o, n, rfl, hp⟩, fun r_ M_ q => by obtain ⟨rfl, rfl⟩ := q _ _ rfl; exact h⟩⟩
theorem mk_B_release {Z : Zt} {d : Nat} (h : ∀ (o : Nat) (n : Int32) (M : Mem), (o = 16 ∧ WB M) → Gm Z d s_B_release [.ref o, .int n] M (ex (some (.int (rlR (mI M) n))) (rlM M n))) : okE Z d i_B_release e_B_release := by
  rintro av M ⟨o, n, rfl, hp⟩
  exact Gm.cons (h o n M  hp) (fun r_ M_ q o' n' e => by simp only [List.cons.injEq, Value.ref.injEq, Value.int.injEq, Value.long.injEq, and_true] at e; obtain ⟨q0, q1⟩ := e; obtain rfl := q0; obtain rfl := q1; exact q)
set_option maxRecDepth 100000 in
set_option maxHeartbeats 4000000 in
theorem ok_B_release (Z : Zt) (d : Nat) : okE Z (d + 5) i_B_release e_B_release := mk_B_release fun o n M hp => by
  obtain ⟨rfl, hW⟩ := hp
  have hW2 := kp_W hW
  obtain ⟨hB, hD, hD2, hH, hT⟩ := hW
  have hL := bk_now hB
  have hkp : ∀ {K : Option Value → Mem → Prop}, pcall e_H_keep [.ref 50, .ref 20] M K = K none (kpM M) := pc_H_keep (o := 50) (b := 20) (M := M) ⟨rfl, rfl, hB, hD, hH⟩
  have hkI : ∀ {x y}, x < 50 ∨ 171 < x → mI (kpM M) x y = mI M x y := fun {x y} h => kp_i hB hH h
  have hn2 := kp_n M

  have hw := rowF_cases (mI M) 30 n
  have hc40 : csz (mI M) 30 ≤ 40 := hD.2.1
  have hrw : ∀ {K : Option Value → Mem → Prop}, pcall e_C_rowOf [.ref 30, .int n] M K = K (some (.int (rowF (mI M) 30 n))) M := pc_C_rowOf (ld_cg hL hD)
  have hzg : csz (mI (kpM M)) 30 = csz (mI M) 30 := by unfold csz; rw [hkI (by omega)]
  unfold rlR rlM
  generalize hf : rowF (mI M) 30 n = w at *
  generalize hM2 : kpM M = M2 at *
  have hB2 : BkS M2 := hW2.1
  have hq : ∀ k, rmF (auF (mI M2) 20 30 k (-1)) 30 k 30 2 = nI (csz (mI M) 30 - 1) := fun k => by
    rw [rmF_s]
    unfold csz
    rw [auF_ne (by omega) (by omega)]
    show nI (csz (mI M2) 30 - 1) = nI (csz (mI M) 30 - 1)
    rw [hzg]
  have hC : ∀ q ∈ [(i_C_rowOf, e_C_rowOf), (i_H_keep, e_H_keep), (i_L_endGrant, e_L_endGrant)], okE Z (d + 4) q.1 q.2 := (okE_cons (ok_C_rowOf Z d) (okE_cons (ok_H_keep Z d) (okE_cons (ok_L_endGrant Z d) okE_nil)))
  rcases hw with rfl | ⟨k, rfl, hk⟩
  · refine Gm_run (S := [19]) [some (.ref 16), some (.int n), none] 100 k_B_release hC (ex_n (by simp [m1_neg])) ?_
    simp (maxSteps := 3000000) (disch := first | exact True.intro | assumption | omega) only [↓run, ↓go, ↓jmp, seek, inS, ↓e0, ↓e1, ↓e2, ↓e3, ↓e4, ↓e5, ↓tsw, ↓e7, ↓e8, ↓e9, ↓e10, ↓e11, ↓e12, ↓splitA, rcv, clook, lget, lset, lset2, lkill, Option.toList, List.nil_append, List.cons_append, wsum, List.map_cons, List.map_nil, List.sum_cons, List.sum_nil, Value.category, Nat.reduceAdd, List.getD_cons_zero, List.getD_cons_succ, ↓reduceIte, if_true, if_false, Bool.false_eq_true, Nat.reduceLeDiff, Nat.reduceEqDiff, true_or, or_true, true_and, and_true, and_self, or_self, not_true, not_false_iff, mR_stI, mN_stI, isO_stI, isA_stI, mI_stI, mR_mW, mN_mW, isO_mW, isA_mW, mI_mW, mW_mW, stI_mW, nI_addL, nI_mulL, nI_subL, nI_ltL, nI_leL, nI_Llt, nI_Lle, nI_eqL, nI_Leq, nI_add, pk_mul, nI_ltI, nI_leI, nI_eq, vpi, nI_clamp, nI_toN, bk_oB hB, bk_oV hB, bk_oH hB, bk_b0 hB, bk_b1 hB, bk_b2 hB, bk_b3 hB, bk_b4 hB, bk_b5 hB, bk_v0 hB, bk_v1 hB, bk_h0 hB, nw_o hB, nw_og hB, nw_od hB, nw_ot hB, nw_r9 hB, nw_r10 hB, nw_r11 hB, nw_r0 hB, nw_r1 hB, nw_r2 hB, nw_r3 hB, nw_r4 hB, nw_r5 hB, nw_r6 hB, nw_r7 hB, nw_r8 hB, nw_a1 hB, nw_a2 hB, nw_a3 hB, nw_a4 hB, nw_a5 hB, nw_a6 hB, nw_a7 hB, nw_a8 hB, nw_a9 hB, nw_a14 hB, nw_as hB, nw_at hB, vR, vT, Nat.not_lt_zero, bv_Tr, bv_Fa, one_n0, eq_self, Nat.zero_le, and_true, true_and, and_false, false_and, not_true, not_false_iff, or_true, true_or, or_false, false_or, mN_mRW, ex_iff, p_B_release, i_C_rowOf, i_H_keep, i_L_endGrant, hrw, m1_neg, m1_nn]
  · have heg : ∀ {K : Option Value → Mem → Prop}, pcall e_L_endGrant [.ref 20, .int (nI k)] M2 K = K none (mW M2 (rmF (auF (mI M2) 20 30 k (-1)) 30 k)) := pc_L_endGrant (b := 20) (k := k) (M := M2) ⟨⟨bk_now hB2, hW2.2.1⟩, by show k < csz (mI M2) 30; rw [hzg]; exact hk⟩ (by omega)
    refine Gm_run (S := []) [some (.ref 16), some (.int n), none] 100 k_B_release hC (ex_n (by split; rfl; exact hn2)) ?_
    simp (maxSteps := 3000000) (disch := first | exact True.intro | assumption | omega) only [↓run, ↓go, ↓jmp, seek, inS, ↓e0, ↓e1, ↓e2, ↓e3, ↓e4, ↓e5, ↓tsw, ↓e7, ↓e8, ↓e9, ↓e10, ↓e11, ↓e12, ↓splitA, rcv, clook, lget, lset, lset2, lkill, Option.toList, List.nil_append, List.cons_append, wsum, List.map_cons, List.map_nil, List.sum_cons, List.sum_nil, Value.category, Nat.reduceAdd, List.getD_cons_zero, List.getD_cons_succ, ↓reduceIte, if_true, if_false, Bool.false_eq_true, Nat.reduceLeDiff, Nat.reduceEqDiff, true_or, or_true, true_and, and_true, and_self, or_self, not_true, not_false_iff, mR_stI, mN_stI, isO_stI, isA_stI, mI_stI, mR_mW, mN_mW, isO_mW, isA_mW, mI_mW, mW_mW, stI_mW, nI_addL, nI_mulL, nI_subL, nI_ltL, nI_leL, nI_Llt, nI_Lle, nI_eqL, nI_Leq, nI_add, pk_mul, nI_ltI, nI_leI, nI_eq, vpi, nI_clamp, nI_toN, bk_oB hB, bk_oV hB, bk_oH hB, bk_b0 hB, bk_b1 hB, bk_b2 hB, bk_b3 hB, bk_b4 hB, bk_b5 hB, bk_v0 hB, bk_v1 hB, bk_h0 hB, nw_o hB, nw_og hB, nw_od hB, nw_ot hB, nw_r9 hB, nw_r10 hB, nw_r11 hB, nw_r0 hB, nw_r1 hB, nw_r2 hB, nw_r3 hB, nw_r4 hB, nw_r5 hB, nw_r6 hB, nw_r7 hB, nw_r8 hB, nw_a1 hB, nw_a2 hB, nw_a3 hB, nw_a4 hB, nw_a5 hB, nw_a6 hB, nw_a7 hB, nw_a8 hB, nw_a9 hB, nw_a14 hB, nw_as hB, nw_at hB, bk_oB hB2, bk_oV hB2, bk_oH hB2, bk_b0 hB2, bk_b1 hB2, bk_b2 hB2, bk_b3 hB2, bk_b4 hB2, bk_b5 hB2, bk_v0 hB2, bk_v1 hB2, bk_h0 hB2, nw_o hB2, nw_og hB2, nw_od hB2, nw_ot hB2, nw_r9 hB2, nw_r10 hB2, nw_r11 hB2, nw_r0 hB2, nw_r1 hB2, nw_r2 hB2, nw_r3 hB2, nw_r4 hB2, nw_r5 hB2, nw_r6 hB2, nw_r7 hB2, nw_r8 hB2, nw_a1 hB2, nw_a2 hB2, nw_a3 hB2, nw_a4 hB2, nw_a5 hB2, nw_a6 hB2, nw_a7 hB2, nw_a8 hB2, nw_a9 hB2, nw_a14 hB2, nw_as hB2, nw_at hB2, vR, vT, Nat.not_lt_zero, bv_Tr, bv_Fa, one_n0, eq_self, Nat.zero_le, and_true, true_and, and_false, false_and, not_true, not_false_iff, or_true, true_or, or_false, false_or, mN_mRW, ex_iff, p_B_release, i_C_rowOf, i_H_keep, i_L_endGrant, hrw, hkp, heg, hq, nI_geT, nI_lt0]
