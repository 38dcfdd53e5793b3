def tkI (f : Nat → Nat → Int32) (b : Nat) : Nat → Nat → Nat → Int32
  | 0 => f
  | n + 1 => tkF (tkI f b n) b
theorem tkF_D {f : Nat → Nat → Int32} {b : Nat} (h : LedD f b) : LedD (tkF f b) b := rdF_D (tk2_D (tk1_D (tk0_D h)) _)
theorem tkI_D {f : Nat → Nat → Int32} {b : Nat} (h : LedD f b) : ∀ n, LedD (tkI f b n) b
  | 0 => h
  | n + 1 => tkF_D (tkI_D h n)
abbrev psC (n : Int32) : Prop := 1 ≤ n ∧ n ≤ 999
def psR (f g : Nat → Nat → Int32) (n : Int32) : Int32 := if psC n then (if f 20 14 + n ≤ 9999 then tkI g 20 n.toNatClampNeg 20 12 else -1000002) else -1000000
noncomputable def psM (M : Mem) (n : Int32) : Mem := if psC n ∧ mI M 20 14 + n ≤ 9999 then mW (kpM M) (tkI (mI (kpM M)) 20 n.toNatClampNeg) else M
def udR (f : Nat → Nat → Int32) : Int32 := if hs f = 0 then -1000001 else nI (hs f - 1)
def e_B_undo : Ent := (fun av M => ∃ (o : Nat), av = [.ref o] ∧ (o = 16 ∧ WB M), fun av M r_ M_ => ∀ (o : Nat), av = [.ref o] → r_ = (some (.int (udR (mI M)))) ∧ M_ = (rsM M))
theorem pc_B_undo {o : Nat} {M : Mem} {K : Option Value → Mem → Prop} (hp : o = 16 ∧ WB M) : pcall e_B_undo [.ref o] M K = K (some (.int (udR (mI M)))) (rsM M) := propext ⟨fun h => h.2 _ _ (fun o' e => by simp only [List.cons.injEq, Value.ref.injEq, Value.int.injEq, Value.long.injEq, and_true] at e; have q0 := e; obtain rfl := q0; exact ⟨rfl, rfl⟩), fun h => ⟨⟨o, rfl, hp⟩, fun r_ M_ q => by obtain ⟨rfl, rfl⟩ := q _ rfl; exact h⟩⟩
theorem mk_B_undo {Z : Zt} {d : Nat} (h : ∀ (o : Nat) (M : Mem), (o = 16 ∧ WB M) → Gm Z d s_B_undo [.ref o] M (ex (some (.int (udR (mI M)))) (rsM M))) : okE Z d i_B_undo e_B_undo := by
  rintro av M ⟨o, rfl, hp⟩
  exact Gm.cons (h o M  hp) (fun r_ M_ q o' e => by simp only [List.cons.injEq, Value.ref.injEq, Value.int.injEq, Value.long.injEq, and_true] at e; have q0 := e; obtain rfl := q0; exact q)
def C_B_undo : List (Nat × Ent) := [(i_H_restore, e_H_restore)]
abbrev S_B_undo : List Nat := []
def t_B_undo_24 : List PI := (24, 1, 1, 0, 0, 0, []) :: (25, 8, 1, 4, 3, 0, [29]) :: (28, 8, 0, 1, 1, 0, [187]) :: (31, 9, 0, 0, 0, 0, []) :: []
def t_B_undo_13 : List PI := (13, 1, 1, 0, 0, 0, []) :: (14, 8, 1, 4, 3, 0, [29]) :: (17, 1, 1, 0, 0, 0, []) :: (18, 8, 1, 4, 1, 0, [19]) :: (21, 11, 0, 1, 17, 0, [188, 2]) :: t_B_undo_24
def t_B_undo_10 : List PI := (10, 0, 0, 64, 3, -1000001, []) :: (12, 9, 0, 0, 0, 0, []) :: t_B_undo_13
def t_B_undo_0 : List PI := (0, 1, 1, 0, 0, 0, []) :: (1, 8, 1, 4, 3, 0, [29]) :: (4, 8, 0, 1, 1, 0, [187]) :: (7, 5, 1, 13, 0, 0, []) :: t_B_undo_10
theorem kt_B_undo : okP s_B_undo t_B_undo_0 := k_B_undo
theorem g_B_undo_0 {Z : Zt} {nF f : Nat} {Kx : Nat → Kt} {Q : Option Value → Mem → Prop} {M : Mem} {x1 : Nat} : run Z nF C_B_undo S_B_undo Kx Q (f + 4) t_B_undo_0 [some (.ref (x1))] [] M = (isO (M) (x1) 4 ∧ isO (M) (mR (M) (x1) 3) 1 ∧ (if (mI (M) (mR (M) (x1) 3) 1) = 0 then run Z nF C_B_undo S_B_undo Kx Q f t_B_undo_10 [some (.ref (x1))] [] (M) else run Z nF C_B_undo S_B_undo Kx Q f t_B_undo_13 [some (.ref (x1))] [] (M))) := rfl
theorem g_B_undo_10 {Z : Zt} {nF f : Nat} {Kx : Nat → Kt} {Q : Option Value → Mem → Prop} {M : Mem} {x1 : Nat} : run Z nF C_B_undo S_B_undo Kx Q (f + 2) t_B_undo_10 [some (.ref (x1))] [] M = (Q (some (.int ((-1000001 : Int32)))) (M)) := rfl
theorem g_B_undo_13 {Z : Zt} {nF f : Nat} {Kx : Nat → Kt} {Q : Option Value → Mem → Prop} {M : Mem} {x1 : Nat} : run Z nF C_B_undo S_B_undo Kx Q (f + 5) t_B_undo_13 [some (.ref (x1))] [] M = (isO (M) (x1) 4 ∧ isO (M) (x1) 4 ∧ ((isO (M) (mR (M) (x1) 3) 1) ∧ wsum [] ≤ 8) ∧ pcall e_H_restore [.ref (mR (M) (x1) 3), .ref (mR (M) (x1) 1)] (M) (fun v M_ => run Z nF C_B_undo S_B_undo Kx Q f t_B_undo_24 [some (.ref (x1))] (v.toList ++ []) M_)) := rfl
theorem g_B_undo_24 {Z : Zt} {nF f : Nat} {Kx : Nat → Kt} {Q : Option Value → Mem → Prop} {M : Mem} {x1 : Nat} : run Z nF C_B_undo S_B_undo Kx Q (f + 4) t_B_undo_24 [some (.ref (x1))] [] M = (isO (M) (x1) 4 ∧ isO (M) (mR (M) (x1) 3) 1 ∧ Q (some (.int (mI (M) (mR (M) (x1) 3) 1))) (M)) := rfl
set_option maxRecDepth 100000 in
set_option maxHeartbeats 4000000 in
theorem ok_B_undo (Z : Zt) (d : Nat) : okE Z (d + 5) i_B_undo e_B_undo := mk_B_undo fun o M hp => by
  obtain ⟨rfl, hB, hD, hD2, hH, hT⟩ := hp
  have h8 := hH.2.1
  by_cases h0 : hs (mI M) = 0
  · rw [show udR (mI M) = _ from if_pos h0, show rsM M = _ from if_pos h0]
    refine Gm_run (C := C_B_undo) (S := S_B_undo) [some (.ref 16)] 1000 kt_B_undo (okE_cons (ok_H_restore Z d) okE_nil) (ex_n rfl) ?_
    simp (maxSteps := 3000000) (disch := first | exact True.intro | assumption | omega) only [↓eq_self, Option.toList_some, Option.toList_none, List.nil_append, List.cons_append, wsum_0, wsum_1, wsum_2, wsum_3, wsum_4, lkill, ↓reduceIte, if_true, if_false, Bool.false_eq_true, and_true, true_and, and_self, or_self, true_or, or_true, not_true, not_false_iff, mR_stI, mN_stI, isO_stI, isA_stI, mI_stI, mR_mW, mN_mW, isO_mW, isA_mW, mI_mW, mW_mW, stI_mW, vp_0, nI_addL, nI_mulL, nI_subL, nI_ltL, nI_leL, nI_Llt, nI_Lle, nI_eqL, nI_Leq, nI_add, pk_mul, nI_ltI, nI_leI, nI_eq, vpi, nI_clamp, nI_toN, bk_oB hB, bk_oV hB, bk_oH hB, bk_b0 hB, bk_b1 hB, bk_b2 hB, bk_b3 hB, bk_b4 hB, bk_b5 hB, bk_v0 hB, bk_v1 hB, bk_h0 hB, nw_o hB, nw_og hB, nw_od hB, nw_ot hB, nw_r9 hB, nw_r10 hB, nw_r11 hB, nw_r0 hB, nw_r1 hB, nw_r2 hB, nw_r3 hB, nw_r4 hB, nw_r5 hB, nw_r6 hB, nw_r7 hB, nw_r8 hB, nw_a1 hB, nw_a2 hB, nw_a3 hB, nw_a4 hB, nw_a5 hB, nw_a6 hB, nw_a7 hB, nw_a8 hB, nw_a9 hB, nw_a14 hB, nw_as hB, nw_at hB, vR, vT, Nat.not_lt_zero, bv_Tr, bv_Fa, one_n0, eq_self, Nat.zero_le, and_true, true_and, and_false, false_and, not_true, not_false_iff, or_true, true_or, or_false, false_or, mN_mRW, ex_iff, ↓g_B_undo_0, ↓g_B_undo_10, ↓g_B_undo_13, ↓g_B_undo_24, hH.1, h0]
  · have hrs : ∀ {K : Option Value → Mem → Prop}, pcall e_H_restore [.ref 50, .ref 20] M K = K none (rsM M) := pc_H_restore (o := 50) (b := 20) (M := M) ⟨rfl, rfl, hB, hD, hH⟩
    have e : rsM M = mW M (cfF (u2 (mI M) 50 1 (nI (hs (mI M) - 1))) 20 (mR M 51 (hs (mI M) - 1))) := if_neg h0
    have e5 : cfF (u2 (mI M) 50 1 (nI (hs (mI M) - 1))) 20 (mR M 51 (hs (mI M) - 1)) 50 1 = nI (hs (mI M) - 1) := by rw [cfF_out (by omega), u2_eq]
    rw [show udR (mI M) = _ from if_neg h0]
    rw [e] at hrs ⊢
    refine Gm_run (C := C_B_undo) (S := S_B_undo) [some (.ref 16)] 1000 kt_B_undo (okE_cons (ok_H_restore Z d) okE_nil) (ex_n rfl) ?_
    simp (maxSteps := 3000000) (disch := first | exact True.intro | assumption | omega) only [↓eq_self, Option.toList_some, Option.toList_none, List.nil_append, List.cons_append, wsum_0, wsum_1, wsum_2, wsum_3, wsum_4, lkill, ↓reduceIte, if_true, if_false, Bool.false_eq_true, and_true, true_and, and_self, or_self, true_or, or_true, not_true, not_false_iff, mR_stI, mN_stI, isO_stI, isA_stI, mI_stI, mR_mW, mN_mW, isO_mW, isA_mW, mI_mW, mW_mW, stI_mW, vp_0, nI_addL, nI_mulL, nI_subL, nI_ltL, nI_leL, nI_Llt, nI_Lle, nI_eqL, nI_Leq, nI_add, pk_mul, nI_ltI, nI_leI, nI_eq, vpi, nI_clamp, nI_toN, bk_oB hB, bk_oV hB, bk_oH hB, bk_b0 hB, bk_b1 hB, bk_b2 hB, bk_b3 hB, bk_b4 hB, bk_b5 hB, bk_v0 hB, bk_v1 hB, bk_h0 hB, nw_o hB, nw_og hB, nw_od hB, nw_ot hB, nw_r9 hB, nw_r10 hB, nw_r11 hB, nw_r0 hB, nw_r1 hB, nw_r2 hB, nw_r3 hB, nw_r4 hB, nw_r5 hB, nw_r6 hB, nw_r7 hB, nw_r8 hB, nw_a1 hB, nw_a2 hB, nw_a3 hB, nw_a4 hB, nw_a5 hB, nw_a6 hB, nw_a7 hB, nw_a8 hB, nw_a9 hB, nw_a14 hB, nw_as hB, nw_at hB, vR, vT, Nat.not_lt_zero, bv_Tr, bv_Fa, one_n0, eq_self, Nat.zero_le, and_true, true_and, and_false, false_and, not_true, not_false_iff, or_true, true_or, or_false, false_or, mN_mRW, ex_iff, ↓g_B_undo_0, ↓g_B_undo_10, ↓g_B_undo_13, ↓g_B_undo_24, hH.1, h0, hrs, e5]
