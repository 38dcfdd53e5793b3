/-! what would be: in the second ledger -/
theorem WB_tr {M : Mem} {g : Nat → Nat → Int32} (h : WB M) (hg : ∀ x y, (x < 35 ∨ 49 < x ∧ x < 172) → g x y = mI M x y) (hD2 : LedD g 35) : WB (mW M g) := by
  obtain ⟨hB, hD, -, hH, hT⟩ := h
  refine ⟨hB, LedD_cg hD (fun y => hg _ _ (by omega)) (fun y => hg _ _ (by omega)) (fun y => hg _ _ (by omega)), hD2, ?_, ?_⟩
  · unfold HisD hs
    rw [mI_mW, hg 50 1 (by omega)]
    exact ⟨hH.1, hH.2.1, fun j hj => LedD_cg (hH.2.2 j hj) (fun y => hg _ _ (by omega)) (fun y => hg _ _ (by omega)) (fun y => hg _ _ (by omega))⟩
  · unfold TxD tl
    rw [mI_mW, hg 17 2 (by omega)]
    exact hT
theorem svF_o {f : Nat → Nat → Int32} {b k x y : Nat} (h : x < b ∨ b + 14 < x) : svF f b k x y = f x y := by
  unfold svF sv3 sv2 sv1
  rw [rmF_ne (by omega) (by omega), auF_ne (by omega) (by omega), u2_ne (by omega), arF_ne (by omega) (by omega)]
theorem saP_o {b a x y : Nat} (h : x < b ∨ b + 14 < x) (ha : x ≠ a) : ∀ m (f : Nat → Nat → Int32) n, (saP b a m f n).1 x y = f x y
  | 0, f, n => rfl
  | m + 1, f, n => by
    unfold saP
    split
    · rw [saP_o h ha m, u2_ne ha, svF_o h]
    · rfl
theorem saP_D {b a : Nat} (ha : a < b ∨ b + 14 < a) : ∀ m (f : Nat → Nat → Int32) n, LedD f b → LedD (saP b a m f n).1 b
  | 0, f, n, h => h
  | m + 1, f, n, h => by
    unfold saP
    split
    · next q => exact saP_D ha m _ _ (LedD_congr (svF_D (k := (ndF f b).toNatClampNeg) h q.1) (u2_o (by omega)) (u2_o (by omega)) (u2_o (by omega)) (u2_o (by omega)))
    · exact h
theorem saP_le {b a : Nat} : ∀ m (f : Nat → Nat → Int32) n, n ≤ (saP b a m f n).2 ∧ (saP b a m f n).2 ≤ n + m
  | 0, f, n => ⟨Nat.le_refl _, Nat.le_refl _⟩
  | m + 1, f, n => by
    unfold saP
    split
    · have := saP_le (b := b) (a := a) m (u2 (svF f b (ndF f b).toNatClampNeg) a n (f (b + 13) ((ndF f b).toNatClampNeg * 6 + 4))) (n + 1)
      omega
    · exact ⟨Nat.le_refl _, by omega⟩
noncomputable def plG (f : Nat → Nat → Int32) : Nat → Nat → Int32 := (saP 35 172 24 (cfF f 35 20) 0).1
noncomputable def plK (f : Nat → Nat → Int32) : Nat := (saP 35 172 24 (cfF f 35 20) 0).2
theorem plK_24 (f : Nat → Nat → Int32) : plK f ≤ 24 := by
  have := (saP_le (b := 35) (a := 172) 24 (cfF f 35 20) 0).2
  unfold plK
  omega
theorem plG_o {f : Nat → Nat → Int32} {x y : Nat} (h : x < 35 ∨ 49 < x) (ha : x ≠ 172) : plG f x y = f x y := by
  unfold plG
  rw [saP_o (by omega) ha, cfF_out (by omega)]
theorem plG_D {f : Nat → Nat → Int32} (h : LedD f 20) : LedD (plG f) 35 := saP_D (by omega) _ _ _ (cfF_D h)
theorem WB_pl {M : Mem} (h : WB M) : WB (mW M (plG (mI M))) := WB_tr h (fun x y q => plG_o (by omega) (by omega)) (plG_D h.2.1)
def e_B_makePlan : Ent := (fun av M => ∃ (o : Nat), av = [.ref o] ∧ (o = 16 ∧ WB M), fun av M r_ M_ => ∀ (o : Nat), av = [.ref o] → r_ = (some (.int (nI (plK (mI M))))) ∧ M_ = (mW M (plG (mI M))))
theorem pc_B_makePlan {o : Nat} {M : Mem} {K : Option Value → Mem → Prop} (hp : o = 16 ∧ WB M) : pcall e_B_makePlan [.ref o] M K = K (some (.int (nI (plK (mI M))))) (mW M (plG (mI M))) := propext ⟨fun h => h.2 _ _ (fun o' e => by simp only [List.cons.injEq, Value.ref.injEq, Value.int.injEq, Value.long.injEq, and_true] at e; have q0 := e; obtain rfl := q0; exact ⟨rfl, rfl⟩), fun h => ⟨⟨o, rfl, hp⟩, fun r_ M_ q => by obtain ⟨rfl, rfl⟩ := q _ rfl; exact h⟩⟩
theorem mk_B_makePlan {Z : Zt} {d : Nat} (h : ∀ (o : Nat) (M : Mem), (o = 16 ∧ WB M) → Gm Z d s_B_makePlan [.ref o] M (ex (some (.int (nI (plK (mI M))))) (mW M (plG (mI M))))) : okE Z d i_B_makePlan e_B_makePlan := by
  rintro av M ⟨o, rfl, hp⟩
  exact Gm.cons (h o M  hp) (fun r_ M_ q o' e => by simp only [List.cons.injEq, Value.ref.injEq, Value.int.injEq, Value.long.injEq, and_true] at e; have q0 := e; obtain rfl := q0; exact q)
def C_B_makePlan : List (Nat × Ent) := [(i_L_copyFrom, e_L_copyFrom), (i_L_serveAll, e_L_serveAll)]
abbrev S_B_makePlan : List Nat := []
def t_B_makePlan_22 : List PI := (22, 9, 0, 0, 0, 0, []) :: []
def t_B_makePlan_11 : List PI := (11, 1, 1, 0, 0, 0, []) :: (12, 8, 1, 4, 2, 0, [23]) :: (15, 1, 1, 0, 0, 0, []) :: (16, 8, 1, 4, 4, 0, [33]) :: (19, 11, 0, 2, 29, 0, [144, 2]) :: t_B_makePlan_22
def t_B_makePlan_0 : List PI := (0, 1, 1, 0, 0, 0, []) :: (1, 8, 1, 4, 2, 0, [23]) :: (4, 1, 1, 0, 0, 0, []) :: (5, 8, 1, 4, 1, 0, [19]) :: (8, 11, 0, 2, 15, 0, [262, 2]) :: t_B_makePlan_11
theorem kt_B_makePlan : okP s_B_makePlan t_B_makePlan_0 := k_B_makePlan
theorem g_B_makePlan_0 {Z : Zt} {nF f : Nat} {Kx : Nat → Kt} {Q : Option Value → Mem → Prop} {M : Mem} {x1 : Nat} : run Z nF C_B_makePlan S_B_makePlan Kx Q (f + 5) t_B_makePlan_0 [some (.ref (x1))] [] M = (isO (M) (x1) 4 ∧ isO (M) (x1) 4 ∧ ((isO (M) (mR (M) (x1) 2) 2) ∧ wsum [] ≤ 8) ∧ pcall e_L_copyFrom [.ref (mR (M) (x1) 2), .ref (mR (M) (x1) 1)] (M) (fun v M_ => run Z nF C_B_makePlan S_B_makePlan Kx Q f t_B_makePlan_11 [some (.ref (x1))] (v.toList ++ []) M_)) := rfl
theorem g_B_makePlan_11 {Z : Zt} {nF f : Nat} {Kx : Nat → Kt} {Q : Option Value → Mem → Prop} {M : Mem} {x1 : Nat} : run Z nF C_B_makePlan S_B_makePlan Kx Q (f + 5) t_B_makePlan_11 [some (.ref (x1))] [] M = (isO (M) (x1) 4 ∧ isO (M) (x1) 4 ∧ ((isO (M) (mR (M) (x1) 2) 2) ∧ wsum [] ≤ 8) ∧ pcall e_L_serveAll [.ref (mR (M) (x1) 2), .ref (mR (M) (x1) 4)] (M) (fun v M_ => run Z nF C_B_makePlan S_B_makePlan Kx Q f t_B_makePlan_22 [some (.ref (x1))] (v.toList ++ []) M_)) := rfl
theorem g_B_makePlan_22 {Z : Zt} {nF f : Nat} {Kx : Nat → Kt} {Q : Option Value → Mem → Prop} {M : Mem} {x1 : Nat} {x2 : Int32} : run Z nF C_B_makePlan S_B_makePlan Kx Q (f + 1) t_B_makePlan_22 [some (.ref (x1))] [.int (x2)] M = (Q (some (.int (x2))) (M)) := rfl
set_option maxRecDepth 100000 in
set_option maxHeartbeats 4000000 in
theorem ok_B_makePlan (Z : Zt) (d : Nat) : okE Z (d + 6) i_B_makePlan e_B_makePlan := mk_B_makePlan fun o M hp => by
  obtain ⟨rfl, hB, hD, hD2, hH, hT⟩ := hp
  have hL := bk_now hB
  have hL2 := bk_tri hB
  have hcf : ∀ {K : Option Value → Mem → Prop}, pcall e_L_copyFrom [.ref 35, .ref 20] M K = K none (mW M (cfF (mI M) 35 20)) := pc_L_copyFrom (b := 35) (o := 20) (M := M) ⟨⟨hL2, hD2⟩, ⟨hL, hD⟩, by omega⟩
  have hsa : ∀ {K : Option Value → Mem → Prop}, pcall e_L_serveAll [.ref 35, .ref 172] (mW M (cfF (mI M) 35 20)) K = K (some (.int (nI (plK (mI M))))) (mW (mW M (cfF (mI M) 35 20)) (plG (mI M))) := pc_L_serveAll (b := 35) (a := 172) (M := mW M (cfF (mI M) 35 20)) ⟨⟨hL2, cfF_D hD⟩, (by have := hB.1; rw [mN_mW]; omega), rfl, by omega⟩
  refine Gm_run (C := C_B_makePlan) (S := S_B_makePlan) [some (.ref 16)] 1000 kt_B_makePlan (okE_cons (ok_L_copyFrom Z (d + 2)) (okE_cons (ok_L_serveAll Z d) okE_nil)) (ex_n rfl) ?_
  simp (maxSteps := 3000000) (disch := first | exact True.intro | assumption | omega) only [↓eq_self, Option.toList_some, Option.toList_none, List.nil_append, List.cons_append, wsum_0, wsum_1, wsum_2, wsum_3, wsum_4, lkill, ↓reduceIte, if_true, if_false, Bool.false_eq_true, and_true, true_and, and_self, or_self, true_or, or_true, not_true, not_false_iff, mR_stI, mN_stI, isO_stI, isA_stI, mI_stI, mR_mW, mN_mW, isO_mW, isA_mW, mI_mW, mW_mW, stI_mW, vp_0, nI_addL, nI_mulL, nI_subL, nI_ltL, nI_leL, nI_Llt, nI_Lle, nI_eqL, nI_Leq, nI_add, pk_mul, nI_ltI, nI_leI, nI_eq, vpi, nI_clamp, nI_toN, bk_oB hB, bk_oV hB, bk_oH hB, bk_b0 hB, bk_b1 hB, bk_b2 hB, bk_b3 hB, bk_b4 hB, bk_b5 hB, bk_v0 hB, bk_v1 hB, bk_h0 hB, nw_o hB, nw_og hB, nw_od hB, nw_ot hB, nw_r9 hB, nw_r10 hB, nw_r11 hB, nw_r0 hB, nw_r1 hB, nw_r2 hB, nw_r3 hB, nw_r4 hB, nw_r5 hB, nw_r6 hB, nw_r7 hB, nw_r8 hB, nw_a1 hB, nw_a2 hB, nw_a3 hB, nw_a4 hB, nw_a5 hB, nw_a6 hB, nw_a7 hB, nw_a8 hB, nw_a9 hB, nw_a14 hB, nw_as hB, nw_at hB, vR, vT, Nat.not_lt_zero, bv_Tr, bv_Fa, one_n0, eq_self, Nat.zero_le, and_true, true_and, and_false, false_and, not_true, not_false_iff, or_true, true_or, or_false, false_or, mN_mRW, ex_iff, ↓g_B_makePlan_0, ↓g_B_makePlan_11, ↓g_B_makePlan_22, bk_b2 hB, hcf, hsa]
noncomputable def plR (f : Nat → Nat → Int32) (i : Int32) : Int32 := if i < -1 then -1000000 else if i = -1 then nI (plK f) else if i < nI (plK f) then plG f 172 i.toNatClampNeg else -1000003
noncomputable def plM (M : Mem) (i : Int32) : Mem := if i < -1 then M else mW M (plG (mI M))
def e_B_plan : Ent := (fun av M => ∃ (o : Nat) (i : Int32), av = [.ref o, .int i] ∧ (o = 16 ∧ WB M), fun av M r_ M_ => ∀ (o : Nat) (i : Int32), av = [.ref o, .int i] → r_ = (some (.int (plR (mI M) i))) ∧ M_ = (plM M i))
theorem pc_B_plan {o : Nat} {i : Int32} {M : Mem} {K : Option Value → Mem → Prop} (hp : o = 16 ∧ WB M) : pcall e_B_plan [.ref o, .int i] M K = K (some (.int (plR (mI M) i))) (plM M i) := propext ⟨fun h => h.2 _ _ (fun o' i' e => by simp only [List.cons.injEq, Value.ref.injEq, Value.int.injEq, Value.long.injEq, and_true] at e; obtain ⟨q0, q1⟩ := e; obtain rfl := q0; obtain rfl := q1; exact ⟨rfl, rfl⟩), fun h => ⟨⟨o, i, rfl, hp⟩, fun r_ M_ q => by obtain ⟨rfl, rfl⟩ := q _ _ rfl; exact h⟩⟩
theorem mk_B_plan {Z : Zt} {d : Nat} (h : ∀ (o : Nat) (i : Int32) (M : Mem), (o = 16 ∧ WB M) → Gm Z d s_B_plan [.ref o, .int i] M (ex (some (.int (plR (mI M) i))) (plM M i))) : okE Z d i_B_plan e_B_plan := by
  rintro av M ⟨o, i, rfl, hp⟩
  exact Gm.cons (h o i M  hp) (fun r_ M_ q o' i' e => by simp only [List.cons.injEq, Value.ref.injEq, Value.int.injEq, Value.long.injEq, and_true] at e; obtain ⟨q0, q1⟩ := e; obtain rfl := q0; obtain rfl := q1; exact q)
theorem ge0_of {i : Int32} (h : ¬ i < -1) (h2 : ¬ i = -1) : 0 ≤ i := by
  rw [fa_lt'] at h
  rw [fa_eq'] at h2
  rw [fa_le']
  have e : (-1 : Int32).toInt = -1 := by decide
  have e0 : (0 : Int32).toInt = 0 := by decide
  omega
def C_B_plan : List (Nat × Ent) := [(i_B_makePlan, e_B_makePlan)]
abbrev S_B_plan : List Nat := []
def t_B_plan_45 : List PI := (45, 9, 0, 0, 0, 0, []) :: []
def t_B_plan_43 : List PI := (43, 0, 0, 103, 3, -1000003, []) :: t_B_plan_45
def t_B_plan_34 : List PI := (34, 1, 1, 0, 0, 0, []) :: (35, 8, 1, 4, 4, 0, [33]) :: (38, 1, 0, 1, 0, 0, []) :: (39, 8, 4, 0, 0, 0, []) :: (40, 6, 0, 45, 0, 0, []) :: t_B_plan_43
def t_B_plan_25 : List PI := (25, 1, 0, 1, 0, 0, []) :: (26, 1, 1, 0, 0, 0, []) :: (27, 8, 1, 4, 4, 0, [33]) :: (30, 8, 6, 0, 0, 0, []) :: (31, 4, 3, 43, 0, 0, []) :: t_B_plan_34
def t_B_plan_20 : List PI := (20, 1, 0, 1, 0, 0, []) :: (21, 1, 0, 2, 0, 0, []) :: (22, 4, 3, 43, 0, 0, []) :: t_B_plan_25
def t_B_plan_18 : List PI := (18, 1, 0, 2, 0, 0, []) :: (19, 9, 0, 0, 0, 0, []) :: t_B_plan_20
def t_B_plan_12 : List PI := (12, 1, 3, 2, 0, 0, []) :: (13, 1, 0, 1, 0, 0, []) :: (14, 0, 0, 0, 0, -1, []) :: (15, 4, 1, 20, 0, 0, []) :: t_B_plan_18
def t_B_plan_8 : List PI := (8, 1, 1, 0, 0, 0, []) :: (9, 11, 0, 4, 70, 0, [213, 1]) :: t_B_plan_12
def t_B_plan_5 : List PI := (5, 0, 0, 44, 3, -1000000, []) :: (7, 9, 0, 0, 0, 0, []) :: t_B_plan_8
def t_B_plan_0 : List PI := (0, 1, 0, 1, 0, 0, []) :: (1, 0, 0, 0, 0, -1, []) :: (2, 4, 3, 8, 0, 0, []) :: t_B_plan_5
theorem kt_B_plan : okP s_B_plan t_B_plan_0 := k_B_plan
theorem g_B_plan_0 {Z : Zt} {nF f : Nat} {Kx : Nat → Kt} {Q : Option Value → Mem → Prop} {M : Mem} {x1 : Nat} {x2 : Int32} : run Z nF C_B_plan S_B_plan Kx Q (f + 3) t_B_plan_0 [some (.ref (x1)), some (.int (x2)), none] [] M = ((if ((-1 : Int32)) ≤ (x2) then run Z nF C_B_plan S_B_plan Kx Q f t_B_plan_8 [some (.ref (x1)), some (.int (x2)), none] [] (M) else run Z nF C_B_plan S_B_plan Kx Q f t_B_plan_5 [some (.ref (x1)), some (.int (x2)), none] [] (M))) := rfl
theorem g_B_plan_5 {Z : Zt} {nF f : Nat} {Kx : Nat → Kt} {Q : Option Value → Mem → Prop} {M : Mem} {x1 : Nat} {x2 : Int32} : run Z nF C_B_plan S_B_plan Kx Q (f + 2) t_B_plan_5 [some (.ref (x1)), some (.int (x2)), none] [] M = (Q (some (.int ((-1000000 : Int32)))) (M)) := rfl
theorem g_B_plan_8 {Z : Zt} {nF f : Nat} {Kx : Nat → Kt} {Q : Option Value → Mem → Prop} {M : Mem} {x1 : Nat} {x2 : Int32} : run Z nF C_B_plan S_B_plan Kx Q (f + 2) t_B_plan_8 [some (.ref (x1)), some (.int (x2)), none] [] M = (((isO (M) (x1) 4) ∧ wsum [] ≤ 8) ∧ pcall e_B_makePlan [.ref (x1)] (M) (fun v M_ => run Z nF C_B_plan S_B_plan Kx Q f t_B_plan_12 [some (.ref (x1)), some (.int (x2)), none] (v.toList ++ []) M_)) := rfl
theorem g_B_plan_12 {Z : Zt} {nF f : Nat} {Kx : Nat → Kt} {Q : Option Value → Mem → Prop} {M : Mem} {x1 : Nat} {x2 : Int32} {x3 : Int32} : run Z nF C_B_plan S_B_plan Kx Q (f + 4) t_B_plan_12 [some (.ref (x1)), some (.int (x2)), none] [.int (x3)] M = ((if (x2) = ((-1 : Int32)) then run Z nF C_B_plan S_B_plan Kx Q f t_B_plan_18 [some (.ref (x1)), some (.int (x2)), some (.int (x3))] [] (M) else run Z nF C_B_plan S_B_plan Kx Q f t_B_plan_20 [some (.ref (x1)), some (.int (x2)), some (.int (x3))] [] (M))) := rfl
theorem g_B_plan_18 {Z : Zt} {nF f : Nat} {Kx : Nat → Kt} {Q : Option Value → Mem → Prop} {M : Mem} {x1 : Nat} {x2 : Int32} {x3 : Int32} : run Z nF C_B_plan S_B_plan Kx Q (f + 2) t_B_plan_18 [some (.ref (x1)), some (.int (x2)), some (.int (x3))] [] M = (Q (some (.int (x3))) (M)) := rfl
theorem g_B_plan_20 {Z : Zt} {nF f : Nat} {Kx : Nat → Kt} {Q : Option Value → Mem → Prop} {M : Mem} {x1 : Nat} {x2 : Int32} {x3 : Int32} : run Z nF C_B_plan S_B_plan Kx Q (f + 3) t_B_plan_20 [some (.ref (x1)), some (.int (x2)), some (.int (x3))] [] M = ((if (x3) ≤ (x2) then run Z nF C_B_plan S_B_plan Kx Q f t_B_plan_43 [some (.ref (x1)), some (.int (x2)), some (.int (x3))] [] (M) else run Z nF C_B_plan S_B_plan Kx Q f t_B_plan_25 [some (.ref (x1)), some (.int (x2)), some (.int (x3))] [] (M))) := rfl
theorem g_B_plan_25 {Z : Zt} {nF f : Nat} {Kx : Nat → Kt} {Q : Option Value → Mem → Prop} {M : Mem} {x1 : Nat} {x2 : Int32} {x3 : Int32} : run Z nF C_B_plan S_B_plan Kx Q (f + 5) t_B_plan_25 [some (.ref (x1)), some (.int (x2)), some (.int (x3))] [] M = (isO (M) (x1) 4 ∧ ((mR (M) (x1) 4) < mN (M) ∧ (kd (mR (M) (x1) 4)).1 = 1) ∧ (if (nI (kd (mR (M) (x1) 4)).2) ≤ (x2) then run Z nF C_B_plan S_B_plan Kx Q f t_B_plan_43 [some (.ref (x1)), some (.int (x2)), some (.int (x3))] [] (M) else run Z nF C_B_plan S_B_plan Kx Q f t_B_plan_34 [some (.ref (x1)), some (.int (x2)), some (.int (x3))] [] (M))) := rfl
theorem g_B_plan_34 {Z : Zt} {nF f : Nat} {Kx : Nat → Kt} {Q : Option Value → Mem → Prop} {M : Mem} {x1 : Nat} {x2 : Int32} {x3 : Int32} : run Z nF C_B_plan S_B_plan Kx Q (f + 5) t_B_plan_34 [some (.ref (x1)), some (.int (x2)), some (.int (x3))] [] M = (isO (M) (x1) 4 ∧ isA (M) (mR (M) (x1) 4) (x2) ∧ run Z nF C_B_plan S_B_plan Kx Q f t_B_plan_45 [some (.ref (x1)), some (.int (x2)), some (.int (x3))] [.int (mI (M) (mR (M) (x1) 4) (Int32.toNatClampNeg (x2)))] (M)) := rfl
theorem g_B_plan_43 {Z : Zt} {nF f : Nat} {Kx : Nat → Kt} {Q : Option Value → Mem → Prop} {M : Mem} {x1 : Nat} {x2 : Int32} {x3 : Int32} : run Z nF C_B_plan S_B_plan Kx Q (f + 1) t_B_plan_43 [some (.ref (x1)), some (.int (x2)), some (.int (x3))] [] M = (run Z nF C_B_plan S_B_plan Kx Q f t_B_plan_45 [some (.ref (x1)), some (.int (x2)), some (.int (x3))] [.int ((-1000003 : Int32))] (M)) := rfl
theorem g_B_plan_45 {Z : Zt} {nF f : Nat} {Kx : Nat → Kt} {Q : Option Value → Mem → Prop} {M : Mem} {x1 : Nat} {x2 : Int32} {x3 : Int32} {x4 : Int32} : run Z nF C_B_plan S_B_plan Kx Q (f + 1) t_B_plan_45 [some (.ref (x1)), some (.int (x2)), some (.int (x3))] [.int (x4)] M = (Q (some (.int (x4))) (M)) := rfl
set_option maxRecDepth 100000 in
set_option maxHeartbeats 4000000 in
theorem ok_B_plan (Z : Zt) (d : Nat) : okE Z (d + 7) i_B_plan e_B_plan := mk_B_plan fun o i M hp => by
  obtain ⟨rfl, hW⟩ := hp
  have hB := hW.1
  have h24 := plK_24 (mI M)
  have hmp : ∀ {K : Option Value → Mem → Prop}, pcall e_B_makePlan [.ref 16] M K = K (some (.int (nI (plK (mI M))))) (mW M (plG (mI M))) := pc_B_makePlan (o := 16) (M := M) ⟨rfl, hW⟩
  have hl : (kd 172).2 = 24 := rfl
  have hk : (kd 172).1 = 1 := rfl
  have hl2 : (172 < mN M) = True := eq_true ((by have := hB.1; omega))
  by_cases h1 : i < -1
  · rw [show plR (mI M) i = _ from if_pos h1, show plM M i = _ from if_pos h1]
    refine Gm_run (C := C_B_plan) (S := S_B_plan) [some (.ref 16), some (.int i), none] 1000 kt_B_plan (okE_cons (ok_B_makePlan Z d) okE_nil) (ex_n rfl) ?_
    simp (maxSteps := 3000000) (disch := first | exact True.intro | assumption | omega) only [↓eq_self, Option.toList_some, Option.toList_none, List.nil_append, List.cons_append, wsum_0, wsum_1, wsum_2, wsum_3, wsum_4, lkill, ↓reduceIte, if_true, if_false, Bool.false_eq_true, and_true, true_and, and_self, or_self, true_or, or_true, not_true, not_false_iff, mR_stI, mN_stI, isO_stI, isA_stI, mI_stI, mR_mW, mN_mW, isO_mW, isA_mW, mI_mW, mW_mW, stI_mW, vp_0, nI_addL, nI_mulL, nI_subL, nI_ltL, nI_leL, nI_Llt, nI_Lle, nI_eqL, nI_Leq, nI_add, pk_mul, nI_ltI, nI_leI, nI_eq, vpi, nI_clamp, nI_toN, bk_oB hB, bk_oV hB, bk_oH hB, bk_b0 hB, bk_b1 hB, bk_b2 hB, bk_b3 hB, bk_b4 hB, bk_b5 hB, bk_v0 hB, bk_v1 hB, bk_h0 hB, nw_o hB, nw_og hB, nw_od hB, nw_ot hB, nw_r9 hB, nw_r10 hB, nw_r11 hB, nw_r0 hB, nw_r1 hB, nw_r2 hB, nw_r3 hB, nw_r4 hB, nw_r5 hB, nw_r6 hB, nw_r7 hB, nw_r8 hB, nw_a1 hB, nw_a2 hB, nw_a3 hB, nw_a4 hB, nw_a5 hB, nw_a6 hB, nw_a7 hB, nw_a8 hB, nw_a9 hB, nw_a14 hB, nw_as hB, nw_at hB, vR, vT, Nat.not_lt_zero, bv_Tr, bv_Fa, one_n0, eq_self, Nat.zero_le, and_true, true_and, and_false, false_and, not_true, not_false_iff, or_true, true_or, or_false, false_or, mN_mRW, ex_iff, ↓g_B_plan_0, ↓g_B_plan_5, ↓g_B_plan_8, ↓g_B_plan_12, ↓g_B_plan_18, ↓g_B_plan_20, ↓g_B_plan_25, ↓g_B_plan_34, ↓g_B_plan_43, ↓g_B_plan_45, Int32.not_le.mpr h1]
  · have h1' : -1 ≤ i := Int32.not_lt.mp h1
    rw [show plM M i = _ from if_neg h1]
    by_cases h2 : i = -1
    · rw [show plR (mI M) i = _ from (if_neg h1).trans (if_pos h2)]
      refine Gm_run (C := C_B_plan) (S := S_B_plan) [some (.ref 16), some (.int i), none] 1000 kt_B_plan (okE_cons (ok_B_makePlan Z d) okE_nil) (ex_n rfl) ?_
      simp (maxSteps := 3000000) (disch := first | exact True.intro | assumption | omega) only [↓eq_self, Option.toList_some, Option.toList_none, List.nil_append, List.cons_append, wsum_0, wsum_1, wsum_2, wsum_3, wsum_4, lkill, ↓reduceIte, if_true, if_false, Bool.false_eq_true, and_true, true_and, and_self, or_self, true_or, or_true, not_true, not_false_iff, mR_stI, mN_stI, isO_stI, isA_stI, mI_stI, mR_mW, mN_mW, isO_mW, isA_mW, mI_mW, mW_mW, stI_mW, vp_0, nI_addL, nI_mulL, nI_subL, nI_ltL, nI_leL, nI_Llt, nI_Lle, nI_eqL, nI_Leq, nI_add, pk_mul, nI_ltI, nI_leI, nI_eq, vpi, nI_clamp, nI_toN, bk_oB hB, bk_oV hB, bk_oH hB, bk_b0 hB, bk_b1 hB, bk_b2 hB, bk_b3 hB, bk_b4 hB, bk_b5 hB, bk_v0 hB, bk_v1 hB, bk_h0 hB, nw_o hB, nw_og hB, nw_od hB, nw_ot hB, nw_r9 hB, nw_r10 hB, nw_r11 hB, nw_r0 hB, nw_r1 hB, nw_r2 hB, nw_r3 hB, nw_r4 hB, nw_r5 hB, nw_r6 hB, nw_r7 hB, nw_r8 hB, nw_a1 hB, nw_a2 hB, nw_a3 hB, nw_a4 hB, nw_a5 hB, nw_a6 hB, nw_a7 hB, nw_a8 hB, nw_a9 hB, nw_a14 hB, nw_as hB, nw_at hB, vR, vT, Nat.not_lt_zero, bv_Tr, bv_Fa, one_n0, eq_self, Nat.zero_le, and_true, true_and, and_false, false_and, not_true, not_false_iff, or_true, true_or, or_false, false_or, mN_mRW, ex_iff, ↓g_B_plan_0, ↓g_B_plan_5, ↓g_B_plan_8, ↓g_B_plan_12, ↓g_B_plan_18, ↓g_B_plan_20, ↓g_B_plan_25, ↓g_B_plan_34, ↓g_B_plan_43, ↓g_B_plan_45, h1', h2, hmp, Int32.le_refl]
    · rw [show plR (mI M) i = _ from (if_neg h1).trans (if_neg h2)]
      obtain ⟨k, rfl, hk0, hk2⟩ := I_nI (ge0_of h1 h2)
      rw [hk2]
      generalize hP : plK (mI M) = P at *
      by_cases h3 : k < P
      · rw [if_pos ((nI_ltI hk0 (by omega)).mpr h3)]
        have h4 : ¬ P ≤ k := by omega
        have h5 : ¬ 24 ≤ k := by omega
        have h6 : k < 24 := by omega
        refine Gm_run (C := C_B_plan) (S := S_B_plan) [some (.ref 16), some (.int (nI k)), none] 1000 kt_B_plan (okE_cons (ok_B_makePlan Z d) okE_nil) (ex_n rfl) ?_
        simp (maxSteps := 3000000) (disch := first | exact True.intro | assumption | omega) only [↓eq_self, Option.toList_some, Option.toList_none, List.nil_append, List.cons_append, wsum_0, wsum_1, wsum_2, wsum_3, wsum_4, lkill, ↓reduceIte, if_true, if_false, Bool.false_eq_true, and_true, true_and, and_self, or_self, true_or, or_true, not_true, not_false_iff, mR_stI, mN_stI, isO_stI, isA_stI, mI_stI, mR_mW, mN_mW, isO_mW, isA_mW, mI_mW, mW_mW, stI_mW, vp_0, nI_addL, nI_mulL, nI_subL, nI_ltL, nI_leL, nI_Llt, nI_Lle, nI_eqL, nI_Leq, nI_add, pk_mul, nI_ltI, nI_leI, nI_eq, vpi, nI_clamp, nI_toN, bk_oB hB, bk_oV hB, bk_oH hB, bk_b0 hB, bk_b1 hB, bk_b2 hB, bk_b3 hB, bk_b4 hB, bk_b5 hB, bk_v0 hB, bk_v1 hB, bk_h0 hB, nw_o hB, nw_og hB, nw_od hB, nw_ot hB, nw_r9 hB, nw_r10 hB, nw_r11 hB, nw_r0 hB, nw_r1 hB, nw_r2 hB, nw_r3 hB, nw_r4 hB, nw_r5 hB, nw_r6 hB, nw_r7 hB, nw_r8 hB, nw_a1 hB, nw_a2 hB, nw_a3 hB, nw_a4 hB, nw_a5 hB, nw_a6 hB, nw_a7 hB, nw_a8 hB, nw_a9 hB, nw_a14 hB, nw_as hB, nw_at hB, vR, vT, Nat.not_lt_zero, bv_Tr, bv_Fa, one_n0, eq_self, Nat.zero_le, and_true, true_and, and_false, false_and, not_true, not_false_iff, or_true, true_or, or_false, false_or, mN_mRW, ex_iff, ↓g_B_plan_0, ↓g_B_plan_5, ↓g_B_plan_8, ↓g_B_plan_12, ↓g_B_plan_18, ↓g_B_plan_20, ↓g_B_plan_25, ↓g_B_plan_34, ↓g_B_plan_43, ↓g_B_plan_45, h1', h2, hmp, hl, hk, hl2, h4, h5, h6]
      · rw [if_neg (fun q => h3 ((nI_ltI hk0 (by omega)).mp q))]
        have h4 : P ≤ k := by omega
        refine Gm_run (C := C_B_plan) (S := S_B_plan) [some (.ref 16), some (.int (nI k)), none] 1000 kt_B_plan (okE_cons (ok_B_makePlan Z d) okE_nil) (ex_n rfl) ?_
        simp (maxSteps := 3000000) (disch := first | exact True.intro | assumption | omega) only [↓eq_self, Option.toList_some, Option.toList_none, List.nil_append, List.cons_append, wsum_0, wsum_1, wsum_2, wsum_3, wsum_4, lkill, ↓reduceIte, if_true, if_false, Bool.false_eq_true, and_true, true_and, and_self, or_self, true_or, or_true, not_true, not_false_iff, mR_stI, mN_stI, isO_stI, isA_stI, mI_stI, mR_mW, mN_mW, isO_mW, isA_mW, mI_mW, mW_mW, stI_mW, vp_0, nI_addL, nI_mulL, nI_subL, nI_ltL, nI_leL, nI_Llt, nI_Lle, nI_eqL, nI_Leq, nI_add, pk_mul, nI_ltI, nI_leI, nI_eq, vpi, nI_clamp, nI_toN, bk_oB hB, bk_oV hB, bk_oH hB, bk_b0 hB, bk_b1 hB, bk_b2 hB, bk_b3 hB, bk_b4 hB, bk_b5 hB, bk_v0 hB, bk_v1 hB, bk_h0 hB, nw_o hB, nw_og hB, nw_od hB, nw_ot hB, nw_r9 hB, nw_r10 hB, nw_r11 hB, nw_r0 hB, nw_r1 hB, nw_r2 hB, nw_r3 hB, nw_r4 hB, nw_r5 hB, nw_r6 hB, nw_r7 hB, nw_r8 hB, nw_a1 hB, nw_a2 hB, nw_a3 hB, nw_a4 hB, nw_a5 hB, nw_a6 hB, nw_a7 hB, nw_a8 hB, nw_a9 hB, nw_a14 hB, nw_as hB, nw_at hB, vR, vT, Nat.not_lt_zero, bv_Tr, bv_Fa, one_n0, eq_self, Nat.zero_le, and_true, true_and, and_false, false_and, not_true, not_false_iff, or_true, true_or, or_false, false_or, mN_mRW, ex_iff, ↓g_B_plan_0, ↓g_B_plan_5, ↓g_B_plan_8, ↓g_B_plan_12, ↓g_B_plan_18, ↓g_B_plan_20, ↓g_B_plan_25, ↓g_B_plan_34, ↓g_B_plan_43, ↓g_B_plan_45, h1', h2, hmp, h4]
def wtP (f : Nat → Nat → Int32) (t r : Nat) : Nat → Int32
  | 0 => 0
  | n + 1 => if n = r then wtP f t r n else wtP f t r n + convF (exV f t n) (prF f 20 n) (prF f 20 r)
def wtR (f : Nat → Nat → Int32) (t r : Int32) : Int32 := if vT f t ∧ vR r then wtP f t.toNatClampNeg r.toNatClampNeg 4 else -1000000