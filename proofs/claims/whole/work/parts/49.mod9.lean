/-! the model: what would be granted -/
noncomputable def paU : Nat → (Nat → Int32) → (Nat → Int32) → Nat → (Nat → Int32) × (Nat → Int32) × Nat
  | 0, u, s, n => (u, s, n)
  | m + 1, u, s, n => if ¬ nxU u = -1000003 ∧ uG u < 40 then paU m (grU u (nxU u).toNatClampNeg) (upF s n (u (320 + 5 * (nxU u).toNatClampNeg + 4))) (n + 1) else (u, s, n)
theorem paU_le : ∀ m u s n, (paU m u s n).2.2 ≤ n + m
  | 0, u, s, n => Nat.le_refl _
  | m + 1, u, s, n => by
    unfold paU
    split
    · have := paU_le m (grU u (nxU u).toNatClampNeg) (upF s n (u (320 + 5 * (nxU u).toNatClampNeg + 4))) (n + 1)
      omega
    · show n ≤ n + (m + 1)
      omega
theorem paU_o {y : Nat} (h : 454 ≤ y) : ∀ m u s n, MdD u → (paU m u s n).1 y = u y
  | 0, u, s, n, _ => rfl
  | m + 1, u, s, n, hu => by
    unfold paU
    split
    · next q =>
      rw [paU_o h m _ _ _ (grU_D hu q.2), grU_o hu q.2 (by omega) (by omega) (by omega) (by omega)]
    · rfl
noncomputable def paK (u s : Nat → Int32) : Nat := (paU (uD u) u s 0).2.2
noncomputable def paS (u s : Nat → Int32) : Nat → Int32 := (paU (uD u) u s 0).2.1
noncomputable def paG (f : Nat → Nat → Int32) : Nat → Nat → Int32 := rwF (rwF f 177 (cpU (f 177) (f 175) 454)) 180 (paS (f 175) (f 180))
theorem cpU_back {a u w : Nat → Int32} (h : ∀ y, 454 ≤ y → w y = u y) : cpU w (cpU a u 454) 454 = u := by
  funext y
  unfold cpU
  by_cases q : y < 454
  · rw [if_pos q, if_pos q]
  · rw [if_neg q, h y (by omega)]
def e_M_plans : Ent := (fun av M => ∃ (o : Nat), av = [.ref o] ∧ (o = 174 ∧ MO M ∧ DsAll (mI M 175)), fun av M r_ M_ => ∀ (o : Nat), av = [.ref o] → r_ = (some (.int (nI (paK (mI M 175) (mI M 180))))) ∧ M_ = (mW M (paG (mI M))))
theorem pc_M_plans {o : Nat} {M : Mem} {K : Option Value → Mem → Prop} (hp : o = 174 ∧ MO M ∧ DsAll (mI M 175)) : pcall e_M_plans [.ref o] M K = K (some (.int (nI (paK (mI M 175) (mI M 180))))) (mW M (paG (mI M))) := propext ⟨fun h => h.2 _ _ (fun o' e => by simp only [List.cons.injEq, Value.ref.injEq, Value.int.injEq, Value.long.injEq, and_true] at e; have q0 := e; obtain rfl := q0; exact ⟨rfl, rfl⟩), fun h => ⟨⟨o, rfl, hp⟩, fun r_ M_ q => by obtain ⟨rfl, rfl⟩ := q _ rfl; exact h⟩⟩
theorem mk_M_plans {Z : Zt} {d : Nat} (h : ∀ (o : Nat) (M : Mem), (o = 174 ∧ MO M ∧ DsAll (mI M 175)) → Gm Z d s_M_plans [.ref o] M (ex (some (.int (nI (paK (mI M 175) (mI M 180))))) (mW M (paG (mI M))))) : okE Z d i_M_plans e_M_plans := by
  rintro av M ⟨o, rfl, hp⟩
  exact Gm.cons (h o M  hp) (fun r_ M_ q o' e => by simp only [List.cons.injEq, Value.ref.injEq, Value.int.injEq, Value.long.injEq, and_true] at e; have q0 := e; obtain rfl := q0; exact q)
def C_M_plans : List (Nat × Ent) := [(i_M_keepsAside, e_M_keepsAside), (i_M_nextDemand, e_M_nextDemand), (i_M_grants, e_M_grants), (i_M_returns, e_M_returns)]
abbrev S_M_plans : List Nat := [11]
def t_M_plans_56 : List PI := (56, 1, 0, 1, 0, 0, []) :: (57, 9, 0, 0, 0, 0, []) :: []
def t_M_plans_52 : List PI := (52, 1, 1, 0, 0, 0, []) :: (53, 11, 0, 5, 110, 0, [166, 1]) :: t_M_plans_56
def t_M_plans_48 : List PI := (48, 1, 3, 2, 0, 0, []) :: (49, 6, 0, 11, 0, 0, []) :: t_M_plans_52
def t_M_plans_40 : List PI := (40, 10, 4, 0, 0, 0, []) :: (41, 1, 6, 1, 0, 1, []) :: (44, 1, 1, 0, 0, 0, []) :: (45, 11, 0, 5, 138, 0, [116, 1]) :: t_M_plans_48
def t_M_plans_30 : List PI := (30, 1, 1, 0, 0, 0, []) :: (31, 8, 1, 5, 9, 0, [25]) :: (34, 1, 0, 1, 0, 0, []) :: (35, 1, 1, 0, 0, 0, []) :: (36, 1, 0, 2, 0, 0, []) :: (37, 11, 0, 5, 139, 0, [119, 2]) :: t_M_plans_40
def t_M_plans_17 : List PI := (17, 1, 1, 0, 0, 0, []) :: (18, 8, 1, 5, 0, 0, [7]) :: (21, 0, 0, 0, 2, 448, []) :: (24, 8, 4, 0, 0, 0, []) :: (25, 0, 0, 0, 1, 40, []) :: (27, 4, 3, 52, 0, 0, []) :: t_M_plans_30
def t_M_plans_11 : List PI := (11, 1, 0, 2, 0, 0, []) :: (12, 0, 0, 52, 3, -1000003, []) :: (14, 4, 0, 52, 0, 0, []) :: t_M_plans_17
def t_M_plans_10 : List PI := (10, 1, 3, 2, 0, 0, []) :: t_M_plans_11
def t_M_plans_4 : List PI := (4, 0, 0, 0, 0, 0, []) :: (5, 1, 3, 1, 0, 0, []) :: (6, 1, 1, 0, 0, 0, []) :: (7, 11, 0, 5, 138, 0, [116, 1]) :: t_M_plans_10
def t_M_plans_0 : List PI := (0, 1, 1, 0, 0, 0, []) :: (1, 11, 0, 5, 109, 0, [163, 1]) :: t_M_plans_4
theorem kt_M_plans : okP s_M_plans t_M_plans_0 := k_M_plans
theorem g_M_plans_0 {Z : Zt} {nF f : Nat} {Kx : Nat → Kt} {Q : Option Value → Mem → Prop} {M : Mem} {x1 : Nat} : run Z nF C_M_plans S_M_plans Kx Q (f + 2) t_M_plans_0 [some (.ref (x1)), none, none] [] M = (((isO (M) (x1) 5) ∧ wsum [] ≤ 8) ∧ pcall e_M_keepsAside [.ref (x1)] (M) (fun v M_ => run Z nF C_M_plans S_M_plans Kx Q f t_M_plans_4 [some (.ref (x1)), none, none] (v.toList ++ []) M_)) := rfl
theorem g_M_plans_4 {Z : Zt} {nF f : Nat} {Kx : Nat → Kt} {Q : Option Value → Mem → Prop} {M : Mem} {x1 : Nat} : run Z nF C_M_plans S_M_plans Kx Q (f + 4) t_M_plans_4 [some (.ref (x1)), none, none] [] M = (((isO (M) (x1) 5) ∧ wsum [] ≤ 8) ∧ pcall e_M_nextDemand [.ref (x1)] (M) (fun v M_ => run Z nF C_M_plans S_M_plans Kx Q f t_M_plans_10 [some (.ref (x1)), some (.int ((nI 0))), none] (v.toList ++ []) M_)) := rfl
theorem g_M_plans_10 {Z : Zt} {nF f : Nat} {Kx : Nat → Kt} {Q : Option Value → Mem → Prop} {M : Mem} {x1 : Nat} {x2 : Int32} {x3 : Int32} : run Z nF C_M_plans S_M_plans Kx Q (f + 1) t_M_plans_10 [some (.ref (x1)), some (.int (x2)), none] [.int (x3)] M = (Kx 11 [some (.ref (x1)), some (.int (x2)), some (.int (x3))] [] (M)) := rfl
theorem g_M_plans_11 {Z : Zt} {nF f : Nat} {Kx : Nat → Kt} {Q : Option Value → Mem → Prop} {M : Mem} {x1 : Nat} {x2 : Int32} {x3 : Int32} : run Z nF C_M_plans S_M_plans Kx Q (f + 3) t_M_plans_11 [some (.ref (x1)), some (.int (x2)), some (.int (x3))] [] M = ((if (x3) = ((-1000003 : Int32)) then run Z nF C_M_plans S_M_plans Kx Q f t_M_plans_52 [some (.ref (x1)), some (.int (x2)), some (.int (x3))] [] (M) else run Z nF C_M_plans S_M_plans Kx Q f t_M_plans_17 [some (.ref (x1)), some (.int (x2)), some (.int (x3))] [] (M))) := rfl
theorem g_M_plans_17 {Z : Zt} {nF f : Nat} {Kx : Nat → Kt} {Q : Option Value → Mem → Prop} {M : Mem} {x1 : Nat} {x2 : Int32} {x3 : Int32} : run Z nF C_M_plans S_M_plans Kx Q (f + 6) t_M_plans_17 [some (.ref (x1)), some (.int (x2)), some (.int (x3))] [] M = (isO (M) (x1) 5 ∧ isA (M) (mR (M) (x1) 0) ((nI 448)) ∧ (if ((nI 40)) ≤ (mI (M) (mR (M) (x1) 0) (Int32.toNatClampNeg ((nI 448)))) then run Z nF C_M_plans S_M_plans Kx Q f t_M_plans_52 [some (.ref (x1)), some (.int (x2)), some (.int (x3))] [] (M) else run Z nF C_M_plans S_M_plans Kx Q f t_M_plans_30 [some (.ref (x1)), some (.int (x2)), some (.int (x3))] [] (M))) := rfl
theorem g_M_plans_30 {Z : Zt} {nF f : Nat} {Kx : Nat → Kt} {Q : Option Value → Mem → Prop} {M : Mem} {x1 : Nat} {x2 : Int32} {x3 : Int32} : run Z nF C_M_plans S_M_plans Kx Q (f + 6) t_M_plans_30 [some (.ref (x1)), some (.int (x2)), some (.int (x3))] [] M = (isO (M) (x1) 5 ∧ ((isO (M) (x1) 5) ∧ wsum [.int (x2), .ref (mR (M) (x1) 9)] ≤ 8) ∧ pcall e_M_grants [.ref (x1), .int (x3)] (M) (fun v M_ => run Z nF C_M_plans S_M_plans Kx Q f t_M_plans_40 [some (.ref (x1)), some (.int (x2)), some (.int (x3))] (v.toList ++ [.int (x2), .ref (mR (M) (x1) 9)]) M_)) := rfl
theorem g_M_plans_40 {Z : Zt} {nF f : Nat} {Kx : Nat → Kt} {Q : Option Value → Mem → Prop} {M : Mem} {x1 : Nat} {x2 : Int32} {x3 : Int32} {x4 : Int32} {x5 : Int32} {x6 : Nat} : run Z nF C_M_plans S_M_plans Kx Q (f + 4) t_M_plans_40 [some (.ref (x1)), some (.int (x2)), some (.int (x3))] [.int (x4), .int (x5), .ref (x6)] M = (isA (M) (x6) (x5) ∧ ((isO (stI (M) (x6) (Int32.toNatClampNeg (x5)) (x4)) (x1) 5) ∧ wsum [] ≤ 8) ∧ pcall e_M_nextDemand [.ref (x1)] (stI (M) (x6) (Int32.toNatClampNeg (x5)) (x4)) (fun v M_ => run Z nF C_M_plans S_M_plans Kx Q f t_M_plans_48 [some (.ref (x1)), some (.int (x2 + (nI 1))), some (.int (x3))] (v.toList ++ []) M_)) := rfl
theorem g_M_plans_48 {Z : Zt} {nF f : Nat} {Kx : Nat → Kt} {Q : Option Value → Mem → Prop} {M : Mem} {x1 : Nat} {x2 : Int32} {x3 : Int32} {x4 : Int32} : run Z nF C_M_plans S_M_plans Kx Q (f + 2) t_M_plans_48 [some (.ref (x1)), some (.int (x2)), some (.int (x3))] [.int (x4)] M = (Kx 11 [some (.ref (x1)), some (.int (x2)), some (.int (x4))] [] (M)) := rfl
theorem g_M_plans_52 {Z : Zt} {nF f : Nat} {Kx : Nat → Kt} {Q : Option Value → Mem → Prop} {M : Mem} {x1 : Nat} {x2 : Int32} {x3 : Int32} : run Z nF C_M_plans S_M_plans Kx Q (f + 2) t_M_plans_52 [some (.ref (x1)), some (.int (x2)), some (.int (x3))] [] M = (((isO (M) (x1) 5) ∧ wsum [] ≤ 8) ∧ pcall e_M_returns [.ref (x1)] (M) (fun v M_ => run Z nF C_M_plans S_M_plans Kx Q f t_M_plans_56 [some (.ref (x1)), some (.int (x2)), some (.int (x3))] (v.toList ++ []) M_)) := rfl
theorem g_M_plans_56 {Z : Zt} {nF f : Nat} {Kx : Nat → Kt} {Q : Option Value → Mem → Prop} {M : Mem} {x1 : Nat} {x2 : Int32} {x3 : Int32} : run Z nF C_M_plans S_M_plans Kx Q (f + 2) t_M_plans_56 [some (.ref (x1)), some (.int (x2)), some (.int (x3))] [] M = (Q (some (.int (x2))) (M)) := rfl
set_option maxRecDepth 100000 in
set_option maxHeartbeats 4000000 in
theorem lp_M_plans (Z : Zt) (d : Nat) {M : Mem} {f : Nat → Nat → Int32} {u0 w sw : Nat → Int32} {R0 : Nat} (hB : BkS M) : ∀ m u s n, uD u = m → n + m ≤ 24 → MdD u → DsAll u → (∀ y, 454 ≤ y → u y = u0 y) → paU m u s n = (w, sw, R0) → X Z (d + 6) s_M_plans (mN M) (mN M) (ex (some (.int (nI R0))) (mW M (rwF (rwF (rwF f 175 u0) 177 (cpU (f 177) u0 454)) 180 sw))) 11 [some (.ref 174), some (.int (nI n)), some (.int (nxU u))] [] (mW M (rwF (rwF (rwF f 175 u) 177 (cpU (f 177) u0 454)) 180 s)) := by
  have hre : ∀ {u s : Nat → Int32}, (∀ y, 454 ≤ y → u y = u0 y) → ∀ {K : Option Value → Mem → Prop}, pcall e_M_returns [.ref 174] (mW M (rwF (rwF (rwF f 175 u) 177 (cpU (f 177) u0 454)) 180 s)) K = K none (mW M (rwF (rwF (rwF f 175 u0) 177 (cpU (f 177) u0 454)) 180 s)) := by
    intro u s ho K
    rw [pc_M_returns (o := 174) (M := mW M (rwF (rwF (rwF f 175 u) 177 (cpU (f 177) u0 454)) 180 s)) ⟨rfl, hB⟩]
    simp only [mI_mW, mW_mW, rw_ne (show (175 : Nat) ≠ 180 by omega), rw_ne (show (175 : Nat) ≠ 177 by omega), rw_ne (show (177 : Nat) ≠ 180 by omega), rw_at, cpU_back ho, rw_180_175, rw_177_175, rw_rw]
  intro m
  induction m with
  | zero =>
    intro u s n hm hn hu hDs ho hr
    have he := nxU_0 hm
    have hre2 : ∀ {K : Option Value → Mem → Prop}, pcall e_M_returns [.ref 174] (mW M (rwF (rwF (rwF f 175 u) 177 (cpU (f 177) u0 454)) 180 s)) K = K none (mW M (rwF (rwF (rwF f 175 u0) 177 (cpU (f 177) u0 454)) 180 s)) := hre ho
    cases hr
    refine X_runT (C := C_M_plans) (S := S_M_plans) (T := t_M_plans_11) 1000 kt_M_plans (okE_cons (ok_M_keepsAside Z (d + 4)) (okE_cons (ok_M_nextDemand Z d) (okE_cons (ok_M_grants Z (d + 3)) (okE_cons (ok_M_returns Z (d + 4)) okE_nil)))) ?_
    simp (maxSteps := 3000000) (disch := first | exact True.intro | assumption | omega) only [↓eq_self, Option.toList_some, Option.toList_none, List.nil_append, List.cons_append, wsum_0, wsum_1, wsum_2, wsum_3, wsum_4, lkill, ↓reduceIte, if_true, if_false, Bool.false_eq_true, and_true, true_and, and_self, or_self, true_or, or_true, not_true, not_false_iff, mR_stI, mN_stI, isO_stI, isA_stI, mI_stI, mR_mW, mN_mW, isO_mW, isA_mW, mI_mW, mW_mW, stI_mW, vp_0, nI_addL, nI_mulL, nI_subL, nI_ltL, nI_leL, nI_Llt, nI_Lle, nI_eqL, nI_Leq, nI_add, pk_mul, nI_ltI, nI_leI, nI_eq, vpi, nI_clamp, nI_toN, ↓g_M_plans_11]
    rw [if_pos he]
    simp (maxSteps := 3000000) (disch := first | exact True.intro | assumption | omega) only [↓eq_self, Option.toList_some, Option.toList_none, List.nil_append, List.cons_append, wsum_0, wsum_1, wsum_2, wsum_3, wsum_4, lkill, ↓reduceIte, if_true, if_false, Bool.false_eq_true, and_true, true_and, and_self, or_self, true_or, or_true, not_true, not_false_iff, mR_stI, mN_stI, isO_stI, isA_stI, mI_stI, mR_mW, mN_mW, isO_mW, isA_mW, mI_mW, mW_mW, stI_mW, vp_0, nI_addL, nI_mulL, nI_subL, nI_ltL, nI_leL, nI_Llt, nI_Lle, nI_eqL, nI_Leq, nI_add, pk_mul, nI_ltI, nI_leI, nI_eq, vpi, nI_clamp, nI_toN, ↓g_M_plans_52, ↓g_M_plans_56, bk_oM hB, hre2]
    exact ⟨rfl, rfl⟩
  | succ m ih =>
    intro u s n hm hn hu hDs ho hr
    have hG := hu.2.1.1
    have h40 := hu.2.1.2
    have hre2 : ∀ {K : Option Value → Mem → Prop}, pcall e_M_returns [.ref 174] (mW M (rwF (rwF (rwF f 175 u) 177 (cpU (f 177) u0 454)) 180 s)) K = K none (mW M (rwF (rwF (rwF f 175 u0) 177 (cpU (f 177) u0 454)) 180 s)) := hre ho
    rw [paU] at hr
    refine X_runT (C := C_M_plans) (S := S_M_plans) (T := t_M_plans_11) 1000 kt_M_plans (okE_cons (ok_M_keepsAside Z (d + 4)) (okE_cons (ok_M_nextDemand Z d) (okE_cons (ok_M_grants Z (d + 3)) (okE_cons (ok_M_returns Z (d + 4)) okE_nil)))) ?_
    simp (maxSteps := 3000000) (disch := first | exact True.intro | assumption | omega) only [↓eq_self, Option.toList_some, Option.toList_none, List.nil_append, List.cons_append, wsum_0, wsum_1, wsum_2, wsum_3, wsum_4, lkill, ↓reduceIte, if_true, if_false, Bool.false_eq_true, and_true, true_and, and_self, or_self, true_or, or_true, not_true, not_false_iff, mR_stI, mN_stI, isO_stI, isA_stI, mI_stI, mR_mW, mN_mW, isO_mW, isA_mW, mI_mW, mW_mW, stI_mW, vp_0, nI_addL, nI_mulL, nI_subL, nI_ltL, nI_leL, nI_Llt, nI_Lle, nI_eqL, nI_Leq, nI_add, pk_mul, nI_ltI, nI_leI, nI_eq, vpi, nI_clamp, nI_toN, ↓g_M_plans_11]
    rcases nxU_cases u with he | ⟨k, q, hk, hq, ho2, e⟩
    · rw [if_neg (fun z => z.1 he)] at hr
      cases hr
      rw [if_pos he]
      simp (maxSteps := 3000000) (disch := first | exact True.intro | assumption | omega) only [↓eq_self, Option.toList_some, Option.toList_none, List.nil_append, List.cons_append, wsum_0, wsum_1, wsum_2, wsum_3, wsum_4, lkill, ↓reduceIte, if_true, if_false, Bool.false_eq_true, and_true, true_and, and_self, or_self, true_or, or_true, not_true, not_false_iff, mR_stI, mN_stI, isO_stI, isA_stI, mI_stI, mR_mW, mN_mW, isO_mW, isA_mW, mI_mW, mW_mW, stI_mW, vp_0, nI_addL, nI_mulL, nI_subL, nI_ltL, nI_leL, nI_Llt, nI_Lle, nI_eqL, nI_Leq, nI_add, pk_mul, nI_ltI, nI_leI, nI_eq, vpi, nI_clamp, nI_toN, ↓g_M_plans_52, ↓g_M_plans_56, bk_oM hB, hre2]
      exact ⟨rfl, rfl⟩
    · have hne : ¬ nI k = -1000003 := nI_neN (by have := hu.2.2.1.2; omega)
      rw [e, nI_toN (show k < 2 ^ 31 by omega)] at hr
      rw [e, if_neg hne]
      by_cases h4 : uG u < 40
      · rw [if_pos ⟨hne, h4⟩] at hr
        have h4' : ¬ 40 ≤ uG u := by omega
        have hD2 := grU_D (k := k) hu h4
        have hDs2 := DsAll_gr (k := k) hu h4 hDs
        have hgr : ∀ {K : Option Value → Mem → Prop}, pcall e_M_grants [.ref 174, .int (nI k)] (mW M (rwF (rwF (rwF f 175 u) 177 (cpU (f 177) u0 454)) 180 s)) K = K (some (.int (u (320 + 5 * k + 4)))) (mW M (rwF (rwF (rwF f 175 (grU u k)) 177 (cpU (f 177) u0 454)) 180 s)) := by
          intro K
          rw [pc_M_grants (o := 174) (k := k) (M := mW M (rwF (rwF (rwF f 175 u) 177 (cpU (f 177) u0 454)) 180 s)) ⟨rfl, MO_g hB (by rw [rw_ne (by omega), rw_ne (by omega), rw_at]; exact hu), by rw [mI_mW, rw_ne (by omega), rw_ne (by omega), rw_at]; exact hk, by rw [mI_mW, rw_ne (by omega), rw_ne (by omega), rw_at]; exact h4⟩ (by omega)]
          simp only [mI_mW, mW_mW, rw_ne (show (175 : Nat) ≠ 180 by omega), rw_ne (show (175 : Nat) ≠ 177 by omega), rw_at, rw_180_175, rw_177_175, rw_rw]
        have hnx : ∀ {s : Nat → Int32} {K : Option Value → Mem → Prop}, pcall e_M_nextDemand [.ref 174] (mW M (rwF (rwF (rwF f 175 (grU u k)) 177 (cpU (f 177) u0 454)) 180 s)) K = K (some (.int (nxU (grU u k)))) (mW M (rwF (rwF (rwF f 175 (grU u k)) 177 (cpU (f 177) u0 454)) 180 s)) := by
          intro s K
          rw [pc_M_nextDemand (o := 174) (M := mW M (rwF (rwF (rwF f 175 (grU u k)) 177 (cpU (f 177) u0 454)) 180 s)) ⟨rfl, MO_g hB (by rw [rw_ne (by omega), rw_ne (by omega), rw_at]; exact hD2), by rw [mI_mW, rw_ne (by omega), rw_ne (by omega), rw_at]; exact hDs2⟩, mI_mW, rw_ne (by omega), rw_ne (by omega), rw_at]
        have hn4 : n < 40 := by omega
        simp (maxSteps := 3000000) (disch := first | exact True.intro | assumption | omega) only [↓eq_self, Option.toList_some, Option.toList_none, List.nil_append, List.cons_append, wsum_0, wsum_1, wsum_2, wsum_3, wsum_4, lkill, ↓reduceIte, if_true, if_false, Bool.false_eq_true, and_true, true_and, and_self, or_self, true_or, or_true, not_true, not_false_iff, mR_stI, mN_stI, isO_stI, isA_stI, mI_stI, mR_mW, mN_mW, isO_mW, isA_mW, mI_mW, mW_mW, stI_mW, vp_0, nI_add, nI_ltI, nI_leI, nI_eq, vpi, nI_clamp, nI_toN, nI_geT, nI_lt4, pk_mul, pk_sub, bv_0n, bv_1n, ↓bv_01n, n01a, n01b, Nat.reduceSub, u2_rw, rw_rw, rw_at, rw_ne, rw_175_174, rw_176_174, rw_176_175, rw_177_174, rw_177_175, rw_177_176, rw_178_174, rw_178_175, rw_178_176, rw_178_177, rw_179_174, rw_179_175, rw_179_176, rw_179_177, rw_179_178, rw_180_174, rw_180_175, rw_180_176, rw_180_177, rw_180_178, rw_180_179, up_at, up_ne, Nat.zero_add, Nat.add_zero, bk_oM hB, bk_m0 hB, bk_m1 hB, bk_m2 hB, bk_m4 hB, bk_m6 hB, bk_m9 hB, md_a hB, md_p hB, md_s hB, md_t hB, md_r hB, md_v hB, ite_nt, ↓g_M_plans_17, ↓g_M_plans_30, ↓g_M_plans_40, ↓g_M_plans_48, hG, h4', hgr, hnx, hn4]
        exact ih (grU u k) _ (n + 1) (by rw [grU_uD hu h4]; omega) (by omega) hD2 hDs2 (fun y hy => by rw [grU_o hu h4 (by omega) (by omega) (by omega) (by omega)]; exact ho y hy) hr
      · have h4' : 40 ≤ uG u := by omega
        rw [if_neg (fun z => h4 z.2)] at hr
        cases hr
        simp (maxSteps := 3000000) (disch := first | exact True.intro | assumption | omega) only [↓eq_self, Option.toList_some, Option.toList_none, List.nil_append, List.cons_append, wsum_0, wsum_1, wsum_2, wsum_3, wsum_4, lkill, ↓reduceIte, if_true, if_false, Bool.false_eq_true, and_true, true_and, and_self, or_self, true_or, or_true, not_true, not_false_iff, mR_stI, mN_stI, isO_stI, isA_stI, mI_stI, mR_mW, mN_mW, isO_mW, isA_mW, mI_mW, mW_mW, stI_mW, vp_0, nI_add, nI_ltI, nI_leI, nI_eq, vpi, nI_clamp, nI_toN, nI_geT, nI_lt4, pk_mul, pk_sub, bv_0n, bv_1n, ↓bv_01n, n01a, n01b, Nat.reduceSub, u2_rw, rw_rw, rw_at, rw_ne, rw_175_174, rw_176_174, rw_176_175, rw_177_174, rw_177_175, rw_177_176, rw_178_174, rw_178_175, rw_178_176, rw_178_177, rw_179_174, rw_179_175, rw_179_176, rw_179_177, rw_179_178, rw_180_174, rw_180_175, rw_180_176, rw_180_177, rw_180_178, rw_180_179, up_at, up_ne, Nat.zero_add, Nat.add_zero, bk_oM hB, bk_m0 hB, bk_m1 hB, bk_m2 hB, bk_m4 hB, bk_m6 hB, bk_m9 hB, md_a hB, md_p hB, md_s hB, md_t hB, md_r hB, md_v hB, ite_nt, ↓g_M_plans_17, ↓g_M_plans_30, ↓g_M_plans_40, ↓g_M_plans_48, hG, h4']
        simp (maxSteps := 3000000) (disch := first | exact True.intro | assumption | omega) only [↓eq_self, Option.toList_some, Option.toList_none, List.nil_append, List.cons_append, wsum_0, wsum_1, wsum_2, wsum_3, wsum_4, lkill, ↓reduceIte, if_true, if_false, Bool.false_eq_true, and_true, true_and, and_self, or_self, true_or, or_true, not_true, not_false_iff, mR_stI, mN_stI, isO_stI, isA_stI, mI_stI, mR_mW, mN_mW, isO_mW, isA_mW, mI_mW, mW_mW, stI_mW, vp_0, nI_addL, nI_mulL, nI_subL, nI_ltL, nI_leL, nI_Llt, nI_Lle, nI_eqL, nI_Leq, nI_add, pk_mul, nI_ltI, nI_leI, nI_eq, vpi, nI_clamp, nI_toN, ↓g_M_plans_52, ↓g_M_plans_56, bk_oM hB, hre2]
        exact ⟨rfl, rfl⟩
set_option maxRecDepth 100000 in
set_option maxHeartbeats 4000000 in
theorem ok_M_plans (Z : Zt) (d : Nat) : okE Z (d + 6) i_M_plans e_M_plans := mk_M_plans fun o M hp => by
  obtain ⟨rfl, hM, hDs⟩ := hp
  obtain ⟨hB, hU⟩ := id hM
  have h24 := hU.2.2.1.2
  have hka : ∀ {K : Option Value → Mem → Prop}, pcall e_M_keepsAside [.ref 174] M K = K none (mW M (rwF (mI M) 177 (cpU (mI M 177) (mI M 175) 454))) := pc_M_keepsAside (o := 174) (M := M) ⟨rfl, hB⟩
  have hnx : ∀ {K : Option Value → Mem → Prop}, pcall e_M_nextDemand [.ref 174] (mW M (rwF (mI M) 177 (cpU (mI M 177) (mI M 175) 454))) K = K (some (.int (nxU (mI M 175)))) (mW M (rwF (mI M) 177 (cpU (mI M 177) (mI M 175) 454))) := by
    intro K
    rw [pc_M_nextDemand (o := 174) (M := mW M (rwF (mI M) 177 (cpU (mI M 177) (mI M 175) 454))) ⟨rfl, MO_g hB (by rw [rw_ne (by omega)]; exact hU), by rw [mI_mW, rw_ne (by omega)]; exact hDs⟩, mI_mW, rw_ne (by omega)]
  refine Gm_run (C := C_M_plans) (S := S_M_plans) [some (.ref 174), none, none] 1000 kt_M_plans (okE_cons (ok_M_keepsAside Z (d + 4)) (okE_cons (ok_M_nextDemand Z d) (okE_cons (ok_M_grants Z (d + 3)) (okE_cons (ok_M_returns Z (d + 4)) okE_nil)))) (ex_n rfl) ?_
  simp (maxSteps := 3000000) (disch := first | exact True.intro | assumption | omega) only [↓eq_self, Option.toList_some, Option.toList_none, List.nil_append, List.cons_append, wsum_0, wsum_1, wsum_2, wsum_3, wsum_4, lkill, ↓reduceIte, if_true, if_false, Bool.false_eq_true, and_true, true_and, and_self, or_self, true_or, or_true, not_true, not_false_iff, mR_stI, mN_stI, isO_stI, isA_stI, mI_stI, mR_mW, mN_mW, isO_mW, isA_mW, mI_mW, mW_mW, stI_mW, vp_0, nI_addL, nI_mulL, nI_subL, nI_ltL, nI_leL, nI_Llt, nI_Lle, nI_eqL, nI_Leq, nI_add, pk_mul, nI_ltI, nI_leI, nI_eq, vpi, nI_clamp, nI_toN, ↓g_M_plans_0, ↓g_M_plans_4, ↓g_M_plans_10, bk_oM hB, hka, hnx]
  have := lp_M_plans Z d (M := M) (f := mI M) (u0 := mI M 175) hB (uD (mI M 175)) (mI M 175) (mI M 180) 0 rfl (by omega) hU hDs (fun y hy => rfl) rfl
  rw [rwF_self, show rwF (rwF (mI M) 177 (cpU (mI M 177) (mI M 175) 454)) 180 (mI M 180) = rwF (mI M) 177 (cpU (mI M 177) (mI M 175) 454) from by rw [show mI M 180 = rwF (mI M) 177 (cpU (mI M 177) (mI M 175) 454) 180 from (rw_ne (by omega)).symm, rwF_self]] at this
  exact this
noncomputable def upnR (u s : Nat → Int32) (i : Int32) : Int32 := if i < -1 then -1000000 else if i = -1 then nI (paK u s) else if i < nI (paK u s) then paS u s i.toNatClampNeg else -1000003
noncomputable def upnM (f : Nat → Nat → Int32) (i : Int32) : Nat → Nat → Int32 := if i < -1 then f else paG f
def e_M_plan : Ent := (fun av M => ∃ (o : Nat) (i : Int32), av = [.ref o, .int i] ∧ (o = 174 ∧ MO M ∧ DsAll (mI M 175)), fun av M r_ M_ => ∀ (o : Nat) (i : Int32), av = [.ref o, .int i] → r_ = (some (.int (upnR (mI M 175) (mI M 180) i))) ∧ M_ = (mW M (upnM (mI M) i)))
theorem pc_M_plan {o : Nat} {i : Int32} {M : Mem} {K : Option Value → Mem → Prop} (hp : o = 174 ∧ MO M ∧ DsAll (mI M 175)) : pcall e_M_plan [.ref o, .int i] M K = K (some (.int (upnR (mI M 175) (mI M 180) i))) (mW M (upnM (mI M) i)) := propext ⟨fun h => h.2 _ _ (fun o' i' e => by simp only [List.cons.injEq, Value.ref.injEq, Value.int.injEq, Value.long.injEq, and_true] at e; obtain ⟨q0, q1⟩ := e; obtain rfl := q0; obtain rfl := q1; exact ⟨rfl, rfl⟩), fun h => ⟨⟨o, i, rfl, hp⟩, fun r_ M_ q => by obtain ⟨rfl, rfl⟩ := q _ _ rfl; exact h⟩⟩
theorem mk_M_plan {Z : Zt} {d : Nat} (h : ∀ (o : Nat) (i : Int32) (M : Mem), (o = 174 ∧ MO M ∧ DsAll (mI M 175)) → Gm Z d s_M_plan [.ref o, .int i] M (ex (some (.int (upnR (mI M 175) (mI M 180) i))) (mW M (upnM (mI M) i)))) : okE Z d i_M_plan e_M_plan := by
  rintro av M ⟨o, i, rfl, hp⟩
  exact Gm.cons (h o i M  hp) (fun r_ M_ q o' i' e => by simp only [List.cons.injEq, Value.ref.injEq, Value.int.injEq, Value.long.injEq, and_true] at e; obtain ⟨q0, q1⟩ := e; obtain rfl := q0; obtain rfl := q1; exact q)
def C_M_plan : List (Nat × Ent) := [(i_M_plans, e_M_plans)]
abbrev S_M_plan : List Nat := []
def t_M_plan_38 : List PI := (38, 9, 0, 0, 0, 0, []) :: []
def t_M_plan_36 : List PI := (36, 0, 0, 52, 3, -1000003, []) :: t_M_plan_38
def t_M_plan_27 : List PI := (27, 1, 1, 0, 0, 0, []) :: (28, 8, 1, 5, 9, 0, [25]) :: (31, 1, 0, 1, 0, 0, []) :: (32, 8, 4, 0, 0, 0, []) :: (33, 6, 0, 38, 0, 0, []) :: t_M_plan_36
def t_M_plan_22 : List PI := (22, 1, 0, 1, 0, 0, []) :: (23, 1, 0, 2, 0, 0, []) :: (24, 4, 3, 36, 0, 0, []) :: t_M_plan_27
def t_M_plan_18 : List PI := (18, 1, 0, 2, 0, 0, []) :: (19, 6, 0, 38, 0, 0, []) :: t_M_plan_22
def t_M_plan_12 : List PI := (12, 1, 3, 2, 0, 0, []) :: (13, 1, 0, 1, 0, 0, []) :: (14, 0, 0, 0, 0, -1, []) :: (15, 4, 1, 22, 0, 0, []) :: t_M_plan_18
def t_M_plan_8 : List PI := (8, 1, 1, 0, 0, 0, []) :: (9, 11, 0, 5, 161, 0, [169, 1]) :: t_M_plan_12
def t_M_plan_5 : List PI := (5, 0, 0, 37, 3, -1000000, []) :: (7, 9, 0, 0, 0, 0, []) :: t_M_plan_8
def t_M_plan_0 : List PI := (0, 1, 0, 1, 0, 0, []) :: (1, 0, 0, 0, 0, -1, []) :: (2, 4, 3, 8, 0, 0, []) :: t_M_plan_5
theorem kt_M_plan : okP s_M_plan t_M_plan_0 := k_M_plan
theorem g_M_plan_0 {Z : Zt} {nF f : Nat} {Kx : Nat → Kt} {Q : Option Value → Mem → Prop} {M : Mem} {x1 : Nat} {x2 : Int32} : run Z nF C_M_plan S_M_plan Kx Q (f + 3) t_M_plan_0 [some (.ref (x1)), some (.int (x2)), none] [] M = ((if ((-1 : Int32)) ≤ (x2) then run Z nF C_M_plan S_M_plan Kx Q f t_M_plan_8 [some (.ref (x1)), some (.int (x2)), none] [] (M) else run Z nF C_M_plan S_M_plan Kx Q f t_M_plan_5 [some (.ref (x1)), some (.int (x2)), none] [] (M))) := rfl
theorem g_M_plan_5 {Z : Zt} {nF f : Nat} {Kx : Nat → Kt} {Q : Option Value → Mem → Prop} {M : Mem} {x1 : Nat} {x2 : Int32} : run Z nF C_M_plan S_M_plan Kx Q (f + 2) t_M_plan_5 [some (.ref (x1)), some (.int (x2)), none] [] M = (Q (some (.int ((-1000000 : Int32)))) (M)) := rfl
theorem g_M_plan_8 {Z : Zt} {nF f : Nat} {Kx : Nat → Kt} {Q : Option Value → Mem → Prop} {M : Mem} {x1 : Nat} {x2 : Int32} : run Z nF C_M_plan S_M_plan Kx Q (f + 2) t_M_plan_8 [some (.ref (x1)), some (.int (x2)), none] [] M = (((isO (M) (x1) 5) ∧ wsum [] ≤ 8) ∧ pcall e_M_plans [.ref (x1)] (M) (fun v M_ => run Z nF C_M_plan S_M_plan Kx Q f t_M_plan_12 [some (.ref (x1)), some (.int (x2)), none] (v.toList ++ []) M_)) := rfl
theorem g_M_plan_12 {Z : Zt} {nF f : Nat} {Kx : Nat → Kt} {Q : Option Value → Mem → Prop} {M : Mem} {x1 : Nat} {x2 : Int32} {x3 : Int32} : run Z nF C_M_plan S_M_plan Kx Q (f + 4) t_M_plan_12 [some (.ref (x1)), some (.int (x2)), none] [.int (x3)] M = ((if (x2) = ((-1 : Int32)) then run Z nF C_M_plan S_M_plan Kx Q f t_M_plan_18 [some (.ref (x1)), some (.int (x2)), some (.int (x3))] [] (M) else run Z nF C_M_plan S_M_plan Kx Q f t_M_plan_22 [some (.ref (x1)), some (.int (x2)), some (.int (x3))] [] (M))) := rfl
theorem g_M_plan_18 {Z : Zt} {nF f : Nat} {Kx : Nat → Kt} {Q : Option Value → Mem → Prop} {M : Mem} {x1 : Nat} {x2 : Int32} {x3 : Int32} : run Z nF C_M_plan S_M_plan Kx Q (f + 2) t_M_plan_18 [some (.ref (x1)), some (.int (x2)), some (.int (x3))] [] M = (run Z nF C_M_plan S_M_plan Kx Q f t_M_plan_38 [some (.ref (x1)), some (.int (x2)), some (.int (x3))] [.int (x3)] (M)) := rfl
theorem g_M_plan_22 {Z : Zt} {nF f : Nat} {Kx : Nat → Kt} {Q : Option Value → Mem → Prop} {M : Mem} {x1 : Nat} {x2 : Int32} {x3 : Int32} : run Z nF C_M_plan S_M_plan Kx Q (f + 3) t_M_plan_22 [some (.ref (x1)), some (.int (x2)), some (.int (x3))] [] M = ((if (x3) ≤ (x2) then run Z nF C_M_plan S_M_plan Kx Q f t_M_plan_36 [some (.ref (x1)), some (.int (x2)), some (.int (x3))] [] (M) else run Z nF C_M_plan S_M_plan Kx Q f t_M_plan_27 [some (.ref (x1)), some (.int (x2)), some (.int (x3))] [] (M))) := rfl
theorem g_M_plan_27 {Z : Zt} {nF f : Nat} {Kx : Nat → Kt} {Q : Option Value → Mem → Prop} {M : Mem} {x1 : Nat} {x2 : Int32} {x3 : Int32} : run Z nF C_M_plan S_M_plan Kx Q (f + 5) t_M_plan_27 [some (.ref (x1)), some (.int (x2)), some (.int (x3))] [] M = (isO (M) (x1) 5 ∧ isA (M) (mR (M) (x1) 9) (x2) ∧ run Z nF C_M_plan S_M_plan Kx Q f t_M_plan_38 [some (.ref (x1)), some (.int (x2)), some (.int (x3))] [.int (mI (M) (mR (M) (x1) 9) (Int32.toNatClampNeg (x2)))] (M)) := rfl
theorem g_M_plan_36 {Z : Zt} {nF f : Nat} {Kx : Nat → Kt} {Q : Option Value → Mem → Prop} {M : Mem} {x1 : Nat} {x2 : Int32} {x3 : Int32} : run Z nF C_M_plan S_M_plan Kx Q (f + 1) t_M_plan_36 [some (.ref (x1)), some (.int (x2)), some (.int (x3))] [] M = (run Z nF C_M_plan S_M_plan Kx Q f t_M_plan_38 [some (.ref (x1)), some (.int (x2)), some (.int (x3))] [.int ((-1000003 : Int32))] (M)) := rfl
theorem g_M_plan_38 {Z : Zt} {nF f : Nat} {Kx : Nat → Kt} {Q : Option Value → Mem → Prop} {M : Mem} {x1 : Nat} {x2 : Int32} {x3 : Int32} {x4 : Int32} : run Z nF C_M_plan S_M_plan Kx Q (f + 1) t_M_plan_38 [some (.ref (x1)), some (.int (x2)), some (.int (x3))] [.int (x4)] M = (Q (some (.int (x4))) (M)) := rfl
set_option maxRecDepth 100000 in
set_option maxHeartbeats 4000000 in
theorem ok_M_plan (Z : Zt) (d : Nat) : okE Z (d + 7) i_M_plan e_M_plan := mk_M_plan fun o i M hp => by
  obtain ⟨rfl, hM, hDs⟩ := hp
  have hB := hM.1
  have h24 : paK (mI M 175) (mI M 180) ≤ 24 := by
    have h1 := paU_le (uD (mI M 175)) (mI M 175) (mI M 180) 0
    have h2 := hM.2.2.2.1.2
    unfold paK
    omega
  have hpl : ∀ {K : Option Value → Mem → Prop}, pcall e_M_plans [.ref 174] M K = K (some (.int (nI (paK (mI M 175) (mI M 180))))) (mW M (paG (mI M))) := pc_M_plans (o := 174) (M := M) ⟨rfl, hM, hDs⟩
  have hg : paG (mI M) 180 = paS (mI M 175) (mI M 180) := by
    unfold paG
    rw [rw_at]
  refine Gm_run (C := C_M_plan) (S := S_M_plan) [some (.ref 174), some (.int i), none] 1000 kt_M_plan (okE_cons (ok_M_plans Z d) okE_nil) (ex_n rfl) ?_
  by_cases h1 : i < -1
  · rw [show upnR (mI M 175) (mI M 180) i = _ from if_pos h1, show upnM (mI M) i = _ from if_pos h1]
    have h1' : ¬ -1 ≤ i := Int32.not_le.mpr h1
    simp (maxSteps := 3000000) (disch := first | exact True.intro | assumption | omega) only [↓eq_self, Option.toList_some, Option.toList_none, List.nil_append, List.cons_append, wsum_0, wsum_1, wsum_2, wsum_3, wsum_4, lkill, ↓reduceIte, if_true, if_false, Bool.false_eq_true, and_true, true_and, and_self, or_self, true_or, or_true, not_true, not_false_iff, mR_stI, mN_stI, isO_stI, isA_stI, mI_stI, mR_mW, mN_mW, isO_mW, isA_mW, mI_mW, mW_mW, stI_mW, vp_0, nI_addL, nI_mulL, nI_subL, nI_ltL, nI_leL, nI_Llt, nI_Lle, nI_eqL, nI_Leq, nI_add, pk_mul, nI_ltI, nI_leI, nI_eq, vpi, nI_clamp, nI_toN, ↓g_M_plan_0, ↓g_M_plan_5, h1']
    exact ⟨rfl, rfl⟩
  · have h1' : -1 ≤ i := Int32.not_lt.mp h1
    rw [show upnM (mI M) i = _ from if_neg h1]
    by_cases h2 : i = -1
    · rw [show upnR (mI M 175) (mI M 180) i = _ from (if_neg h1).trans (if_pos h2)]
      simp (maxSteps := 3000000) (disch := first | exact True.intro | assumption | omega) only [↓eq_self, Option.toList_some, Option.toList_none, List.nil_append, List.cons_append, wsum_0, wsum_1, wsum_2, wsum_3, wsum_4, lkill, ↓reduceIte, if_true, if_false, Bool.false_eq_true, and_true, true_and, and_self, or_self, true_or, or_true, not_true, not_false_iff, mR_stI, mN_stI, isO_stI, isA_stI, mI_stI, mR_mW, mN_mW, isO_mW, isA_mW, mI_mW, mW_mW, stI_mW, vp_0, nI_addL, nI_mulL, nI_subL, nI_ltL, nI_leL, nI_Llt, nI_Lle, nI_eqL, nI_Leq, nI_add, pk_mul, nI_ltI, nI_leI, nI_eq, vpi, nI_clamp, nI_toN, ↓g_M_plan_0, ↓g_M_plan_5, ↓g_M_plan_8, ↓g_M_plan_12, h1', bk_oM hB, hpl]
      rw [if_pos h2]
      simp (maxSteps := 3000000) (disch := first | exact True.intro | assumption | omega) only [↓eq_self, Option.toList_some, Option.toList_none, List.nil_append, List.cons_append, wsum_0, wsum_1, wsum_2, wsum_3, wsum_4, lkill, ↓reduceIte, if_true, if_false, Bool.false_eq_true, and_true, true_and, and_self, or_self, true_or, or_true, not_true, not_false_iff, mR_stI, mN_stI, isO_stI, isA_stI, mI_stI, mR_mW, mN_mW, isO_mW, isA_mW, mI_mW, mW_mW, stI_mW, vp_0, nI_addL, nI_mulL, nI_subL, nI_ltL, nI_leL, nI_Llt, nI_Lle, nI_eqL, nI_Leq, nI_add, pk_mul, nI_ltI, nI_leI, nI_eq, vpi, nI_clamp, nI_toN, ↓g_M_plan_18, ↓g_M_plan_22, ↓g_M_plan_27, ↓g_M_plan_36, ↓g_M_plan_38]
      exact ⟨rfl, rfl⟩
    · rw [show upnR (mI M 175) (mI M 180) i = _ from (if_neg h1).trans (if_neg h2)]
      obtain ⟨k, rfl, hk0, hk2⟩ := I_nI (ge0_of h1 h2)
      rw [hk2]
      simp (maxSteps := 3000000) (disch := first | exact True.intro | assumption | omega) only [↓eq_self, Option.toList_some, Option.toList_none, List.nil_append, List.cons_append, wsum_0, wsum_1, wsum_2, wsum_3, wsum_4, lkill, ↓reduceIte, if_true, if_false, Bool.false_eq_true, and_true, true_and, and_self, or_self, true_or, or_true, not_true, not_false_iff, mR_stI, mN_stI, isO_stI, isA_stI, mI_stI, mR_mW, mN_mW, isO_mW, isA_mW, mI_mW, mW_mW, stI_mW, vp_0, nI_addL, nI_mulL, nI_subL, nI_ltL, nI_leL, nI_Llt, nI_Lle, nI_eqL, nI_Leq, nI_add, pk_mul, nI_ltI, nI_leI, nI_eq, vpi, nI_clamp, nI_toN, ↓g_M_plan_0, ↓g_M_plan_5, ↓g_M_plan_8, ↓g_M_plan_12, h1', bk_oM hB, hpl]
      rw [if_neg h2]
      by_cases h3 : k < paK (mI M 175) (mI M 180)
      · rw [if_pos h3]
        have h4 : ¬ paK (mI M 175) (mI M 180) ≤ k := by omega
        have h5 : k < 40 := by omega
        simp (maxSteps := 3000000) (disch := first | exact True.intro | assumption | omega) only [↓eq_self, Option.toList_some, Option.toList_none, List.nil_append, List.cons_append, wsum_0, wsum_1, wsum_2, wsum_3, wsum_4, lkill, ↓reduceIte, if_true, if_false, Bool.false_eq_true, and_true, true_and, and_self, or_self, true_or, or_true, not_true, not_false_iff, mR_stI, mN_stI, isO_stI, isA_stI, mI_stI, mR_mW, mN_mW, isO_mW, isA_mW, mI_mW, mW_mW, stI_mW, vp_0, nI_add, nI_ltI, nI_leI, nI_eq, vpi, nI_clamp, nI_toN, nI_geT, nI_lt4, pk_mul, pk_sub, bv_0n, bv_1n, ↓bv_01n, n01a, n01b, Nat.reduceSub, u2_rw, rw_rw, rw_at, rw_ne, rw_175_174, rw_176_174, rw_176_175, rw_177_174, rw_177_175, rw_177_176, rw_178_174, rw_178_175, rw_178_176, rw_178_177, rw_179_174, rw_179_175, rw_179_176, rw_179_177, rw_179_178, rw_180_174, rw_180_175, rw_180_176, rw_180_177, rw_180_178, rw_180_179, up_at, up_ne, Nat.zero_add, Nat.add_zero, bk_oM hB, bk_m0 hB, bk_m1 hB, bk_m2 hB, bk_m4 hB, bk_m6 hB, bk_m9 hB, md_a hB, md_p hB, md_s hB, md_t hB, md_r hB, md_v hB, ite_nt, ↓g_M_plan_22, ↓g_M_plan_27, ↓g_M_plan_36, ↓g_M_plan_38, h4, h5, hg]
        exact ⟨rfl, rfl⟩
      · rw [if_neg h3]
        have h4 : paK (mI M 175) (mI M 180) ≤ k := by omega
        simp (maxSteps := 3000000) (disch := first | exact True.intro | assumption | omega) only [↓eq_self, Option.toList_some, Option.toList_none, List.nil_append, List.cons_append, wsum_0, wsum_1, wsum_2, wsum_3, wsum_4, lkill, ↓reduceIte, if_true, if_false, Bool.false_eq_true, and_true, true_and, and_self, or_self, true_or, or_true, not_true, not_false_iff, mR_stI, mN_stI, isO_stI, isA_stI, mI_stI, mR_mW, mN_mW, isO_mW, isA_mW, mI_mW, mW_mW, stI_mW, vp_0, nI_add, nI_ltI, nI_leI, nI_eq, vpi, nI_clamp, nI_toN, nI_geT, nI_lt4, pk_mul, pk_sub, bv_0n, bv_1n, ↓bv_01n, n01a, n01b, Nat.reduceSub, u2_rw, rw_rw, rw_at, rw_ne, rw_175_174, rw_176_174, rw_176_175, rw_177_174, rw_177_175, rw_177_176, rw_178_174, rw_178_175, rw_178_176, rw_178_177, rw_179_174, rw_179_175, rw_179_176, rw_179_177, rw_179_178, rw_180_174, rw_180_175, rw_180_176, rw_180_177, rw_180_178, rw_180_179, up_at, up_ne, Nat.zero_add, Nat.add_zero, bk_oM hB, bk_m0 hB, bk_m1 hB, bk_m2 hB, bk_m4 hB, bk_m6 hB, bk_m9 hB, md_a hB, md_p hB, md_s hB, md_t hB, md_r hB, md_v hB, ite_nt, ↓g_M_plan_22, ↓g_M_plan_27, ↓g_M_plan_36, ↓g_M_plan_38, h4]
        exact ⟨rfl, rfl⟩
