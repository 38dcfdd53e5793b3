/-! the model's digest -/
theorem mI_stL (M : Mem) (a : Nat) (v : Int64) : mI (stL M a v) = mI M := rfl
theorem mR_stL (M : Mem) (a : Nat) (v : Int64) : mR (stL M a v) = mR M := rfl
theorem mN_stL (M : Mem) (a : Nat) (v : Int64) : mN (stL M a v) = mN M := rfl
theorem isO_stL (M : Mem) (a : Nat) (v : Int64) : isO (stL M a v) = isO M := rfl
theorem isA_stL (M : Mem) (a : Nat) (v : Int64) : isA (stL M a v) = isA M := rfl
theorem mL_stL (M : Mem) (a : Nat) (v : Int64) : mL (stL M a v) a = v := if_pos rfl
theorem mW_stL (M : Mem) (a : Nat) (v : Int64) (g : Nat → Nat → Int32) : mW (stL M a v) g = stL (mW M g) a v := rfl
theorem stL_stL (M : Mem) (a : Nat) (v w : Int64) : stL (stL M a v) a w = stL M a w := by
  have e : u1 (u1 M.2.2.2 a v) a w = u1 M.2.2.2 a w := by
    funext x
    unfold u1
    by_cases h : x = a
    · rw [if_pos h, if_pos h]
    · rw [if_neg h, if_neg h, if_neg h]
  unfold stL
  rw [e]
theorem stL_self (M : Mem) (a : Nat) : stL M a (mL M a) = M := by
  have e : u1 M.2.2.2 a (M.2.2.2 a) = M.2.2.2 := by
    funext x
    unfold u1
    by_cases h : x = a
    · rw [if_pos h, h]
    · rw [if_neg h]
  unfold stL mL
  rw [e]
def e_M_mixes : Ent := (fun av M => ∃ (o : Nat) (v : Int32), av = [.ref o, .int v] ∧ (o = 174 ∧ BkS M), fun av M r_ M_ => ∀ (o : Nat) (v : Int32), av = [.ref o, .int v] → r_ = (none) ∧ M_ = (stL M 174 (31 * mL M 174 + v.toInt64)))
theorem pc_M_mixes {o : Nat} {v : Int32} {M : Mem} {K : Option Value → Mem → Prop} (hp : o = 174 ∧ BkS M) : pcall e_M_mixes [.ref o, .int v] M K = K (none) (stL M 174 (31 * mL M 174 + v.toInt64)) := propext ⟨fun h => h.2 _ _ (fun o' v' e => by simp only [List.cons.injEq, Value.ref.injEq, Value.int.injEq, Value.long.injEq, and_true] at e; obtain ⟨q0, q1⟩ := e; obtain rfl := q0; obtain rfl := q1; exact ⟨rfl, rfl⟩), fun h => ⟨⟨o, v, rfl, hp⟩, fun r_ M_ q => by obtain ⟨rfl, rfl⟩ := q _ _ rfl; exact h⟩⟩
theorem mk_M_mixes {Z : Zt} {d : Nat} (h : ∀ (o : Nat) (v : Int32) (M : Mem), (o = 174 ∧ BkS M) → Gm Z d s_M_mixes [.ref o, .int v] M (ex (none) (stL M 174 (31 * mL M 174 + v.toInt64)))) : okE Z d i_M_mixes e_M_mixes := by
  rintro av M ⟨o, v, rfl, hp⟩
  exact Gm.cons (h o v M  hp) (fun r_ M_ q o' v' e => by simp only [List.cons.injEq, Value.ref.injEq, Value.int.injEq, Value.long.injEq, and_true] at e; obtain ⟨q0, q1⟩ := e; obtain rfl := q0; obtain rfl := q1; exact q)
def C_M_mixes : List (Nat × Ent) := []
abbrev S_M_mixes : List Nat := []
def t_M_mixes_0 : List PI := (0, 1, 1, 0, 0, 0, []) :: (1, 0, 1, 181, 0, 0, []) :: (4, 1, 1, 0, 0, 0, []) :: (5, 8, 3, 5, 10, 0, [183]) :: (8, 3, 2, 0, 0, 0, []) :: (9, 1, 0, 1, 0, 0, []) :: (10, 3, 0, 0, 0, 0, []) :: (11, 3, 1, 0, 0, 0, []) :: (12, 10, 3, 5, 10, 0, [183]) :: (15, 9, 5, 0, 0, 0, []) :: []
theorem kt_M_mixes : okP s_M_mixes t_M_mixes_0 := k_M_mixes
theorem g_M_mixes_0 {Z : Zt} {nF f : Nat} {Kx : Nat → Kt} {Q : Option Value → Mem → Prop} {M : Mem} {x1 : Nat} {x2 : Int32} : run Z nF C_M_mixes S_M_mixes Kx Q (f + 10) t_M_mixes_0 [some (.ref (x1)), some (.int (x2))] [] M = (isO (M) (x1) 5 ∧ isO (M) (x1) 5 ∧ Q none (stL (M) (x1) (((31) * (mL (M) (x1))) + (Int32.toInt64 (x2))))) := rfl
set_option maxRecDepth 100000 in
set_option maxHeartbeats 4000000 in
theorem ok_M_mixes (Z : Zt) (d : Nat) : okE Z (d + 1) i_M_mixes e_M_mixes := mk_M_mixes fun o v M hp => by
  obtain ⟨rfl, hB⟩ := hp
  refine Gm_run (C := C_M_mixes) (S := S_M_mixes) [some (.ref 174), some (.int v)] 1000 kt_M_mixes okE_nil (ex_n rfl) ?_
  simp (maxSteps := 3000000) (disch := first | exact True.intro | assumption | omega) only [↓eq_self, Option.toList_some, Option.toList_none, List.nil_append, List.cons_append, wsum_0, wsum_1, wsum_2, wsum_3, wsum_4, lkill, ↓reduceIte, if_true, if_false, Bool.false_eq_true, and_true, true_and, and_self, or_self, true_or, or_true, not_true, not_false_iff, mR_stI, mN_stI, isO_stI, isA_stI, mI_stI, mR_mW, mN_mW, isO_mW, isA_mW, mI_mW, mW_mW, stI_mW, vp_0, nI_addL, nI_mulL, nI_subL, nI_ltL, nI_leL, nI_Llt, nI_Lle, nI_eqL, nI_Leq, nI_add, pk_mul, nI_ltI, nI_leI, nI_eq, vpi, nI_clamp, nI_toN, ↓g_M_mixes_0, bk_oM hB]
  exact ⟨rfl, rfl⟩
theorem mix_g {M : Mem} {g : Nat → Nat → Int32} {h : Int64} {v : Int32} {K : Option Value → Mem → Prop} (hB : BkS M) : pcall e_M_mixes [.ref 174, .int v] (stL (mW M g) 174 h) K = K none (stL (mW M g) 174 (31 * h + v.toInt64)) := by
  rw [pc_M_mixes (o := 174) (v := v) (M := stL (mW M g) 174 h) ⟨rfl, hB⟩, mL_stL, stL_stL]
def utnG (u : Nat → Int32) (t : Nat) : Nat → Int32 := fun w => utnR u (nI t) (nI w)
def uacG (u : Nat → Int32) (t r : Nat) : Nat → Int32 := fun w => uacR u (nI t) (nI r) (nI w)
def umA (u : Nat → Int32) (t : Nat) : Nat → Int64 → Int64
  | 0, h => h
  | r + 1, h => 31 * mixN (uacG u t r) 4 (umA u t r h) + (uwP u t r 4).toInt64
noncomputable def umT (u : Nat → Int32) (t : Nat) (h : Int64) : Int64 := 31 * umA u t 4 (mixN (utnG u t) 8 h) + (uruR u (nI t)).toInt64
def DgOk (u : Nat → Int32) : Prop := TkOk u ∧ DsAll u ∧ PrOk u
def e_M_mixesTenant : Ent := (fun av M => ∃ (o : Nat) (t : Nat), av = [.ref o, .int (nI t)] ∧ t < 2 ^ 31 ∧ (o = 174 ∧ BkS M ∧ DgOk (mI M 175) ∧ t < uT (mI M 175)), fun av M r_ M_ => ∀ (o : Nat) (t : Nat), t < 2 ^ 31 → av = [.ref o, .int (nI t)] → r_ = (none) ∧ M_ = (stL (mW M (uruM (mI M) (nI t))) 174 (umT (mI M 175) t (mL M 174))))
theorem pc_M_mixesTenant {o : Nat} {t : Nat} {M : Mem} {K : Option Value → Mem → Prop} (hp : o = 174 ∧ BkS M ∧ DgOk (mI M 175) ∧ t < uT (mI M 175)) (h_t : t < 2 ^ 31) : pcall e_M_mixesTenant [.ref o, .int (nI t)] M K = K (none) (stL (mW M (uruM (mI M) (nI t))) 174 (umT (mI M 175) t (mL M 174))) := propext ⟨fun h => h.2 _ _ (fun o' t' h_t' e => by simp only [List.cons.injEq, Value.ref.injEq, Value.int.injEq, Value.long.injEq, and_true] at e; obtain ⟨q0, q1⟩ := e; obtain rfl := q0; obtain rfl := (nI_eq h_t h_t').mp q1; exact ⟨rfl, rfl⟩), fun h => ⟨⟨o, t, rfl, h_t, hp⟩, fun r_ M_ q => by obtain ⟨rfl, rfl⟩ := q _ _ h_t rfl; exact h⟩⟩
theorem mk_M_mixesTenant {Z : Zt} {d : Nat} (h : ∀ (o : Nat) (t : Nat) (M : Mem), t < 2 ^ 31 → (o = 174 ∧ BkS M ∧ DgOk (mI M 175) ∧ t < uT (mI M 175)) → Gm Z d s_M_mixesTenant [.ref o, .int (nI t)] M (ex (none) (stL (mW M (uruM (mI M) (nI t))) 174 (umT (mI M 175) t (mL M 174))))) : okE Z d i_M_mixesTenant e_M_mixesTenant := by
  rintro av M ⟨o, t, rfl, h_t, hp⟩
  exact Gm.cons (h o t M h_t hp) (fun r_ M_ q o' t' h_t' e => by simp only [List.cons.injEq, Value.ref.injEq, Value.int.injEq, Value.long.injEq, and_true] at e; obtain ⟨q0, q1⟩ := e; obtain rfl := q0; obtain rfl := (nI_eq h_t h_t').mp q1; exact q)
def C_M_mixesTenant : List (Nat × Ent) := [(i_M_tenant, e_M_tenant), (i_M_mixes, e_M_mixes), (i_M_account, e_M_account), (i_M_worthOf, e_M_worthOf), (i_M_ruin, e_M_ruin)]
abbrev S_M_mixesTenant : List Nat := [2, 26, 33]
def t_M_mixesTenant_80 : List PI := (80, 9, 5, 0, 0, 0, []) :: []
def t_M_mixesTenant_77 : List PI := (77, 11, 0, 5, 169, 0, [190, 2]) :: t_M_mixesTenant_80
def t_M_mixesTenant_71 : List PI := (71, 1, 1, 0, 0, 0, []) :: (72, 1, 1, 0, 0, 0, []) :: (73, 1, 0, 1, 0, 0, []) :: (74, 11, 0, 5, 167, 0, [197, 2]) :: t_M_mixesTenant_77
def t_M_mixesTenant_65 : List PI := (65, 1, 6, 2, 0, 1, []) :: (68, 6, 0, 26, 0, 0, []) :: t_M_mixesTenant_71
def t_M_mixesTenant_62 : List PI := (62, 11, 0, 5, 169, 0, [190, 2]) :: t_M_mixesTenant_65
def t_M_mixesTenant_55 : List PI := (55, 1, 1, 0, 0, 0, []) :: (56, 1, 1, 0, 0, 0, []) :: (57, 1, 0, 1, 0, 0, []) :: (58, 1, 0, 2, 0, 0, []) :: (59, 11, 0, 5, 163, 0, [172, 3]) :: t_M_mixesTenant_62
def t_M_mixesTenant_49 : List PI := (49, 1, 6, 3, 0, 1, []) :: (52, 6, 0, 33, 0, 0, []) :: t_M_mixesTenant_55
def t_M_mixesTenant_46 : List PI := (46, 11, 0, 5, 169, 0, [190, 2]) :: t_M_mixesTenant_49
def t_M_mixesTenant_38 : List PI := (38, 1, 1, 0, 0, 0, []) :: (39, 1, 1, 0, 0, 0, []) :: (40, 1, 0, 1, 0, 0, []) :: (41, 1, 0, 2, 0, 0, []) :: (42, 1, 0, 3, 0, 0, []) :: (43, 11, 0, 5, 158, 0, [193, 4]) :: t_M_mixesTenant_46
def t_M_mixesTenant_33 : List PI := (33, 1, 0, 3, 0, 0, []) :: (34, 0, 0, 0, 0, 4, []) :: (35, 4, 3, 55, 0, 0, []) :: t_M_mixesTenant_38
def t_M_mixesTenant_31 : List PI := (31, 0, 0, 0, 0, 0, []) :: (32, 1, 3, 3, 0, 0, []) :: t_M_mixesTenant_33
def t_M_mixesTenant_26 : List PI := (26, 1, 0, 2, 0, 0, []) :: (27, 0, 0, 0, 0, 4, []) :: (28, 4, 3, 71, 0, 0, []) :: t_M_mixesTenant_31
def t_M_mixesTenant_24 : List PI := (24, 0, 0, 0, 0, 0, []) :: (25, 1, 3, 2, 0, 0, []) :: t_M_mixesTenant_26
def t_M_mixesTenant_18 : List PI := (18, 1, 6, 2, 0, 1, []) :: (21, 6, 0, 2, 0, 0, []) :: t_M_mixesTenant_24
def t_M_mixesTenant_15 : List PI := (15, 11, 0, 5, 169, 0, [190, 2]) :: t_M_mixesTenant_18
def t_M_mixesTenant_8 : List PI := (8, 1, 1, 0, 0, 0, []) :: (9, 1, 1, 0, 0, 0, []) :: (10, 1, 0, 1, 0, 0, []) :: (11, 1, 0, 2, 0, 0, []) :: (12, 11, 0, 5, 157, 0, [187, 3]) :: t_M_mixesTenant_15
def t_M_mixesTenant_2 : List PI := (2, 1, 0, 2, 0, 0, []) :: (3, 0, 0, 0, 1, 8, []) :: (5, 4, 3, 24, 0, 0, []) :: t_M_mixesTenant_8
def t_M_mixesTenant_0 : List PI := (0, 0, 0, 0, 0, 0, []) :: (1, 1, 3, 2, 0, 0, []) :: t_M_mixesTenant_2
theorem kt_M_mixesTenant : okP s_M_mixesTenant t_M_mixesTenant_0 := k_M_mixesTenant
theorem g_M_mixesTenant_0 {Z : Zt} {nF f : Nat} {Kx : Nat → Kt} {Q : Option Value → Mem → Prop} {M : Mem} {x1 : Nat} {x2 : Int32} : run Z nF C_M_mixesTenant S_M_mixesTenant Kx Q (f + 2) t_M_mixesTenant_0 [some (.ref (x1)), some (.int (x2)), none, none] [] M = (Kx 2 [some (.ref (x1)), some (.int (x2)), some (.int ((nI 0))), none] [] (M)) := rfl
theorem g_M_mixesTenant_2 {Z : Zt} {nF f : Nat} {Kx : Nat → Kt} {Q : Option Value → Mem → Prop} {M : Mem} {x1 : Nat} {x2 : Int32} {x3 : Int32} : run Z nF C_M_mixesTenant S_M_mixesTenant Kx Q (f + 3) t_M_mixesTenant_2 [some (.ref (x1)), some (.int (x2)), some (.int (x3)), none] [] M = ((if ((nI 8)) ≤ (x3) then run Z nF C_M_mixesTenant S_M_mixesTenant Kx Q f t_M_mixesTenant_24 [some (.ref (x1)), some (.int (x2)), some (.int (x3)), none] [] (M) else run Z nF C_M_mixesTenant S_M_mixesTenant Kx Q f t_M_mixesTenant_8 [some (.ref (x1)), some (.int (x2)), some (.int (x3)), none] [] (M))) := rfl
theorem g_M_mixesTenant_8 {Z : Zt} {nF f : Nat} {Kx : Nat → Kt} {Q : Option Value → Mem → Prop} {M : Mem} {x1 : Nat} {x2 : Int32} {x3 : Int32} : run Z nF C_M_mixesTenant S_M_mixesTenant Kx Q (f + 5) t_M_mixesTenant_8 [some (.ref (x1)), some (.int (x2)), some (.int (x3)), none] [] M = (((isO (M) (x1) 5) ∧ wsum [.ref (x1)] ≤ 8) ∧ pcall e_M_tenant [.ref (x1), .int (x2), .int (x3)] (M) (fun v M_ => run Z nF C_M_mixesTenant S_M_mixesTenant Kx Q f t_M_mixesTenant_15 [some (.ref (x1)), some (.int (x2)), some (.int (x3)), none] (v.toList ++ [.ref (x1)]) M_)) := rfl
theorem g_M_mixesTenant_15 {Z : Zt} {nF f : Nat} {Kx : Nat → Kt} {Q : Option Value → Mem → Prop} {M : Mem} {x1 : Nat} {x2 : Int32} {x3 : Int32} {x4 : Int32} {x5 : Nat} : run Z nF C_M_mixesTenant S_M_mixesTenant Kx Q (f + 1) t_M_mixesTenant_15 [some (.ref (x1)), some (.int (x2)), some (.int (x3)), none] [.int (x4), .ref (x5)] M = (((isO (M) (x5) 5) ∧ wsum [] ≤ 8) ∧ pcall e_M_mixes [.ref (x5), .int (x4)] (M) (fun v M_ => run Z nF C_M_mixesTenant S_M_mixesTenant Kx Q f t_M_mixesTenant_18 [some (.ref (x1)), some (.int (x2)), some (.int (x3)), none] (v.toList ++ []) M_)) := rfl
theorem g_M_mixesTenant_18 {Z : Zt} {nF f : Nat} {Kx : Nat → Kt} {Q : Option Value → Mem → Prop} {M : Mem} {x1 : Nat} {x2 : Int32} {x3 : Int32} : run Z nF C_M_mixesTenant S_M_mixesTenant Kx Q (f + 2) t_M_mixesTenant_18 [some (.ref (x1)), some (.int (x2)), some (.int (x3)), none] [] M = (Kx 2 [some (.ref (x1)), some (.int (x2)), some (.int (x3 + (nI 1))), none] [] (M)) := rfl
theorem g_M_mixesTenant_24 {Z : Zt} {nF f : Nat} {Kx : Nat → Kt} {Q : Option Value → Mem → Prop} {M : Mem} {x1 : Nat} {x2 : Int32} {x3 : Int32} : run Z nF C_M_mixesTenant S_M_mixesTenant Kx Q (f + 2) t_M_mixesTenant_24 [some (.ref (x1)), some (.int (x2)), some (.int (x3)), none] [] M = (Kx 26 [some (.ref (x1)), some (.int (x2)), some (.int ((nI 0))), none] [] (M)) := rfl
theorem g_M_mixesTenant_26 {Z : Zt} {nF f : Nat} {Kx : Nat → Kt} {Q : Option Value → Mem → Prop} {M : Mem} {x1 : Nat} {x2 : Int32} {x3 : Int32} {x4 : Option Value} : run Z nF C_M_mixesTenant S_M_mixesTenant Kx Q (f + 3) t_M_mixesTenant_26 [some (.ref (x1)), some (.int (x2)), some (.int (x3)), x4] [] M = ((if ((nI 4)) ≤ (x3) then run Z nF C_M_mixesTenant S_M_mixesTenant Kx Q f t_M_mixesTenant_71 [some (.ref (x1)), some (.int (x2)), some (.int (x3)), x4] [] (M) else run Z nF C_M_mixesTenant S_M_mixesTenant Kx Q f t_M_mixesTenant_31 [some (.ref (x1)), some (.int (x2)), some (.int (x3)), x4] [] (M))) := rfl
theorem g_M_mixesTenant_31 {Z : Zt} {nF f : Nat} {Kx : Nat → Kt} {Q : Option Value → Mem → Prop} {M : Mem} {x1 : Nat} {x2 : Int32} {x3 : Int32} {x4 : Option Value} : run Z nF C_M_mixesTenant S_M_mixesTenant Kx Q (f + 2) t_M_mixesTenant_31 [some (.ref (x1)), some (.int (x2)), some (.int (x3)), x4] [] M = (Kx 33 [some (.ref (x1)), some (.int (x2)), some (.int (x3)), some (.int ((nI 0)))] [] (M)) := rfl
theorem g_M_mixesTenant_33 {Z : Zt} {nF f : Nat} {Kx : Nat → Kt} {Q : Option Value → Mem → Prop} {M : Mem} {x1 : Nat} {x2 : Int32} {x3 : Int32} {x4 : Int32} : run Z nF C_M_mixesTenant S_M_mixesTenant Kx Q (f + 3) t_M_mixesTenant_33 [some (.ref (x1)), some (.int (x2)), some (.int (x3)), some (.int (x4))] [] M = ((if ((nI 4)) ≤ (x4) then run Z nF C_M_mixesTenant S_M_mixesTenant Kx Q f t_M_mixesTenant_55 [some (.ref (x1)), some (.int (x2)), some (.int (x3)), some (.int (x4))] [] (M) else run Z nF C_M_mixesTenant S_M_mixesTenant Kx Q f t_M_mixesTenant_38 [some (.ref (x1)), some (.int (x2)), some (.int (x3)), some (.int (x4))] [] (M))) := rfl
theorem g_M_mixesTenant_38 {Z : Zt} {nF f : Nat} {Kx : Nat → Kt} {Q : Option Value → Mem → Prop} {M : Mem} {x1 : Nat} {x2 : Int32} {x3 : Int32} {x4 : Int32} : run Z nF C_M_mixesTenant S_M_mixesTenant Kx Q (f + 6) t_M_mixesTenant_38 [some (.ref (x1)), some (.int (x2)), some (.int (x3)), some (.int (x4))] [] M = (((isO (M) (x1) 5) ∧ wsum [.ref (x1)] ≤ 8) ∧ pcall e_M_account [.ref (x1), .int (x2), .int (x3), .int (x4)] (M) (fun v M_ => run Z nF C_M_mixesTenant S_M_mixesTenant Kx Q f t_M_mixesTenant_46 [some (.ref (x1)), some (.int (x2)), some (.int (x3)), some (.int (x4))] (v.toList ++ [.ref (x1)]) M_)) := rfl
theorem g_M_mixesTenant_46 {Z : Zt} {nF f : Nat} {Kx : Nat → Kt} {Q : Option Value → Mem → Prop} {M : Mem} {x1 : Nat} {x2 : Int32} {x3 : Int32} {x4 : Int32} {x5 : Int32} {x6 : Nat} : run Z nF C_M_mixesTenant S_M_mixesTenant Kx Q (f + 1) t_M_mixesTenant_46 [some (.ref (x1)), some (.int (x2)), some (.int (x3)), some (.int (x4))] [.int (x5), .ref (x6)] M = (((isO (M) (x6) 5) ∧ wsum [] ≤ 8) ∧ pcall e_M_mixes [.ref (x6), .int (x5)] (M) (fun v M_ => run Z nF C_M_mixesTenant S_M_mixesTenant Kx Q f t_M_mixesTenant_49 [some (.ref (x1)), some (.int (x2)), some (.int (x3)), some (.int (x4))] (v.toList ++ []) M_)) := rfl
theorem g_M_mixesTenant_49 {Z : Zt} {nF f : Nat} {Kx : Nat → Kt} {Q : Option Value → Mem → Prop} {M : Mem} {x1 : Nat} {x2 : Int32} {x3 : Int32} {x4 : Int32} : run Z nF C_M_mixesTenant S_M_mixesTenant Kx Q (f + 2) t_M_mixesTenant_49 [some (.ref (x1)), some (.int (x2)), some (.int (x3)), some (.int (x4))] [] M = (Kx 33 [some (.ref (x1)), some (.int (x2)), some (.int (x3)), some (.int (x4 + (nI 1)))] [] (M)) := rfl
theorem g_M_mixesTenant_55 {Z : Zt} {nF f : Nat} {Kx : Nat → Kt} {Q : Option Value → Mem → Prop} {M : Mem} {x1 : Nat} {x2 : Int32} {x3 : Int32} {x4 : Int32} : run Z nF C_M_mixesTenant S_M_mixesTenant Kx Q (f + 5) t_M_mixesTenant_55 [some (.ref (x1)), some (.int (x2)), some (.int (x3)), some (.int (x4))] [] M = (((isO (M) (x1) 5) ∧ wsum [.ref (x1)] ≤ 8) ∧ pcall e_M_worthOf [.ref (x1), .int (x2), .int (x3)] (M) (fun v M_ => run Z nF C_M_mixesTenant S_M_mixesTenant Kx Q f t_M_mixesTenant_62 [some (.ref (x1)), some (.int (x2)), some (.int (x3)), some (.int (x4))] (v.toList ++ [.ref (x1)]) M_)) := rfl
theorem g_M_mixesTenant_62 {Z : Zt} {nF f : Nat} {Kx : Nat → Kt} {Q : Option Value → Mem → Prop} {M : Mem} {x1 : Nat} {x2 : Int32} {x3 : Int32} {x4 : Int32} {x5 : Int32} {x6 : Nat} : run Z nF C_M_mixesTenant S_M_mixesTenant Kx Q (f + 1) t_M_mixesTenant_62 [some (.ref (x1)), some (.int (x2)), some (.int (x3)), some (.int (x4))] [.int (x5), .ref (x6)] M = (((isO (M) (x6) 5) ∧ wsum [] ≤ 8) ∧ pcall e_M_mixes [.ref (x6), .int (x5)] (M) (fun v M_ => run Z nF C_M_mixesTenant S_M_mixesTenant Kx Q f t_M_mixesTenant_65 [some (.ref (x1)), some (.int (x2)), some (.int (x3)), some (.int (x4))] (v.toList ++ []) M_)) := rfl
theorem g_M_mixesTenant_65 {Z : Zt} {nF f : Nat} {Kx : Nat → Kt} {Q : Option Value → Mem → Prop} {M : Mem} {x1 : Nat} {x2 : Int32} {x3 : Int32} {x4 : Int32} : run Z nF C_M_mixesTenant S_M_mixesTenant Kx Q (f + 2) t_M_mixesTenant_65 [some (.ref (x1)), some (.int (x2)), some (.int (x3)), some (.int (x4))] [] M = (Kx 26 [some (.ref (x1)), some (.int (x2)), some (.int (x3 + (nI 1))), some (.int (x4))] [] (M)) := rfl
theorem g_M_mixesTenant_71 {Z : Zt} {nF f : Nat} {Kx : Nat → Kt} {Q : Option Value → Mem → Prop} {M : Mem} {x1 : Nat} {x2 : Int32} {x3 : Int32} {x4 : Option Value} : run Z nF C_M_mixesTenant S_M_mixesTenant Kx Q (f + 4) t_M_mixesTenant_71 [some (.ref (x1)), some (.int (x2)), some (.int (x3)), x4] [] M = (((isO (M) (x1) 5) ∧ wsum [.ref (x1)] ≤ 8) ∧ pcall e_M_ruin [.ref (x1), .int (x2)] (M) (fun v M_ => run Z nF C_M_mixesTenant S_M_mixesTenant Kx Q f t_M_mixesTenant_77 [some (.ref (x1)), some (.int (x2)), some (.int (x3)), x4] (v.toList ++ [.ref (x1)]) M_)) := rfl
theorem g_M_mixesTenant_77 {Z : Zt} {nF f : Nat} {Kx : Nat → Kt} {Q : Option Value → Mem → Prop} {M : Mem} {x1 : Nat} {x2 : Int32} {x3 : Int32} {x4 : Option Value} {x5 : Int32} {x6 : Nat} : run Z nF C_M_mixesTenant S_M_mixesTenant Kx Q (f + 1) t_M_mixesTenant_77 [some (.ref (x1)), some (.int (x2)), some (.int (x3)), x4] [.int (x5), .ref (x6)] M = (((isO (M) (x6) 5) ∧ wsum [] ≤ 8) ∧ pcall e_M_mixes [.ref (x6), .int (x5)] (M) (fun v M_ => run Z nF C_M_mixesTenant S_M_mixesTenant Kx Q f t_M_mixesTenant_80 [some (.ref (x1)), some (.int (x2)), some (.int (x3)), x4] (v.toList ++ []) M_)) := rfl
theorem g_M_mixesTenant_80 {Z : Zt} {nF f : Nat} {Kx : Nat → Kt} {Q : Option Value → Mem → Prop} {M : Mem} {x1 : Nat} {x2 : Int32} {x3 : Int32} {x4 : Option Value} : run Z nF C_M_mixesTenant S_M_mixesTenant Kx Q (f + 1) t_M_mixesTenant_80 [some (.ref (x1)), some (.int (x2)), some (.int (x3)), x4] [] M = (Q none (M)) := rfl
set_option maxRecDepth 100000 in
set_option maxHeartbeats 4000000 in
theorem lp_M_mT3 (Z : Zt) (d : Nat) {M : Mem} {g : Nat → Nat → Int32} {Q : Option Value → Mem → Prop} {t r : Nat} {h : Int64} (hB : BkS M) (hD : DgOk (g 175)) (ht : t < 6) (hr : r < 4) (hx : ∀ w, X Z (d + 7) s_M_mixesTenant (mN M) (mN M) Q 26 [some (.ref 174), some (.int (nI t)), some (.int (nI (r + 1))), w] [] (stL (mW M g) 174 (31 * mixN (uacG (g 175) t r) 4 h + (uwP (g 175) t r 4).toInt64))) : ∀ n j, j + n = 4 → X Z (d + 7) s_M_mixesTenant (mN M) (mN M) Q 33 [some (.ref 174), some (.int (nI t)), some (.int (nI r)), some (.int (nI j))] [] (stL (mW M g) 174 (mixN (uacG (g 175) t r) j h)) := by
  have hM : ∀ h, MO (stL (mW M g) 174 h) := fun h => ⟨hB, hD.1.1⟩
  intro n
  induction n with
  | zero =>
    intro j hj
    obtain rfl : j = 4 := by omega
    have hw : ∀ {h : Int64} {K : Option Value → Mem → Prop}, pcall e_M_worthOf [.ref 174, .int (nI t), .int (nI r)] (stL (mW M g) 174 h) K = K (some (.int (uwP (g 175) t r 4))) (stL (mW M g) 174 h) := fun {h K} => pc_M_worthOf (o := 174) (t := t) (r := r) (M := stL (mW M g) 174 h) ⟨rfl, hM h, ht, hr, hD.2.2⟩ (by omega) (by omega)
    refine X_runT (C := C_M_mixesTenant) (S := S_M_mixesTenant) (T := t_M_mixesTenant_33) 1000 kt_M_mixesTenant (okE_cons (ok_M_tenant Z (d + 2)) (okE_cons (ok_M_mixes Z (d + 5)) (okE_cons (ok_M_account Z (d + 2)) (okE_cons (ok_M_worthOf Z (d + 2)) (okE_cons (ok_M_ruin Z d) okE_nil))))) ?_
    simp (maxSteps := 3000000) (disch := first | exact True.intro | assumption | omega) only [↓eq_self, Option.toList_some, Option.toList_none, List.nil_append, List.cons_append, wsum_0, wsum_1, wsum_2, wsum_3, wsum_4, lkill, ↓reduceIte, if_true, if_false, Bool.false_eq_true, and_true, true_and, and_self, or_self, true_or, or_true, not_true, not_false_iff, mR_stI, mN_stI, isO_stI, isA_stI, mI_stI, mR_mW, mN_mW, isO_mW, isA_mW, mI_mW, mW_mW, stI_mW, vp_0, nI_addL, nI_mulL, nI_subL, nI_ltL, nI_leL, nI_Llt, nI_Lle, nI_eqL, nI_Leq, nI_add, pk_mul, nI_ltI, nI_leI, nI_eq, vpi, nI_clamp, nI_toN, ↓g_M_mixesTenant_33, ↓g_M_mixesTenant_38, ↓g_M_mixesTenant_46, ↓g_M_mixesTenant_49, ↓g_M_mixesTenant_55, ↓g_M_mixesTenant_62, ↓g_M_mixesTenant_65, isO_stL, bk_oM hB, nI_leI, nI_add, Nat.le_refl, hw, mix_g hB]
    exact hx _
  | succ n ih =>
    intro j hj
    have h1 : ¬ 4 ≤ j := by omega
    have hac : ∀ {h : Int64} {K : Option Value → Mem → Prop}, pcall e_M_account [.ref 174, .int (nI t), .int (nI r), .int (nI j)] (stL (mW M g) 174 h) K = K (some (.int (uacG (g 175) t r j))) (stL (mW M g) 174 h) := fun {h K} => pc_M_account (o := 174) (t := nI t) (r := nI r) (w := nI j) (M := stL (mW M g) 174 h) ⟨rfl, hM h⟩
    refine X_runT (C := C_M_mixesTenant) (S := S_M_mixesTenant) (T := t_M_mixesTenant_33) 1000 kt_M_mixesTenant (okE_cons (ok_M_tenant Z (d + 2)) (okE_cons (ok_M_mixes Z (d + 5)) (okE_cons (ok_M_account Z (d + 2)) (okE_cons (ok_M_worthOf Z (d + 2)) (okE_cons (ok_M_ruin Z d) okE_nil))))) ?_
    simp (maxSteps := 3000000) (disch := first | exact True.intro | assumption | omega) only [↓eq_self, Option.toList_some, Option.toList_none, List.nil_append, List.cons_append, wsum_0, wsum_1, wsum_2, wsum_3, wsum_4, lkill, ↓reduceIte, if_true, if_false, Bool.false_eq_true, and_true, true_and, and_self, or_self, true_or, or_true, not_true, not_false_iff, mR_stI, mN_stI, isO_stI, isA_stI, mI_stI, mR_mW, mN_mW, isO_mW, isA_mW, mI_mW, mW_mW, stI_mW, vp_0, nI_addL, nI_mulL, nI_subL, nI_ltL, nI_leL, nI_Llt, nI_Lle, nI_eqL, nI_Leq, nI_add, pk_mul, nI_ltI, nI_leI, nI_eq, vpi, nI_clamp, nI_toN, ↓g_M_mixesTenant_33, ↓g_M_mixesTenant_38, ↓g_M_mixesTenant_46, ↓g_M_mixesTenant_49, isO_stL, bk_oM hB, nI_leI, nI_add, h1, hac, mix_g hB, mixN_s]
    exact ih (j + 1) (by omega)
set_option maxRecDepth 100000 in
set_option maxHeartbeats 4000000 in
theorem lp_M_mT2 (Z : Zt) (d : Nat) {M : Mem} {g : Nat → Nat → Int32} {t : Nat} {h0 : Int64} (hB : BkS M) (hD : DgOk (g 175)) (ht : t < 6) : ∀ n r w, r + n = 4 → X Z (d + 7) s_M_mixesTenant (mN M) (mN M) (ex none (stL (mW M (uruM g (nI t))) 174 (31 * umA (g 175) t 4 h0 + (uruR (g 175) (nI t)).toInt64))) 26 [some (.ref 174), some (.int (nI t)), some (.int (nI r)), w] [] (stL (mW M g) 174 (umA (g 175) t r h0)) := by
  intro n
  induction n with
  | zero =>
    intro r w hr
    obtain rfl : r = 4 := by omega
    have hru : ∀ {h : Int64} {K : Option Value → Mem → Prop}, pcall e_M_ruin [.ref 174, .int (nI t)] (stL (mW M g) 174 h) K = K (some (.int (uruR (g 175) (nI t)))) (stL (mW M (uruM g (nI t))) 174 h) := fun {h K} => pc_M_ruin (o := 174) (t := nI t) (M := stL (mW M g) 174 h) ⟨rfl, hB, hD.1⟩
    refine X_runT (C := C_M_mixesTenant) (S := S_M_mixesTenant) (T := t_M_mixesTenant_26) 1000 kt_M_mixesTenant (okE_cons (ok_M_tenant Z (d + 2)) (okE_cons (ok_M_mixes Z (d + 5)) (okE_cons (ok_M_account Z (d + 2)) (okE_cons (ok_M_worthOf Z (d + 2)) (okE_cons (ok_M_ruin Z d) okE_nil))))) ?_
    simp (maxSteps := 3000000) (disch := first | exact True.intro | assumption | omega) only [↓eq_self, Option.toList_some, Option.toList_none, List.nil_append, List.cons_append, wsum_0, wsum_1, wsum_2, wsum_3, wsum_4, lkill, ↓reduceIte, if_true, if_false, Bool.false_eq_true, and_true, true_and, and_self, or_self, true_or, or_true, not_true, not_false_iff, mR_stI, mN_stI, isO_stI, isA_stI, mI_stI, mR_mW, mN_mW, isO_mW, isA_mW, mI_mW, mW_mW, stI_mW, vp_0, nI_addL, nI_mulL, nI_subL, nI_ltL, nI_leL, nI_Llt, nI_Lle, nI_eqL, nI_Leq, nI_add, pk_mul, nI_ltI, nI_leI, nI_eq, vpi, nI_clamp, nI_toN, ↓g_M_mixesTenant_26, ↓g_M_mixesTenant_31, ↓g_M_mixesTenant_71, ↓g_M_mixesTenant_77, ↓g_M_mixesTenant_80, isO_stL, bk_oM hB, nI_leI, Nat.le_refl, hru, mix_g hB]
    exact ⟨rfl, rfl⟩
  | succ n ih =>
    intro r w hr
    have h1 : ¬ 4 ≤ r := by omega
    refine X_runT (C := C_M_mixesTenant) (S := S_M_mixesTenant) (T := t_M_mixesTenant_26) 1000 kt_M_mixesTenant (okE_cons (ok_M_tenant Z (d + 2)) (okE_cons (ok_M_mixes Z (d + 5)) (okE_cons (ok_M_account Z (d + 2)) (okE_cons (ok_M_worthOf Z (d + 2)) (okE_cons (ok_M_ruin Z d) okE_nil))))) ?_
    simp (maxSteps := 3000000) (disch := first | exact True.intro | assumption | omega) only [↓eq_self, Option.toList_some, Option.toList_none, List.nil_append, List.cons_append, wsum_0, wsum_1, wsum_2, wsum_3, wsum_4, lkill, ↓reduceIte, if_true, if_false, Bool.false_eq_true, and_true, true_and, and_self, or_self, true_or, or_true, not_true, not_false_iff, mR_stI, mN_stI, isO_stI, isA_stI, mI_stI, mR_mW, mN_mW, isO_mW, isA_mW, mI_mW, mW_mW, stI_mW, vp_0, nI_addL, nI_mulL, nI_subL, nI_ltL, nI_leL, nI_Llt, nI_Lle, nI_eqL, nI_Leq, nI_add, pk_mul, nI_ltI, nI_leI, nI_eq, vpi, nI_clamp, nI_toN, ↓g_M_mixesTenant_26, ↓g_M_mixesTenant_31, nI_leI, h1]
    exact lp_M_mT3 Z d (h := umA (g 175) t r h0) hB hD ht (by omega) (fun w => ih (r + 1) w (by omega)) 4 0 rfl
set_option maxRecDepth 100000 in
set_option maxHeartbeats 4000000 in
theorem lp_M_mT1 (Z : Zt) (d : Nat) {M : Mem} {g : Nat → Nat → Int32} {t : Nat} {h0 : Int64} (hB : BkS M) (hD : DgOk (g 175)) (ht : t < 6) : ∀ n i, i + n = 8 → X Z (d + 7) s_M_mixesTenant (mN M) (mN M) (ex none (stL (mW M (uruM g (nI t))) 174 (31 * umA (g 175) t 4 (mixN (utnG (g 175) t) 8 h0) + (uruR (g 175) (nI t)).toInt64))) 2 [some (.ref 174), some (.int (nI t)), some (.int (nI i)), none] [] (stL (mW M g) 174 (mixN (utnG (g 175) t) i h0)) := by
  have hM : ∀ h, MO (stL (mW M g) 174 h) := fun h => ⟨hB, hD.1.1⟩
  intro n
  induction n with
  | zero =>
    intro i hi
    obtain rfl : i = 8 := by omega
    refine X_runT (C := C_M_mixesTenant) (S := S_M_mixesTenant) (T := t_M_mixesTenant_2) 1000 kt_M_mixesTenant (okE_cons (ok_M_tenant Z (d + 2)) (okE_cons (ok_M_mixes Z (d + 5)) (okE_cons (ok_M_account Z (d + 2)) (okE_cons (ok_M_worthOf Z (d + 2)) (okE_cons (ok_M_ruin Z d) okE_nil))))) ?_
    simp (maxSteps := 3000000) (disch := first | exact True.intro | assumption | omega) only [↓eq_self, Option.toList_some, Option.toList_none, List.nil_append, List.cons_append, wsum_0, wsum_1, wsum_2, wsum_3, wsum_4, lkill, ↓reduceIte, if_true, if_false, Bool.false_eq_true, and_true, true_and, and_self, or_self, true_or, or_true, not_true, not_false_iff, mR_stI, mN_stI, isO_stI, isA_stI, mI_stI, mR_mW, mN_mW, isO_mW, isA_mW, mI_mW, mW_mW, stI_mW, vp_0, nI_addL, nI_mulL, nI_subL, nI_ltL, nI_leL, nI_Llt, nI_Lle, nI_eqL, nI_Leq, nI_add, pk_mul, nI_ltI, nI_leI, nI_eq, vpi, nI_clamp, nI_toN, ↓g_M_mixesTenant_2, ↓g_M_mixesTenant_8, ↓g_M_mixesTenant_15, ↓g_M_mixesTenant_18, ↓g_M_mixesTenant_24, nI_leI, Nat.le_refl]
    exact lp_M_mT2 Z d hB hD ht 4 0 none rfl
  | succ n ih =>
    intro i hi
    have h1 : ¬ 8 ≤ i := by omega
    have htn : ∀ {h : Int64} {K : Option Value → Mem → Prop}, pcall e_M_tenant [.ref 174, .int (nI t), .int (nI i)] (stL (mW M g) 174 h) K = K (some (.int (utnG (g 175) t i))) (stL (mW M g) 174 h) := fun {h K} => pc_M_tenant (o := 174) (t := nI t) (w := nI i) (M := stL (mW M g) 174 h) ⟨rfl, hM h, hD.2.1⟩
    refine X_runT (C := C_M_mixesTenant) (S := S_M_mixesTenant) (T := t_M_mixesTenant_2) 1000 kt_M_mixesTenant (okE_cons (ok_M_tenant Z (d + 2)) (okE_cons (ok_M_mixes Z (d + 5)) (okE_cons (ok_M_account Z (d + 2)) (okE_cons (ok_M_worthOf Z (d + 2)) (okE_cons (ok_M_ruin Z d) okE_nil))))) ?_
    simp (maxSteps := 3000000) (disch := first | exact True.intro | assumption | omega) only [↓eq_self, Option.toList_some, Option.toList_none, List.nil_append, List.cons_append, wsum_0, wsum_1, wsum_2, wsum_3, wsum_4, lkill, ↓reduceIte, if_true, if_false, Bool.false_eq_true, and_true, true_and, and_self, or_self, true_or, or_true, not_true, not_false_iff, mR_stI, mN_stI, isO_stI, isA_stI, mI_stI, mR_mW, mN_mW, isO_mW, isA_mW, mI_mW, mW_mW, stI_mW, vp_0, nI_addL, nI_mulL, nI_subL, nI_ltL, nI_leL, nI_Llt, nI_Lle, nI_eqL, nI_Leq, nI_add, pk_mul, nI_ltI, nI_leI, nI_eq, vpi, nI_clamp, nI_toN, ↓g_M_mixesTenant_2, ↓g_M_mixesTenant_8, ↓g_M_mixesTenant_15, ↓g_M_mixesTenant_18, isO_stL, bk_oM hB, nI_leI, nI_add, h1, htn, mix_g hB, mixN_s]
    exact ih (i + 1) (by omega)
set_option maxRecDepth 100000 in
set_option maxHeartbeats 4000000 in
theorem ok_M_mixesTenant (Z : Zt) (d : Nat) : okE Z (d + 7) i_M_mixesTenant e_M_mixesTenant := mk_M_mixesTenant fun o t M h1 hp => by
  obtain ⟨rfl, hB, hD, ht⟩ := hp
  have h6 := hD.1.1.1.2
  refine Gm_run (C := C_M_mixesTenant) (S := S_M_mixesTenant) [some (.ref 174), some (.int (nI t)), none, none] 1000 kt_M_mixesTenant (okE_cons (ok_M_tenant Z (d + 2)) (okE_cons (ok_M_mixes Z (d + 5)) (okE_cons (ok_M_account Z (d + 2)) (okE_cons (ok_M_worthOf Z (d + 2)) (okE_cons (ok_M_ruin Z d) okE_nil))))) (ex_n rfl) ?_
  simp (maxSteps := 3000000) (disch := first | exact True.intro | assumption | omega) only [↓eq_self, Option.toList_some, Option.toList_none, List.nil_append, List.cons_append, wsum_0, wsum_1, wsum_2, wsum_3, wsum_4, lkill, ↓reduceIte, if_true, if_false, Bool.false_eq_true, and_true, true_and, and_self, or_self, true_or, or_true, not_true, not_false_iff, mR_stI, mN_stI, isO_stI, isA_stI, mI_stI, mR_mW, mN_mW, isO_mW, isA_mW, mI_mW, mW_mW, stI_mW, vp_0, nI_addL, nI_mulL, nI_subL, nI_ltL, nI_leL, nI_Llt, nI_Lle, nI_eqL, nI_Leq, nI_add, pk_mul, nI_ltI, nI_leI, nI_eq, vpi, nI_clamp, nI_toN, ↓g_M_mixesTenant_0]
  have := lp_M_mT1 Z d (M := M) (g := mI M) (t := t) (h0 := mL M 174) hB hD (by omega) 8 0 rfl
  rw [show mixN (utnG (mI M 175) t) 0 (mL M 174) = mL M 174 from rfl, mW_self, stL_self] at this
  exact this
def ucnG (f : Nat → Nat → Int32) : Nat → Int32 := fun w => ucnR f (nI w)
def urcG (u : Nat → Int32) : Nat → Int32 := fun k => urcR u (nI (k / 6)) (nI (k - k / 6 * 6))
noncomputable def udH (u : Nat → Int32) : Nat → Int64 → Int64
  | 0, h => h
  | t + 1, h => umT u t (udH u t h)
def udG (f : Nat → Nat → Int32) : Nat → Nat → Nat → Int32
  | 0 => f
  | t + 1 => uruM (udG f t) (nI t)
theorem uruM_o {f : Nat → Nat → Int32} {t : Int32} {x : Nat} (h : x ≠ 177) : uruM f t x = f x := by
  unfold uruM asG
  split
  · rw [rw_ne h]
  · rfl
theorem udG_o {f : Nat → Nat → Int32} {x : Nat} (h : x ≠ 177) : ∀ t, udG f t x = f x
  | 0 => rfl
  | t + 1 => by
    unfold udG
    rw [uruM_o h, udG_o h t]
def tL (f : Nat → Nat → Int32) : Nat := (f 174 5).toNatClampNeg
def MtD (f : Nat → Nat → Int32) : Prop := f 174 5 = nI (tL f) ∧ tL f ≤ 60
noncomputable def ud1 (f : Nat → Nat → Int32) : Int64 := udH (f 175) (uT (f 175)) (mixN (urcG (f 175)) 24 (mixN (ucnG f) 10 113))
noncomputable def ud2 (f : Nat → Nat → Int32) : Int64 := mixN (fun k => f 175 (320 + k)) (5 * uD (f 175)) (mixN (fun k => f 175 (80 + k)) (6 * uG (f 175)) (ud1 f))
noncomputable def ud3 (f : Nat → Nat → Int32) : Int64 := mixN (paS (f 175) (f 180)) (paK (f 175) (f 180)) (31 * ud2 f + (nI (paK (f 175) (f 180))).toInt64)
noncomputable def udX (f : Nat → Nat → Int32) : Int64 := mixN (f 178) (tL f) (ud3 f)
noncomputable def udM (f : Nat → Nat → Int32) : Nat → Nat → Int32 := paG (udG f (uT (f 175)))
theorem div6 {k : Nat} (h : k < 24) : nI k / nI 6 = nI (k / 6) := pk_div (by omega) (by omega) (by omega)
def e_M_digest : Ent := (fun av M => ∃ (o : Nat), av = [.ref o] ∧ (o = 174 ∧ BkS M ∧ DgOk (mI M 175) ∧ MtD (mI M)), fun av M r_ M_ => ∀ (o : Nat), av = [.ref o] → r_ = (some (.long (udX (mI M)))) ∧ M_ = (stL (mW M (udM (mI M))) 174 (udX (mI M))))
theorem pc_M_digest {o : Nat} {M : Mem} {K : Option Value → Mem → Prop} (hp : o = 174 ∧ BkS M ∧ DgOk (mI M 175) ∧ MtD (mI M)) : pcall e_M_digest [.ref o] M K = K (some (.long (udX (mI M)))) (stL (mW M (udM (mI M))) 174 (udX (mI M))) := propext ⟨fun h => h.2 _ _ (fun o' e => by simp only [List.cons.injEq, Value.ref.injEq, Value.int.injEq, Value.long.injEq, and_true] at e; have q0 := e; obtain rfl := q0; exact ⟨rfl, rfl⟩), fun h => ⟨⟨o, rfl, hp⟩, fun r_ M_ q => by obtain ⟨rfl, rfl⟩ := q _ rfl; exact h⟩⟩
theorem mk_M_digest {Z : Zt} {d : Nat} (h : ∀ (o : Nat) (M : Mem), (o = 174 ∧ BkS M ∧ DgOk (mI M 175) ∧ MtD (mI M)) → Gm Z d s_M_digest [.ref o] M (ex (some (.long (udX (mI M)))) (stL (mW M (udM (mI M))) 174 (udX (mI M))))) : okE Z d i_M_digest e_M_digest := by
  rintro av M ⟨o, rfl, hp⟩
  exact Gm.cons (h o M  hp) (fun r_ M_ q o' e => by simp only [List.cons.injEq, Value.ref.injEq, Value.int.injEq, Value.long.injEq, and_true] at e; have q0 := e; obtain rfl := q0; exact q)
def C_M_digest : List (Nat × Ent) := [(i_M_count, e_M_count), (i_M_mixes, e_M_mixes), (i_M_resource, e_M_resource), (i_M_mixesTenant, e_M_mixesTenant), (i_M_plans, e_M_plans)]
abbrev S_M_digest : List Nat := [9, 32, 62, 87, 123, 169, 192]
def t_M_digest_216 : List PI := (216, 1, 1, 0, 0, 0, []) :: (217, 8, 3, 5, 10, 0, [183]) :: (220, 9, 3, 0, 0, 0, []) :: []
def t_M_digest_210 : List PI := (210, 1, 6, 2, 0, 1, []) :: (213, 6, 0, 192, 0, 0, []) :: t_M_digest_216
def t_M_digest_200 : List PI := (200, 1, 1, 0, 0, 0, []) :: (201, 1, 1, 0, 0, 0, []) :: (202, 8, 1, 5, 4, 0, [19]) :: (205, 1, 0, 2, 0, 0, []) :: (206, 8, 4, 0, 0, 0, []) :: (207, 11, 0, 5, 169, 0, [190, 2]) :: t_M_digest_210
def t_M_digest_192 : List PI := (192, 1, 0, 2, 0, 0, []) :: (193, 1, 1, 0, 0, 0, []) :: (194, 8, 0, 5, 5, 0, [38]) :: (197, 4, 3, 216, 0, 0, []) :: t_M_digest_200
def t_M_digest_190 : List PI := (190, 0, 0, 0, 0, 0, []) :: (191, 1, 3, 2, 0, 0, []) :: t_M_digest_192
def t_M_digest_184 : List PI := (184, 1, 6, 2, 0, 1, []) :: (187, 6, 0, 169, 0, 0, []) :: t_M_digest_190
def t_M_digest_174 : List PI := (174, 1, 1, 0, 0, 0, []) :: (175, 1, 1, 0, 0, 0, []) :: (176, 8, 1, 5, 9, 0, [25]) :: (179, 1, 0, 2, 0, 0, []) :: (180, 8, 4, 0, 0, 0, []) :: (181, 11, 0, 5, 169, 0, [190, 2]) :: t_M_digest_184
def t_M_digest_169 : List PI := (169, 1, 0, 2, 0, 0, []) :: (170, 1, 0, 1, 0, 0, []) :: (171, 4, 3, 190, 0, 0, []) :: t_M_digest_174
def t_M_digest_167 : List PI := (167, 0, 0, 0, 0, 0, []) :: (168, 1, 3, 2, 0, 0, []) :: t_M_digest_169
def t_M_digest_161 : List PI := (161, 1, 3, 1, 0, 0, []) :: (162, 1, 1, 0, 0, 0, []) :: (163, 1, 0, 1, 0, 0, []) :: (164, 11, 0, 5, 169, 0, [190, 2]) :: t_M_digest_167
def t_M_digest_157 : List PI := (157, 1, 1, 0, 0, 0, []) :: (158, 11, 0, 5, 161, 0, [169, 1]) :: t_M_digest_161
def t_M_digest_151 : List PI := (151, 1, 6, 1, 0, 1, []) :: (154, 6, 0, 123, 0, 0, []) :: t_M_digest_157
def t_M_digest_137 : List PI := (137, 1, 1, 0, 0, 0, []) :: (138, 1, 1, 0, 0, 0, []) :: (139, 8, 1, 5, 0, 0, [7]) :: (142, 0, 0, 0, 2, 320, []) :: (145, 1, 0, 1, 0, 0, []) :: (146, 2, 0, 0, 0, 0, []) :: (147, 8, 4, 0, 0, 0, []) :: (148, 11, 0, 5, 169, 0, [190, 2]) :: t_M_digest_151
def t_M_digest_123 : List PI := (123, 1, 0, 1, 0, 0, []) :: (124, 0, 0, 0, 0, 5, []) :: (125, 1, 1, 0, 0, 0, []) :: (126, 8, 1, 5, 0, 0, [7]) :: (129, 0, 0, 0, 2, 449, []) :: (132, 8, 4, 0, 0, 0, []) :: (133, 2, 2, 0, 0, 0, []) :: (134, 4, 3, 157, 0, 0, []) :: t_M_digest_137
def t_M_digest_121 : List PI := (121, 0, 0, 0, 0, 0, []) :: (122, 1, 3, 1, 0, 0, []) :: t_M_digest_123
def t_M_digest_115 : List PI := (115, 1, 6, 1, 0, 1, []) :: (118, 6, 0, 87, 0, 0, []) :: t_M_digest_121
def t_M_digest_102 : List PI := (102, 1, 1, 0, 0, 0, []) :: (103, 1, 1, 0, 0, 0, []) :: (104, 8, 1, 5, 0, 0, [7]) :: (107, 0, 0, 0, 1, 80, []) :: (109, 1, 0, 1, 0, 0, []) :: (110, 2, 0, 0, 0, 0, []) :: (111, 8, 4, 0, 0, 0, []) :: (112, 11, 0, 5, 169, 0, [190, 2]) :: t_M_digest_115
def t_M_digest_87 : List PI := (87, 1, 0, 1, 0, 0, []) :: (88, 0, 0, 0, 1, 6, []) :: (90, 1, 1, 0, 0, 0, []) :: (91, 8, 1, 5, 0, 0, [7]) :: (94, 0, 0, 0, 2, 448, []) :: (97, 8, 4, 0, 0, 0, []) :: (98, 2, 2, 0, 0, 0, []) :: (99, 4, 3, 121, 0, 0, []) :: t_M_digest_102
def t_M_digest_85 : List PI := (85, 0, 0, 0, 0, 0, []) :: (86, 1, 3, 1, 0, 0, []) :: t_M_digest_87
def t_M_digest_79 : List PI := (79, 1, 6, 1, 0, 1, []) :: (82, 6, 0, 62, 0, 0, []) :: t_M_digest_85
def t_M_digest_74 : List PI := (74, 1, 1, 0, 0, 0, []) :: (75, 1, 0, 1, 0, 0, []) :: (76, 11, 0, 5, 170, 0, [208, 2]) :: t_M_digest_79
def t_M_digest_62 : List PI := (62, 1, 0, 1, 0, 0, []) :: (63, 1, 1, 0, 0, 0, []) :: (64, 8, 1, 5, 0, 0, [7]) :: (67, 0, 0, 0, 2, 447, []) :: (70, 8, 4, 0, 0, 0, []) :: (71, 4, 3, 85, 0, 0, []) :: t_M_digest_74
def t_M_digest_60 : List PI := (60, 0, 0, 0, 0, 0, []) :: (61, 1, 3, 1, 0, 0, []) :: t_M_digest_62
def t_M_digest_54 : List PI := (54, 1, 6, 1, 0, 1, []) :: (57, 6, 0, 32, 0, 0, []) :: t_M_digest_60
def t_M_digest_51 : List PI := (51, 11, 0, 5, 169, 0, [190, 2]) :: t_M_digest_54
def t_M_digest_38 : List PI := (38, 1, 1, 0, 0, 0, []) :: (39, 1, 1, 0, 0, 0, []) :: (40, 1, 0, 1, 0, 0, []) :: (41, 0, 0, 0, 1, 6, []) :: (43, 2, 3, 0, 0, 0, []) :: (44, 1, 0, 1, 0, 0, []) :: (45, 0, 0, 0, 1, 6, []) :: (47, 2, 4, 0, 0, 0, []) :: (48, 11, 0, 5, 153, 0, [205, 3]) :: t_M_digest_51
def t_M_digest_32 : List PI := (32, 1, 0, 1, 0, 0, []) :: (33, 0, 0, 0, 1, 24, []) :: (35, 4, 3, 60, 0, 0, []) :: t_M_digest_38
def t_M_digest_30 : List PI := (30, 0, 0, 0, 0, 0, []) :: (31, 1, 3, 1, 0, 0, []) :: t_M_digest_32
def t_M_digest_24 : List PI := (24, 1, 6, 1, 0, 1, []) :: (27, 6, 0, 9, 0, 0, []) :: t_M_digest_30
def t_M_digest_21 : List PI := (21, 11, 0, 5, 169, 0, [190, 2]) :: t_M_digest_24
def t_M_digest_15 : List PI := (15, 1, 1, 0, 0, 0, []) :: (16, 1, 1, 0, 0, 0, []) :: (17, 1, 0, 1, 0, 0, []) :: (18, 11, 0, 5, 168, 0, [202, 2]) :: t_M_digest_21
def t_M_digest_9 : List PI := (9, 1, 0, 1, 0, 0, []) :: (10, 0, 0, 0, 1, 10, []) :: (12, 4, 3, 30, 0, 0, []) :: t_M_digest_15
def t_M_digest_0 : List PI := (0, 1, 1, 0, 0, 0, []) :: (1, 0, 5, 200, 0, 0, []) :: (4, 10, 3, 5, 10, 0, [183]) :: (7, 0, 0, 0, 0, 0, []) :: (8, 1, 3, 1, 0, 0, []) :: t_M_digest_9
theorem kt_M_digest : okP s_M_digest t_M_digest_0 := k_M_digest
theorem g_M_digest_0 {Z : Zt} {nF f : Nat} {Kx : Nat → Kt} {Q : Option Value → Mem → Prop} {M : Mem} {x1 : Nat} : run Z nF C_M_digest S_M_digest Kx Q (f + 5) t_M_digest_0 [some (.ref (x1)), none, none] [] M = (isO (M) (x1) 5 ∧ Kx 9 [some (.ref (x1)), some (.int ((nI 0))), none] [] (stL (M) (x1) (113))) := rfl
theorem g_M_digest_9 {Z : Zt} {nF f : Nat} {Kx : Nat → Kt} {Q : Option Value → Mem → Prop} {M : Mem} {x1 : Nat} {x2 : Int32} : run Z nF C_M_digest S_M_digest Kx Q (f + 3) t_M_digest_9 [some (.ref (x1)), some (.int (x2)), none] [] M = ((if ((nI 10)) ≤ (x2) then run Z nF C_M_digest S_M_digest Kx Q f t_M_digest_30 [some (.ref (x1)), some (.int (x2)), none] [] (M) else run Z nF C_M_digest S_M_digest Kx Q f t_M_digest_15 [some (.ref (x1)), some (.int (x2)), none] [] (M))) := rfl
theorem g_M_digest_15 {Z : Zt} {nF f : Nat} {Kx : Nat → Kt} {Q : Option Value → Mem → Prop} {M : Mem} {x1 : Nat} {x2 : Int32} : run Z nF C_M_digest S_M_digest Kx Q (f + 4) t_M_digest_15 [some (.ref (x1)), some (.int (x2)), none] [] M = (((isO (M) (x1) 5) ∧ wsum [.ref (x1)] ≤ 8) ∧ pcall e_M_count [.ref (x1), .int (x2)] (M) (fun v M_ => run Z nF C_M_digest S_M_digest Kx Q f t_M_digest_21 [some (.ref (x1)), some (.int (x2)), none] (v.toList ++ [.ref (x1)]) M_)) := rfl
theorem g_M_digest_21 {Z : Zt} {nF f : Nat} {Kx : Nat → Kt} {Q : Option Value → Mem → Prop} {M : Mem} {x1 : Nat} {x2 : Int32} {x3 : Int32} {x4 : Nat} : run Z nF C_M_digest S_M_digest Kx Q (f + 1) t_M_digest_21 [some (.ref (x1)), some (.int (x2)), none] [.int (x3), .ref (x4)] M = (((isO (M) (x4) 5) ∧ wsum [] ≤ 8) ∧ pcall e_M_mixes [.ref (x4), .int (x3)] (M) (fun v M_ => run Z nF C_M_digest S_M_digest Kx Q f t_M_digest_24 [some (.ref (x1)), some (.int (x2)), none] (v.toList ++ []) M_)) := rfl
theorem g_M_digest_24 {Z : Zt} {nF f : Nat} {Kx : Nat → Kt} {Q : Option Value → Mem → Prop} {M : Mem} {x1 : Nat} {x2 : Int32} : run Z nF C_M_digest S_M_digest Kx Q (f + 2) t_M_digest_24 [some (.ref (x1)), some (.int (x2)), none] [] M = (Kx 9 [some (.ref (x1)), some (.int (x2 + (nI 1))), none] [] (M)) := rfl
theorem g_M_digest_30 {Z : Zt} {nF f : Nat} {Kx : Nat → Kt} {Q : Option Value → Mem → Prop} {M : Mem} {x1 : Nat} {x2 : Int32} : run Z nF C_M_digest S_M_digest Kx Q (f + 2) t_M_digest_30 [some (.ref (x1)), some (.int (x2)), none] [] M = (Kx 32 [some (.ref (x1)), some (.int ((nI 0))), none] [] (M)) := rfl
theorem g_M_digest_32 {Z : Zt} {nF f : Nat} {Kx : Nat → Kt} {Q : Option Value → Mem → Prop} {M : Mem} {x1 : Nat} {x2 : Int32} : run Z nF C_M_digest S_M_digest Kx Q (f + 3) t_M_digest_32 [some (.ref (x1)), some (.int (x2)), none] [] M = ((if ((nI 24)) ≤ (x2) then run Z nF C_M_digest S_M_digest Kx Q f t_M_digest_60 [some (.ref (x1)), some (.int (x2)), none] [] (M) else run Z nF C_M_digest S_M_digest Kx Q f t_M_digest_38 [some (.ref (x1)), some (.int (x2)), none] [] (M))) := rfl
theorem g_M_digest_38 {Z : Zt} {nF f : Nat} {Kx : Nat → Kt} {Q : Option Value → Mem → Prop} {M : Mem} {x1 : Nat} {x2 : Int32} : run Z nF C_M_digest S_M_digest Kx Q (f + 9) t_M_digest_38 [some (.ref (x1)), some (.int (x2)), none] [] M = (¬ ((nI 6)) = nI 0 ∧ ¬ ((nI 6)) = nI 0 ∧ ((isO (M) (x1) 5) ∧ wsum [.ref (x1)] ≤ 8) ∧ pcall e_M_resource [.ref (x1), .int ((x2) / ((nI 6))), .int ((x2) - (x2) / ((nI 6)) * ((nI 6)))] (M) (fun v M_ => run Z nF C_M_digest S_M_digest Kx Q f t_M_digest_51 [some (.ref (x1)), some (.int (x2)), none] (v.toList ++ [.ref (x1)]) M_)) := rfl
theorem g_M_digest_51 {Z : Zt} {nF f : Nat} {Kx : Nat → Kt} {Q : Option Value → Mem → Prop} {M : Mem} {x1 : Nat} {x2 : Int32} {x3 : Int32} {x4 : Nat} : run Z nF C_M_digest S_M_digest Kx Q (f + 1) t_M_digest_51 [some (.ref (x1)), some (.int (x2)), none] [.int (x3), .ref (x4)] M = (((isO (M) (x4) 5) ∧ wsum [] ≤ 8) ∧ pcall e_M_mixes [.ref (x4), .int (x3)] (M) (fun v M_ => run Z nF C_M_digest S_M_digest Kx Q f t_M_digest_54 [some (.ref (x1)), some (.int (x2)), none] (v.toList ++ []) M_)) := rfl
theorem g_M_digest_54 {Z : Zt} {nF f : Nat} {Kx : Nat → Kt} {Q : Option Value → Mem → Prop} {M : Mem} {x1 : Nat} {x2 : Int32} : run Z nF C_M_digest S_M_digest Kx Q (f + 2) t_M_digest_54 [some (.ref (x1)), some (.int (x2)), none] [] M = (Kx 32 [some (.ref (x1)), some (.int (x2 + (nI 1))), none] [] (M)) := rfl
theorem g_M_digest_60 {Z : Zt} {nF f : Nat} {Kx : Nat → Kt} {Q : Option Value → Mem → Prop} {M : Mem} {x1 : Nat} {x2 : Int32} : run Z nF C_M_digest S_M_digest Kx Q (f + 2) t_M_digest_60 [some (.ref (x1)), some (.int (x2)), none] [] M = (Kx 62 [some (.ref (x1)), some (.int ((nI 0))), none] [] (M)) := rfl
theorem g_M_digest_62 {Z : Zt} {nF f : Nat} {Kx : Nat → Kt} {Q : Option Value → Mem → Prop} {M : Mem} {x1 : Nat} {x2 : Int32} : run Z nF C_M_digest S_M_digest Kx Q (f + 6) t_M_digest_62 [some (.ref (x1)), some (.int (x2)), none] [] M = (isO (M) (x1) 5 ∧ isA (M) (mR (M) (x1) 0) ((nI 447)) ∧ (if (mI (M) (mR (M) (x1) 0) (Int32.toNatClampNeg ((nI 447)))) ≤ (x2) then run Z nF C_M_digest S_M_digest Kx Q f t_M_digest_85 [some (.ref (x1)), some (.int (x2)), none] [] (M) else run Z nF C_M_digest S_M_digest Kx Q f t_M_digest_74 [some (.ref (x1)), some (.int (x2)), none] [] (M))) := rfl
theorem g_M_digest_74 {Z : Zt} {nF f : Nat} {Kx : Nat → Kt} {Q : Option Value → Mem → Prop} {M : Mem} {x1 : Nat} {x2 : Int32} : run Z nF C_M_digest S_M_digest Kx Q (f + 3) t_M_digest_74 [some (.ref (x1)), some (.int (x2)), none] [] M = (((isO (M) (x1) 5) ∧ wsum [] ≤ 8) ∧ pcall e_M_mixesTenant [.ref (x1), .int (x2)] (M) (fun v M_ => run Z nF C_M_digest S_M_digest Kx Q f t_M_digest_79 [some (.ref (x1)), some (.int (x2)), none] (v.toList ++ []) M_)) := rfl
theorem g_M_digest_79 {Z : Zt} {nF f : Nat} {Kx : Nat → Kt} {Q : Option Value → Mem → Prop} {M : Mem} {x1 : Nat} {x2 : Int32} : run Z nF C_M_digest S_M_digest Kx Q (f + 2) t_M_digest_79 [some (.ref (x1)), some (.int (x2)), none] [] M = (Kx 62 [some (.ref (x1)), some (.int (x2 + (nI 1))), none] [] (M)) := rfl
theorem g_M_digest_85 {Z : Zt} {nF f : Nat} {Kx : Nat → Kt} {Q : Option Value → Mem → Prop} {M : Mem} {x1 : Nat} {x2 : Int32} : run Z nF C_M_digest S_M_digest Kx Q (f + 2) t_M_digest_85 [some (.ref (x1)), some (.int (x2)), none] [] M = (Kx 87 [some (.ref (x1)), some (.int ((nI 0))), none] [] (M)) := rfl
theorem g_M_digest_87 {Z : Zt} {nF f : Nat} {Kx : Nat → Kt} {Q : Option Value → Mem → Prop} {M : Mem} {x1 : Nat} {x2 : Int32} : run Z nF C_M_digest S_M_digest Kx Q (f + 8) t_M_digest_87 [some (.ref (x1)), some (.int (x2)), none] [] M = (isO (M) (x1) 5 ∧ isA (M) (mR (M) (x1) 0) ((nI 448)) ∧ (if (((nI 6)) * (mI (M) (mR (M) (x1) 0) (Int32.toNatClampNeg ((nI 448))))) ≤ (x2) then run Z nF C_M_digest S_M_digest Kx Q f t_M_digest_121 [some (.ref (x1)), some (.int (x2)), none] [] (M) else run Z nF C_M_digest S_M_digest Kx Q f t_M_digest_102 [some (.ref (x1)), some (.int (x2)), none] [] (M))) := rfl
theorem g_M_digest_102 {Z : Zt} {nF f : Nat} {Kx : Nat → Kt} {Q : Option Value → Mem → Prop} {M : Mem} {x1 : Nat} {x2 : Int32} : run Z nF C_M_digest S_M_digest Kx Q (f + 8) t_M_digest_102 [some (.ref (x1)), some (.int (x2)), none] [] M = (isO (M) (x1) 5 ∧ isA (M) (mR (M) (x1) 0) (((nI 80)) + (x2)) ∧ ((isO (M) (x1) 5) ∧ wsum [] ≤ 8) ∧ pcall e_M_mixes [.ref (x1), .int (mI (M) (mR (M) (x1) 0) (Int32.toNatClampNeg (((nI 80)) + (x2))))] (M) (fun v M_ => run Z nF C_M_digest S_M_digest Kx Q f t_M_digest_115 [some (.ref (x1)), some (.int (x2)), none] (v.toList ++ []) M_)) := rfl
theorem g_M_digest_115 {Z : Zt} {nF f : Nat} {Kx : Nat → Kt} {Q : Option Value → Mem → Prop} {M : Mem} {x1 : Nat} {x2 : Int32} : run Z nF C_M_digest S_M_digest Kx Q (f + 2) t_M_digest_115 [some (.ref (x1)), some (.int (x2)), none] [] M = (Kx 87 [some (.ref (x1)), some (.int (x2 + (nI 1))), none] [] (M)) := rfl
theorem g_M_digest_121 {Z : Zt} {nF f : Nat} {Kx : Nat → Kt} {Q : Option Value → Mem → Prop} {M : Mem} {x1 : Nat} {x2 : Int32} : run Z nF C_M_digest S_M_digest Kx Q (f + 2) t_M_digest_121 [some (.ref (x1)), some (.int (x2)), none] [] M = (Kx 123 [some (.ref (x1)), some (.int ((nI 0))), none] [] (M)) := rfl
theorem g_M_digest_123 {Z : Zt} {nF f : Nat} {Kx : Nat → Kt} {Q : Option Value → Mem → Prop} {M : Mem} {x1 : Nat} {x2 : Int32} : run Z nF C_M_digest S_M_digest Kx Q (f + 8) t_M_digest_123 [some (.ref (x1)), some (.int (x2)), none] [] M = (isO (M) (x1) 5 ∧ isA (M) (mR (M) (x1) 0) ((nI 449)) ∧ (if (((nI 5)) * (mI (M) (mR (M) (x1) 0) (Int32.toNatClampNeg ((nI 449))))) ≤ (x2) then run Z nF C_M_digest S_M_digest Kx Q f t_M_digest_157 [some (.ref (x1)), some (.int (x2)), none] [] (M) else run Z nF C_M_digest S_M_digest Kx Q f t_M_digest_137 [some (.ref (x1)), some (.int (x2)), none] [] (M))) := rfl
theorem g_M_digest_137 {Z : Zt} {nF f : Nat} {Kx : Nat → Kt} {Q : Option Value → Mem → Prop} {M : Mem} {x1 : Nat} {x2 : Int32} : run Z nF C_M_digest S_M_digest Kx Q (f + 8) t_M_digest_137 [some (.ref (x1)), some (.int (x2)), none] [] M = (isO (M) (x1) 5 ∧ isA (M) (mR (M) (x1) 0) (((nI 320)) + (x2)) ∧ ((isO (M) (x1) 5) ∧ wsum [] ≤ 8) ∧ pcall e_M_mixes [.ref (x1), .int (mI (M) (mR (M) (x1) 0) (Int32.toNatClampNeg (((nI 320)) + (x2))))] (M) (fun v M_ => run Z nF C_M_digest S_M_digest Kx Q f t_M_digest_151 [some (.ref (x1)), some (.int (x2)), none] (v.toList ++ []) M_)) := rfl
theorem g_M_digest_151 {Z : Zt} {nF f : Nat} {Kx : Nat → Kt} {Q : Option Value → Mem → Prop} {M : Mem} {x1 : Nat} {x2 : Int32} : run Z nF C_M_digest S_M_digest Kx Q (f + 2) t_M_digest_151 [some (.ref (x1)), some (.int (x2)), none] [] M = (Kx 123 [some (.ref (x1)), some (.int (x2 + (nI 1))), none] [] (M)) := rfl
theorem g_M_digest_157 {Z : Zt} {nF f : Nat} {Kx : Nat → Kt} {Q : Option Value → Mem → Prop} {M : Mem} {x1 : Nat} {x2 : Int32} : run Z nF C_M_digest S_M_digest Kx Q (f + 2) t_M_digest_157 [some (.ref (x1)), some (.int (x2)), none] [] M = (((isO (M) (x1) 5) ∧ wsum [] ≤ 8) ∧ pcall e_M_plans [.ref (x1)] (M) (fun v M_ => run Z nF C_M_digest S_M_digest Kx Q f t_M_digest_161 [some (.ref (x1)), some (.int (x2)), none] (v.toList ++ []) M_)) := rfl
theorem g_M_digest_161 {Z : Zt} {nF f : Nat} {Kx : Nat → Kt} {Q : Option Value → Mem → Prop} {M : Mem} {x1 : Nat} {x2 : Int32} {x3 : Int32} : run Z nF C_M_digest S_M_digest Kx Q (f + 4) t_M_digest_161 [some (.ref (x1)), some (.int (x2)), none] [.int (x3)] M = (((isO (M) (x1) 5) ∧ wsum [] ≤ 8) ∧ pcall e_M_mixes [.ref (x1), .int (x3)] (M) (fun v M_ => run Z nF C_M_digest S_M_digest Kx Q f t_M_digest_167 [some (.ref (x1)), some (.int (x3)), none] (v.toList ++ []) M_)) := rfl
theorem g_M_digest_167 {Z : Zt} {nF f : Nat} {Kx : Nat → Kt} {Q : Option Value → Mem → Prop} {M : Mem} {x1 : Nat} {x2 : Int32} : run Z nF C_M_digest S_M_digest Kx Q (f + 2) t_M_digest_167 [some (.ref (x1)), some (.int (x2)), none] [] M = (Kx 169 [some (.ref (x1)), some (.int (x2)), some (.int ((nI 0)))] [] (M)) := rfl
theorem g_M_digest_169 {Z : Zt} {nF f : Nat} {Kx : Nat → Kt} {Q : Option Value → Mem → Prop} {M : Mem} {x1 : Nat} {x2 : Int32} {x3 : Int32} : run Z nF C_M_digest S_M_digest Kx Q (f + 3) t_M_digest_169 [some (.ref (x1)), some (.int (x2)), some (.int (x3))] [] M = ((if (x2) ≤ (x3) then run Z nF C_M_digest S_M_digest Kx Q f t_M_digest_190 [some (.ref (x1)), some (.int (x2)), some (.int (x3))] [] (M) else run Z nF C_M_digest S_M_digest Kx Q f t_M_digest_174 [some (.ref (x1)), some (.int (x2)), some (.int (x3))] [] (M))) := rfl
theorem g_M_digest_174 {Z : Zt} {nF f : Nat} {Kx : Nat → Kt} {Q : Option Value → Mem → Prop} {M : Mem} {x1 : Nat} {x2 : Int32} {x3 : Int32} : run Z nF C_M_digest S_M_digest Kx Q (f + 6) t_M_digest_174 [some (.ref (x1)), some (.int (x2)), some (.int (x3))] [] M = (isO (M) (x1) 5 ∧ isA (M) (mR (M) (x1) 9) (x3) ∧ ((isO (M) (x1) 5) ∧ wsum [] ≤ 8) ∧ pcall e_M_mixes [.ref (x1), .int (mI (M) (mR (M) (x1) 9) (Int32.toNatClampNeg (x3)))] (M) (fun v M_ => run Z nF C_M_digest S_M_digest Kx Q f t_M_digest_184 [some (.ref (x1)), some (.int (x2)), some (.int (x3))] (v.toList ++ []) M_)) := rfl
theorem g_M_digest_184 {Z : Zt} {nF f : Nat} {Kx : Nat → Kt} {Q : Option Value → Mem → Prop} {M : Mem} {x1 : Nat} {x2 : Int32} {x3 : Int32} : run Z nF C_M_digest S_M_digest Kx Q (f + 2) t_M_digest_184 [some (.ref (x1)), some (.int (x2)), some (.int (x3))] [] M = (Kx 169 [some (.ref (x1)), some (.int (x2)), some (.int (x3 + (nI 1)))] [] (M)) := rfl
theorem g_M_digest_190 {Z : Zt} {nF f : Nat} {Kx : Nat → Kt} {Q : Option Value → Mem → Prop} {M : Mem} {x1 : Nat} {x2 : Int32} {x3 : Int32} : run Z nF C_M_digest S_M_digest Kx Q (f + 2) t_M_digest_190 [some (.ref (x1)), some (.int (x2)), some (.int (x3))] [] M = (Kx 192 [some (.ref (x1)), some (.int (x2)), some (.int ((nI 0)))] [] (M)) := rfl
theorem g_M_digest_192 {Z : Zt} {nF f : Nat} {Kx : Nat → Kt} {Q : Option Value → Mem → Prop} {M : Mem} {x1 : Nat} {x2 : Int32} {x3 : Int32} : run Z nF C_M_digest S_M_digest Kx Q (f + 4) t_M_digest_192 [some (.ref (x1)), some (.int (x2)), some (.int (x3))] [] M = (isO (M) (x1) 5 ∧ (if (mI (M) (x1) 5) ≤ (x3) then run Z nF C_M_digest S_M_digest Kx Q f t_M_digest_216 [some (.ref (x1)), some (.int (x2)), some (.int (x3))] [] (M) else run Z nF C_M_digest S_M_digest Kx Q f t_M_digest_200 [some (.ref (x1)), some (.int (x2)), some (.int (x3))] [] (M))) := rfl
theorem g_M_digest_200 {Z : Zt} {nF f : Nat} {Kx : Nat → Kt} {Q : Option Value → Mem → Prop} {M : Mem} {x1 : Nat} {x2 : Int32} {x3 : Int32} : run Z nF C_M_digest S_M_digest Kx Q (f + 6) t_M_digest_200 [some (.ref (x1)), some (.int (x2)), some (.int (x3))] [] M = (isO (M) (x1) 5 ∧ isA (M) (mR (M) (x1) 4) (x3) ∧ ((isO (M) (x1) 5) ∧ wsum [] ≤ 8) ∧ pcall e_M_mixes [.ref (x1), .int (mI (M) (mR (M) (x1) 4) (Int32.toNatClampNeg (x3)))] (M) (fun v M_ => run Z nF C_M_digest S_M_digest Kx Q f t_M_digest_210 [some (.ref (x1)), some (.int (x2)), some (.int (x3))] (v.toList ++ []) M_)) := rfl
theorem g_M_digest_210 {Z : Zt} {nF f : Nat} {Kx : Nat → Kt} {Q : Option Value → Mem → Prop} {M : Mem} {x1 : Nat} {x2 : Int32} {x3 : Int32} : run Z nF C_M_digest S_M_digest Kx Q (f + 2) t_M_digest_210 [some (.ref (x1)), some (.int (x2)), some (.int (x3))] [] M = (Kx 192 [some (.ref (x1)), some (.int (x2)), some (.int (x3 + (nI 1)))] [] (M)) := rfl
theorem g_M_digest_216 {Z : Zt} {nF f : Nat} {Kx : Nat → Kt} {Q : Option Value → Mem → Prop} {M : Mem} {x1 : Nat} {x2 : Int32} {x3 : Int32} : run Z nF C_M_digest S_M_digest Kx Q (f + 3) t_M_digest_216 [some (.ref (x1)), some (.int (x2)), some (.int (x3))] [] M = (isO (M) (x1) 5 ∧ Q (some (.long (mL (M) (x1)))) (M)) := rfl
set_option maxRecDepth 100000 in
set_option maxHeartbeats 4000000 in
theorem lp_M_dg7 (Z : Zt) (d : Nat) {M : Mem} {g : Nat → Nat → Int32} {h0 : Int64} {N : Nat} {w1 : Int32} (hB : BkS M) (hl : g 174 5 = nI N) (hN : N ≤ 60) : ∀ n k, k + n = N → X Z (d + 8) s_M_digest (mN M) (mN M) (ex (some (.long (mixN (g 178) N h0))) (stL (mW M g) 174 (mixN (g 178) N h0))) 192 [some (.ref 174), some (.int w1), some (.int (nI k))] [] (stL (mW M g) 174 (mixN (g 178) k h0)) := by
  intro n
  induction n with
  | zero =>
    intro k hk
    obtain rfl : k = N := by omega
    refine X_runT (C := C_M_digest) (S := S_M_digest) (T := t_M_digest_192) 1000 kt_M_digest (okE_cons (ok_M_count Z (d + 6)) (okE_cons (ok_M_mixes Z (d + 6)) (okE_cons (ok_M_resource Z (d + 3)) (okE_cons (ok_M_mixesTenant Z d) (okE_cons (ok_M_plans Z (d + 1)) okE_nil))))) ?_
    simp (maxSteps := 3000000) (disch := first | exact True.intro | assumption | omega) only [↓eq_self, Option.toList_some, Option.toList_none, List.nil_append, List.cons_append, wsum_0, wsum_1, wsum_2, wsum_3, wsum_4, lkill, ↓reduceIte, if_true, if_false, Bool.false_eq_true, and_true, true_and, and_self, or_self, true_or, or_true, not_true, not_false_iff, mR_stI, mN_stI, isO_stI, isA_stI, mI_stI, mR_mW, mN_mW, isO_mW, isA_mW, mI_mW, mW_mW, stI_mW, vp_0, nI_addL, nI_mulL, nI_subL, nI_ltL, nI_leL, nI_Llt, nI_Lle, nI_eqL, nI_Leq, nI_add, pk_mul, nI_ltI, nI_leI, nI_eq, vpi, nI_clamp, nI_toN, ↓g_M_digest_192, ↓g_M_digest_200, ↓g_M_digest_210, ↓g_M_digest_216, mI_stL, isO_stL, bk_oM hB, hl, nI_leI, Nat.le_refl, mL_stL]
    exact ⟨rfl, rfl⟩
  | succ n ih =>
    intro k hk
    have h1 : ¬ N ≤ k := by omega
    have h2 : k < 60 := by omega
    refine X_runT (C := C_M_digest) (S := S_M_digest) (T := t_M_digest_192) 1000 kt_M_digest (okE_cons (ok_M_count Z (d + 6)) (okE_cons (ok_M_mixes Z (d + 6)) (okE_cons (ok_M_resource Z (d + 3)) (okE_cons (ok_M_mixesTenant Z d) (okE_cons (ok_M_plans Z (d + 1)) okE_nil))))) ?_
    simp (maxSteps := 3000000) (disch := first | exact True.intro | assumption | omega) only [↓eq_self, Option.toList_some, Option.toList_none, List.nil_append, List.cons_append, wsum_0, wsum_1, wsum_2, wsum_3, wsum_4, lkill, ↓reduceIte, if_true, if_false, Bool.false_eq_true, and_true, true_and, and_self, or_self, true_or, or_true, not_true, not_false_iff, mR_stI, mN_stI, isO_stI, isA_stI, mI_stI, mR_mW, mN_mW, isO_mW, isA_mW, mI_mW, mW_mW, stI_mW, vp_0, nI_addL, nI_mulL, nI_subL, nI_ltL, nI_leL, nI_Llt, nI_Lle, nI_eqL, nI_Leq, nI_add, pk_mul, nI_ltI, nI_leI, nI_eq, vpi, nI_clamp, nI_toN, ↓g_M_digest_192, ↓g_M_digest_200, ↓g_M_digest_210, mI_stL, isO_stL, isA_stL, mR_stL, bk_oM hB, bk_m4 hB, md_t hB, hl, nI_leI, nI_add, nI_toN, h1, h2, mix_g hB, mixN_s]
    exact ih (k + 1) (by omega)
set_option maxRecDepth 100000 in
set_option maxHeartbeats 4000000 in
theorem lp_M_dg6 (Z : Zt) (d : Nat) {M : Mem} {g : Nat → Nat → Int32} {Q : Option Value → Mem → Prop} {h0 : Int64} {N : Nat} (hB : BkS M) (hN : N ≤ 24) (hx : X Z (d + 8) s_M_digest (mN M) (mN M) Q 192 [some (.ref 174), some (.int (nI N)), some (.int (nI 0))] [] (stL (mW M g) 174 (mixN (g 180) N h0))) : ∀ n k, k + n = N → X Z (d + 8) s_M_digest (mN M) (mN M) Q 169 [some (.ref 174), some (.int (nI N)), some (.int (nI k))] [] (stL (mW M g) 174 (mixN (g 180) k h0)) := by
  intro n
  induction n with
  | zero =>
    intro k hk
    obtain rfl : k = N := by omega
    refine X_runT (C := C_M_digest) (S := S_M_digest) (T := t_M_digest_169) 1000 kt_M_digest (okE_cons (ok_M_count Z (d + 6)) (okE_cons (ok_M_mixes Z (d + 6)) (okE_cons (ok_M_resource Z (d + 3)) (okE_cons (ok_M_mixesTenant Z d) (okE_cons (ok_M_plans Z (d + 1)) okE_nil))))) ?_
    simp (maxSteps := 3000000) (disch := first | exact True.intro | assumption | omega) only [↓eq_self, Option.toList_some, Option.toList_none, List.nil_append, List.cons_append, wsum_0, wsum_1, wsum_2, wsum_3, wsum_4, lkill, ↓reduceIte, if_true, if_false, Bool.false_eq_true, and_true, true_and, and_self, or_self, true_or, or_true, not_true, not_false_iff, mR_stI, mN_stI, isO_stI, isA_stI, mI_stI, mR_mW, mN_mW, isO_mW, isA_mW, mI_mW, mW_mW, stI_mW, vp_0, nI_addL, nI_mulL, nI_subL, nI_ltL, nI_leL, nI_Llt, nI_Lle, nI_eqL, nI_Leq, nI_add, pk_mul, nI_ltI, nI_leI, nI_eq, vpi, nI_clamp, nI_toN, ↓g_M_digest_169, ↓g_M_digest_174, ↓g_M_digest_184, ↓g_M_digest_190, nI_leI, Nat.le_refl]
    exact hx
  | succ n ih =>
    intro k hk
    have h1 : ¬ N ≤ k := by omega
    have h2 : k < 40 := by omega
    refine X_runT (C := C_M_digest) (S := S_M_digest) (T := t_M_digest_169) 1000 kt_M_digest (okE_cons (ok_M_count Z (d + 6)) (okE_cons (ok_M_mixes Z (d + 6)) (okE_cons (ok_M_resource Z (d + 3)) (okE_cons (ok_M_mixesTenant Z d) (okE_cons (ok_M_plans Z (d + 1)) okE_nil))))) ?_
    simp (maxSteps := 3000000) (disch := first | exact True.intro | assumption | omega) only [↓eq_self, Option.toList_some, Option.toList_none, List.nil_append, List.cons_append, wsum_0, wsum_1, wsum_2, wsum_3, wsum_4, lkill, ↓reduceIte, if_true, if_false, Bool.false_eq_true, and_true, true_and, and_self, or_self, true_or, or_true, not_true, not_false_iff, mR_stI, mN_stI, isO_stI, isA_stI, mI_stI, mR_mW, mN_mW, isO_mW, isA_mW, mI_mW, mW_mW, stI_mW, vp_0, nI_addL, nI_mulL, nI_subL, nI_ltL, nI_leL, nI_Llt, nI_Lle, nI_eqL, nI_Leq, nI_add, pk_mul, nI_ltI, nI_leI, nI_eq, vpi, nI_clamp, nI_toN, ↓g_M_digest_169, ↓g_M_digest_174, ↓g_M_digest_184, mI_stL, isO_stL, isA_stL, mR_stL, bk_oM hB, bk_m9 hB, md_v hB, nI_leI, nI_add, nI_toN, h1, h2, mix_g hB, mixN_s]
    exact ih (k + 1) (by omega)
set_option maxRecDepth 100000 in
set_option maxHeartbeats 4000000 in
theorem lp_M_dg5 (Z : Zt) (d : Nat) {M : Mem} {g : Nat → Nat → Int32} {Q : Option Value → Mem → Prop} {h0 : Int64} (hB : BkS M) (hM : MdD (g 175)) (hDs : DsAll (g 175)) (hx : X Z (d + 8) s_M_digest (mN M) (mN M) Q 169 [some (.ref 174), some (.int (nI (paK (g 175) (g 180)))), some (.int (nI 0))] [] (stL (mW M (paG g)) 174 (31 * mixN (fun k => g 175 (320 + k)) (5 * uD (g 175)) h0 + (nI (paK (g 175) (g 180))).toInt64))) : ∀ n k, k + n = 5 * uD (g 175) → X Z (d + 8) s_M_digest (mN M) (mN M) Q 123 [some (.ref 174), some (.int (nI k)), none] [] (stL (mW M g) 174 (mixN (fun k => g 175 (320 + k)) k h0)) := by
  have hD := hM.2.2.1.1
  have h24 := hM.2.2.1.2
  intro n
  induction n with
  | zero =>
    intro k hk
    obtain rfl : k = 5 * uD (g 175) := by omega
    have hpl : ∀ {h : Int64} {K : Option Value → Mem → Prop}, pcall e_M_plans [.ref 174] (stL (mW M g) 174 h) K = K (some (.int (nI (paK (g 175) (g 180))))) (stL (mW M (paG g)) 174 h) := fun {h K} => pc_M_plans (o := 174) (M := stL (mW M g) 174 h) ⟨rfl, ⟨hB, hM⟩, hDs⟩
    refine X_runT (C := C_M_digest) (S := S_M_digest) (T := t_M_digest_123) 1000 kt_M_digest (okE_cons (ok_M_count Z (d + 6)) (okE_cons (ok_M_mixes Z (d + 6)) (okE_cons (ok_M_resource Z (d + 3)) (okE_cons (ok_M_mixesTenant Z d) (okE_cons (ok_M_plans Z (d + 1)) okE_nil))))) ?_
    simp (maxSteps := 3000000) (disch := first | exact True.intro | assumption | omega) only [↓eq_self, Option.toList_some, Option.toList_none, List.nil_append, List.cons_append, wsum_0, wsum_1, wsum_2, wsum_3, wsum_4, lkill, ↓reduceIte, if_true, if_false, Bool.false_eq_true, and_true, true_and, and_self, or_self, true_or, or_true, not_true, not_false_iff, mR_stI, mN_stI, isO_stI, isA_stI, mI_stI, mR_mW, mN_mW, isO_mW, isA_mW, mI_mW, mW_mW, stI_mW, vp_0, nI_addL, nI_mulL, nI_subL, nI_ltL, nI_leL, nI_Llt, nI_Lle, nI_eqL, nI_Leq, nI_add, pk_mul, nI_ltI, nI_leI, nI_eq, vpi, nI_clamp, nI_toN, ↓g_M_digest_123, ↓g_M_digest_157, ↓g_M_digest_161, ↓g_M_digest_167, mI_stL, isO_stL, isA_stL, mR_stL, bk_oM hB, bk_m0 hB, md_a hB, nI_clamp, hD, pk_mul, nI_leI, Nat.le_refl, hpl, mix_g hB]
    exact hx
  | succ n ih =>
    intro k hk
    have h1 : ¬ 5 * uD (g 175) ≤ k := by omega
    have hs := mixN_s (fun k => g 175 (320 + k)) k h0
    refine X_runT (C := C_M_digest) (S := S_M_digest) (T := t_M_digest_123) 1000 kt_M_digest (okE_cons (ok_M_count Z (d + 6)) (okE_cons (ok_M_mixes Z (d + 6)) (okE_cons (ok_M_resource Z (d + 3)) (okE_cons (ok_M_mixesTenant Z d) (okE_cons (ok_M_plans Z (d + 1)) okE_nil))))) ?_
    simp (maxSteps := 3000000) (disch := first | exact True.intro | assumption | omega) only [↓eq_self, Option.toList_some, Option.toList_none, List.nil_append, List.cons_append, wsum_0, wsum_1, wsum_2, wsum_3, wsum_4, lkill, ↓reduceIte, if_true, if_false, Bool.false_eq_true, and_true, true_and, and_self, or_self, true_or, or_true, not_true, not_false_iff, mR_stI, mN_stI, isO_stI, isA_stI, mI_stI, mR_mW, mN_mW, isO_mW, isA_mW, mI_mW, mW_mW, stI_mW, vp_0, nI_addL, nI_mulL, nI_subL, nI_ltL, nI_leL, nI_Llt, nI_Lle, nI_eqL, nI_Leq, nI_add, pk_mul, nI_ltI, nI_leI, nI_eq, vpi, nI_clamp, nI_toN, ↓g_M_digest_123, ↓g_M_digest_137, ↓g_M_digest_151, mI_stL, isO_stL, isA_stL, mR_stL, bk_oM hB, bk_m0 hB, md_a hB, nI_clamp, hD, pk_mul, nI_leI, nI_add, h1, mix_g hB, hs]
    exact ih (k + 1) (by omega)
set_option maxRecDepth 100000 in
set_option maxHeartbeats 4000000 in
theorem lp_M_dg4 (Z : Zt) (d : Nat) {M : Mem} {g : Nat → Nat → Int32} {Q : Option Value → Mem → Prop} {h0 : Int64} (hB : BkS M) (hM : MdD (g 175)) (hx : X Z (d + 8) s_M_digest (mN M) (mN M) Q 123 [some (.ref 174), some (.int (nI 0)), none] [] (stL (mW M g) 174 (mixN (fun k => g 175 (80 + k)) (6 * uG (g 175)) h0))) : ∀ n k, k + n = 6 * uG (g 175) → X Z (d + 8) s_M_digest (mN M) (mN M) Q 87 [some (.ref 174), some (.int (nI k)), none] [] (stL (mW M g) 174 (mixN (fun k => g 175 (80 + k)) k h0)) := by
  have hD := hM.2.1.1
  have h24 := hM.2.1.2
  intro n
  induction n with
  | zero =>
    intro k hk
    obtain rfl : k = 6 * uG (g 175) := by omega
    refine X_runT (C := C_M_digest) (S := S_M_digest) (T := t_M_digest_87) 1000 kt_M_digest (okE_cons (ok_M_count Z (d + 6)) (okE_cons (ok_M_mixes Z (d + 6)) (okE_cons (ok_M_resource Z (d + 3)) (okE_cons (ok_M_mixesTenant Z d) (okE_cons (ok_M_plans Z (d + 1)) okE_nil))))) ?_
    simp (maxSteps := 3000000) (disch := first | exact True.intro | assumption | omega) only [↓eq_self, Option.toList_some, Option.toList_none, List.nil_append, List.cons_append, wsum_0, wsum_1, wsum_2, wsum_3, wsum_4, lkill, ↓reduceIte, if_true, if_false, Bool.false_eq_true, and_true, true_and, and_self, or_self, true_or, or_true, not_true, not_false_iff, mR_stI, mN_stI, isO_stI, isA_stI, mI_stI, mR_mW, mN_mW, isO_mW, isA_mW, mI_mW, mW_mW, stI_mW, vp_0, nI_addL, nI_mulL, nI_subL, nI_ltL, nI_leL, nI_Llt, nI_Lle, nI_eqL, nI_Leq, nI_add, pk_mul, nI_ltI, nI_leI, nI_eq, vpi, nI_clamp, nI_toN, ↓g_M_digest_87, ↓g_M_digest_102, ↓g_M_digest_115, ↓g_M_digest_121, mI_stL, isO_stL, isA_stL, mR_stL, bk_oM hB, bk_m0 hB, md_a hB, nI_clamp, hD, pk_mul, nI_leI, Nat.le_refl]
    exact hx
  | succ n ih =>
    intro k hk
    have h1 : ¬ 6 * uG (g 175) ≤ k := by omega
    have hs := mixN_s (fun k => g 175 (80 + k)) k h0
    refine X_runT (C := C_M_digest) (S := S_M_digest) (T := t_M_digest_87) 1000 kt_M_digest (okE_cons (ok_M_count Z (d + 6)) (okE_cons (ok_M_mixes Z (d + 6)) (okE_cons (ok_M_resource Z (d + 3)) (okE_cons (ok_M_mixesTenant Z d) (okE_cons (ok_M_plans Z (d + 1)) okE_nil))))) ?_
    simp (maxSteps := 3000000) (disch := first | exact True.intro | assumption | omega) only [↓eq_self, Option.toList_some, Option.toList_none, List.nil_append, List.cons_append, wsum_0, wsum_1, wsum_2, wsum_3, wsum_4, lkill, ↓reduceIte, if_true, if_false, Bool.false_eq_true, and_true, true_and, and_self, or_self, true_or, or_true, not_true, not_false_iff, mR_stI, mN_stI, isO_stI, isA_stI, mI_stI, mR_mW, mN_mW, isO_mW, isA_mW, mI_mW, mW_mW, stI_mW, vp_0, nI_addL, nI_mulL, nI_subL, nI_ltL, nI_leL, nI_Llt, nI_Lle, nI_eqL, nI_Leq, nI_add, pk_mul, nI_ltI, nI_leI, nI_eq, vpi, nI_clamp, nI_toN, ↓g_M_digest_87, ↓g_M_digest_102, ↓g_M_digest_115, mI_stL, isO_stL, isA_stL, mR_stL, bk_oM hB, bk_m0 hB, md_a hB, nI_clamp, hD, pk_mul, nI_leI, nI_add, h1, mix_g hB, hs]
    exact ih (k + 1) (by omega)
set_option maxRecDepth 100000 in
set_option maxHeartbeats 4000000 in
theorem lp_M_dg3 (Z : Zt) (d : Nat) {M : Mem} {f : Nat → Nat → Int32} {Q : Option Value → Mem → Prop} {h0 : Int64} (hB : BkS M) (hD : DgOk (f 175)) (hx : X Z (d + 8) s_M_digest (mN M) (mN M) Q 87 [some (.ref 174), some (.int (nI 0)), none] [] (stL (mW M (udG f (uT (f 175)))) 174 (udH (f 175) (uT (f 175)) h0))) : ∀ n t, t + n = uT (f 175) → X Z (d + 8) s_M_digest (mN M) (mN M) Q 62 [some (.ref 174), some (.int (nI t)), none] [] (stL (mW M (udG f t)) 174 (udH (f 175) t h0)) := by
  have hT := hD.1.1.1.1
  have h6 := hD.1.1.1.2
  have e175 : ∀ t, udG f t 175 = f 175 := fun t => udG_o (by omega) t
  intro n
  induction n with
  | zero =>
    intro t ht
    obtain rfl : t = uT (f 175) := by omega
    refine X_runT (C := C_M_digest) (S := S_M_digest) (T := t_M_digest_62) 1000 kt_M_digest (okE_cons (ok_M_count Z (d + 6)) (okE_cons (ok_M_mixes Z (d + 6)) (okE_cons (ok_M_resource Z (d + 3)) (okE_cons (ok_M_mixesTenant Z d) (okE_cons (ok_M_plans Z (d + 1)) okE_nil))))) ?_
    simp (maxSteps := 3000000) (disch := first | exact True.intro | assumption | omega) only [↓eq_self, Option.toList_some, Option.toList_none, List.nil_append, List.cons_append, wsum_0, wsum_1, wsum_2, wsum_3, wsum_4, lkill, ↓reduceIte, if_true, if_false, Bool.false_eq_true, and_true, true_and, and_self, or_self, true_or, or_true, not_true, not_false_iff, mR_stI, mN_stI, isO_stI, isA_stI, mI_stI, mR_mW, mN_mW, isO_mW, isA_mW, mI_mW, mW_mW, stI_mW, vp_0, nI_addL, nI_mulL, nI_subL, nI_ltL, nI_leL, nI_Llt, nI_Lle, nI_eqL, nI_Leq, nI_add, pk_mul, nI_ltI, nI_leI, nI_eq, vpi, nI_clamp, nI_toN, ↓g_M_digest_62, ↓g_M_digest_74, ↓g_M_digest_79, ↓g_M_digest_85, mI_stL, isO_stL, isA_stL, mR_stL, bk_oM hB, bk_m0 hB, md_a hB, nI_clamp, e175, hT, nI_leI, Nat.le_refl]
    exact hx
  | succ n ih =>
    intro t ht
    have h1 : ¬ uT (f 175) ≤ t := by omega
    have hmt : ∀ {h : Int64} {K : Option Value → Mem → Prop}, pcall e_M_mixesTenant [.ref 174, .int (nI t)] (stL (mW M (udG f t)) 174 h) K = K none (stL (mW M (udG f (t + 1))) 174 (umT (f 175) t h)) := fun {h K} => by
      rw [pc_M_mixesTenant (o := 174) (t := t) (M := stL (mW M (udG f t)) 174 h) ⟨rfl, hB, by rw [mI_stL, mI_mW, e175]; exact hD, by rw [mI_stL, mI_mW, e175]; omega⟩ (by omega), mL_stL, mI_stL, mI_mW, e175, mW_stL, stL_stL, mW_mW]
      rfl
    refine X_runT (C := C_M_digest) (S := S_M_digest) (T := t_M_digest_62) 1000 kt_M_digest (okE_cons (ok_M_count Z (d + 6)) (okE_cons (ok_M_mixes Z (d + 6)) (okE_cons (ok_M_resource Z (d + 3)) (okE_cons (ok_M_mixesTenant Z d) (okE_cons (ok_M_plans Z (d + 1)) okE_nil))))) ?_
    simp (maxSteps := 3000000) (disch := first | exact True.intro | assumption | omega) only [↓eq_self, Option.toList_some, Option.toList_none, List.nil_append, List.cons_append, wsum_0, wsum_1, wsum_2, wsum_3, wsum_4, lkill, ↓reduceIte, if_true, if_false, Bool.false_eq_true, and_true, true_and, and_self, or_self, true_or, or_true, not_true, not_false_iff, mR_stI, mN_stI, isO_stI, isA_stI, mI_stI, mR_mW, mN_mW, isO_mW, isA_mW, mI_mW, mW_mW, stI_mW, vp_0, nI_addL, nI_mulL, nI_subL, nI_ltL, nI_leL, nI_Llt, nI_Lle, nI_eqL, nI_Leq, nI_add, pk_mul, nI_ltI, nI_leI, nI_eq, vpi, nI_clamp, nI_toN, ↓g_M_digest_62, ↓g_M_digest_74, ↓g_M_digest_79, mI_stL, isO_stL, isA_stL, mR_stL, bk_oM hB, bk_m0 hB, md_a hB, nI_clamp, e175, hT, nI_leI, nI_add, h1, hmt]
    exact ih (t + 1) (by omega)
set_option maxRecDepth 100000 in
set_option maxHeartbeats 4000000 in
theorem lp_M_dg2 (Z : Zt) (d : Nat) {M : Mem} {g : Nat → Nat → Int32} {Q : Option Value → Mem → Prop} {h0 : Int64} (hB : BkS M) (hM : MdD (g 175)) (hx : X Z (d + 8) s_M_digest (mN M) (mN M) Q 62 [some (.ref 174), some (.int (nI 0)), none] [] (stL (mW M g) 174 (mixN (urcG (g 175)) 24 h0))) : ∀ n k, k + n = 24 → X Z (d + 8) s_M_digest (mN M) (mN M) Q 32 [some (.ref 174), some (.int (nI k)), none] [] (stL (mW M g) 174 (mixN (urcG (g 175)) k h0)) := by
  intro n
  induction n with
  | zero =>
    intro k hk
    obtain rfl : k = 24 := by omega
    refine X_runT (C := C_M_digest) (S := S_M_digest) (T := t_M_digest_32) 1000 kt_M_digest (okE_cons (ok_M_count Z (d + 6)) (okE_cons (ok_M_mixes Z (d + 6)) (okE_cons (ok_M_resource Z (d + 3)) (okE_cons (ok_M_mixesTenant Z d) (okE_cons (ok_M_plans Z (d + 1)) okE_nil))))) ?_
    simp (maxSteps := 3000000) (disch := first | exact True.intro | assumption | omega) only [↓eq_self, Option.toList_some, Option.toList_none, List.nil_append, List.cons_append, wsum_0, wsum_1, wsum_2, wsum_3, wsum_4, lkill, ↓reduceIte, if_true, if_false, Bool.false_eq_true, and_true, true_and, and_self, or_self, true_or, or_true, not_true, not_false_iff, mR_stI, mN_stI, isO_stI, isA_stI, mI_stI, mR_mW, mN_mW, isO_mW, isA_mW, mI_mW, mW_mW, stI_mW, vp_0, nI_addL, nI_mulL, nI_subL, nI_ltL, nI_leL, nI_Llt, nI_Lle, nI_eqL, nI_Leq, nI_add, pk_mul, nI_ltI, nI_leI, nI_eq, vpi, nI_clamp, nI_toN, ↓g_M_digest_32, ↓g_M_digest_38, ↓g_M_digest_51, ↓g_M_digest_54, ↓g_M_digest_60, nI_leI, Nat.le_refl]
    exact hx
  | succ n ih =>
    intro k hk
    have h1 : ¬ 24 ≤ k := by omega
    have h2 : nI k / nI 6 = nI (k / 6) := div6 (by omega)
    have h6 : ¬ nI 6 = nI 0 := by decide
    have hle : k / 6 * 6 ≤ k := Nat.div_mul_le_self k 6
    have hrc : ∀ {h : Int64} {K : Option Value → Mem → Prop}, pcall e_M_resource [.ref 174, .int (nI (k / 6)), .int (nI (k - k / 6 * 6))] (stL (mW M g) 174 h) K = K (some (.int (urcG (g 175) k))) (stL (mW M g) 174 h) := fun {h K} => pc_M_resource (o := 174) (r := nI (k / 6)) (w := nI (k - k / 6 * 6)) (M := stL (mW M g) 174 h) ⟨rfl, hB, hM⟩
    refine X_runT (C := C_M_digest) (S := S_M_digest) (T := t_M_digest_32) 1000 kt_M_digest (okE_cons (ok_M_count Z (d + 6)) (okE_cons (ok_M_mixes Z (d + 6)) (okE_cons (ok_M_resource Z (d + 3)) (okE_cons (ok_M_mixesTenant Z d) (okE_cons (ok_M_plans Z (d + 1)) okE_nil))))) ?_
    simp (maxSteps := 3000000) (disch := first | exact True.intro | assumption | omega) only [↓eq_self, Option.toList_some, Option.toList_none, List.nil_append, List.cons_append, wsum_0, wsum_1, wsum_2, wsum_3, wsum_4, lkill, ↓reduceIte, if_true, if_false, Bool.false_eq_true, and_true, true_and, and_self, or_self, true_or, or_true, not_true, not_false_iff, mR_stI, mN_stI, isO_stI, isA_stI, mI_stI, mR_mW, mN_mW, isO_mW, isA_mW, mI_mW, mW_mW, stI_mW, vp_0, nI_addL, nI_mulL, nI_subL, nI_ltL, nI_leL, nI_Llt, nI_Lle, nI_eqL, nI_Leq, nI_add, pk_mul, nI_ltI, nI_leI, nI_eq, vpi, nI_clamp, nI_toN, ↓g_M_digest_32, ↓g_M_digest_38, ↓g_M_digest_51, ↓g_M_digest_54, isO_stL, bk_oM hB, nI_leI, nI_add, h1, h2, h6, pk_mul, pk_sub hle, hrc, mix_g hB, mixN_s]
    exact ih (k + 1) (by omega)
set_option maxRecDepth 100000 in
set_option maxHeartbeats 4000000 in
theorem lp_M_dg1 (Z : Zt) (d : Nat) {M : Mem} {g : Nat → Nat → Int32} {Q : Option Value → Mem → Prop} {h0 : Int64} (hB : BkS M) (hx : X Z (d + 8) s_M_digest (mN M) (mN M) Q 32 [some (.ref 174), some (.int (nI 0)), none] [] (stL (mW M g) 174 (mixN (ucnG g) 10 h0))) : ∀ n k, k + n = 10 → X Z (d + 8) s_M_digest (mN M) (mN M) Q 9 [some (.ref 174), some (.int (nI k)), none] [] (stL (mW M g) 174 (mixN (ucnG g) k h0)) := by
  intro n
  induction n with
  | zero =>
    intro k hk
    obtain rfl : k = 10 := by omega
    refine X_runT (C := C_M_digest) (S := S_M_digest) (T := t_M_digest_9) 1000 kt_M_digest (okE_cons (ok_M_count Z (d + 6)) (okE_cons (ok_M_mixes Z (d + 6)) (okE_cons (ok_M_resource Z (d + 3)) (okE_cons (ok_M_mixesTenant Z d) (okE_cons (ok_M_plans Z (d + 1)) okE_nil))))) ?_
    simp (maxSteps := 3000000) (disch := first | exact True.intro | assumption | omega) only [↓eq_self, Option.toList_some, Option.toList_none, List.nil_append, List.cons_append, wsum_0, wsum_1, wsum_2, wsum_3, wsum_4, lkill, ↓reduceIte, if_true, if_false, Bool.false_eq_true, and_true, true_and, and_self, or_self, true_or, or_true, not_true, not_false_iff, mR_stI, mN_stI, isO_stI, isA_stI, mI_stI, mR_mW, mN_mW, isO_mW, isA_mW, mI_mW, mW_mW, stI_mW, vp_0, nI_addL, nI_mulL, nI_subL, nI_ltL, nI_leL, nI_Llt, nI_Lle, nI_eqL, nI_Leq, nI_add, pk_mul, nI_ltI, nI_leI, nI_eq, vpi, nI_clamp, nI_toN, ↓g_M_digest_9, ↓g_M_digest_15, ↓g_M_digest_21, ↓g_M_digest_24, ↓g_M_digest_30, nI_leI, Nat.le_refl]
    exact hx
  | succ n ih =>
    intro k hk
    have h1 : ¬ 10 ≤ k := by omega
    have hcn : ∀ {h : Int64} {K : Option Value → Mem → Prop}, pcall e_M_count [.ref 174, .int (nI k)] (stL (mW M g) 174 h) K = K (some (.int (ucnG g k))) (stL (mW M g) 174 h) := fun {h K} => pc_M_count (o := 174) (w := nI k) (M := stL (mW M g) 174 h) ⟨rfl, hB⟩
    refine X_runT (C := C_M_digest) (S := S_M_digest) (T := t_M_digest_9) 1000 kt_M_digest (okE_cons (ok_M_count Z (d + 6)) (okE_cons (ok_M_mixes Z (d + 6)) (okE_cons (ok_M_resource Z (d + 3)) (okE_cons (ok_M_mixesTenant Z d) (okE_cons (ok_M_plans Z (d + 1)) okE_nil))))) ?_
    simp (maxSteps := 3000000) (disch := first | exact True.intro | assumption | omega) only [↓eq_self, Option.toList_some, Option.toList_none, List.nil_append, List.cons_append, wsum_0, wsum_1, wsum_2, wsum_3, wsum_4, lkill, ↓reduceIte, if_true, if_false, Bool.false_eq_true, and_true, true_and, and_self, or_self, true_or, or_true, not_true, not_false_iff, mR_stI, mN_stI, isO_stI, isA_stI, mI_stI, mR_mW, mN_mW, isO_mW, isA_mW, mI_mW, mW_mW, stI_mW, vp_0, nI_addL, nI_mulL, nI_subL, nI_ltL, nI_leL, nI_Llt, nI_Lle, nI_eqL, nI_Leq, nI_add, pk_mul, nI_ltI, nI_leI, nI_eq, vpi, nI_clamp, nI_toN, ↓g_M_digest_9, ↓g_M_digest_15, ↓g_M_digest_21, ↓g_M_digest_24, isO_stL, bk_oM hB, nI_leI, nI_add, h1, hcn, mix_g hB, mixN_s]
    exact ih (k + 1) (by omega)
theorem paG_o {f : Nat → Nat → Int32} {x : Nat} (h : x ≠ 177) (h2 : x ≠ 180) : paG f x = f x := by
  unfold paG
  rw [rw_ne h2, rw_ne h]
theorem mix0 (p : Nat → Int32) (h : Int64) : mixN p 0 h = h := rfl
theorem udH0 (u : Nat → Int32) (h : Int64) : udH u 0 h = h := rfl
set_option maxRecDepth 100000 in
set_option maxHeartbeats 4000000 in
theorem ok_M_digest (Z : Zt) (d : Nat) : okE Z (d + 8) i_M_digest e_M_digest := mk_M_digest fun o M hp => by
  obtain ⟨rfl, hB, hD, hT, hT60⟩ := hp
  have hM : MdD (mI M 175) := hD.1.1
  refine Gm_run (C := C_M_digest) (S := S_M_digest) [some (.ref 174), none, none] 1000 kt_M_digest (okE_cons (ok_M_count Z (d + 6)) (okE_cons (ok_M_mixes Z (d + 6)) (okE_cons (ok_M_resource Z (d + 3)) (okE_cons (ok_M_mixesTenant Z d) (okE_cons (ok_M_plans Z (d + 1)) okE_nil))))) (ex_n rfl) ?_
  simp (maxSteps := 3000000) (disch := first | exact True.intro | assumption | omega) only [↓eq_self, Option.toList_some, Option.toList_none, List.nil_append, List.cons_append, wsum_0, wsum_1, wsum_2, wsum_3, wsum_4, lkill, ↓reduceIte, if_true, if_false, Bool.false_eq_true, and_true, true_and, and_self, or_self, true_or, or_true, not_true, not_false_iff, mR_stI, mN_stI, isO_stI, isA_stI, mI_stI, mR_mW, mN_mW, isO_mW, isA_mW, mI_mW, mW_mW, stI_mW, vp_0, nI_addL, nI_mulL, nI_subL, nI_ltL, nI_leL, nI_Llt, nI_Lle, nI_eqL, nI_Leq, nI_add, pk_mul, nI_ltI, nI_leI, nI_eq, vpi, nI_clamp, nI_toN, ↓g_M_digest_0, bk_oM hB]
  have e : ∀ {x}, x ≠ 177 → udG (mI M) (uT (mI M 175)) x = mI M x := fun {x} h => udG_o h _
  have h24 : paK (mI M 175) (mI M 180) ≤ 24 := by
    have h1 := paU_le (uD (mI M 175)) (mI M 175) (mI M 180) 0
    have h2 := hM.2.2.1.2
    unfold paK
    omega
  have g178 : udM (mI M) 178 = mI M 178 := by unfold udM; rw [paG_o (by omega) (by omega), e (by omega)]
  have g174 : udM (mI M) 174 = mI M 174 := by unfold udM; rw [paG_o (by omega) (by omega), e (by omega)]
  have g180 : udM (mI M) 180 = paS (mI M 175) (mI M 180) := by unfold udM paG; rw [rw_at, e (by omega), e (by omega)]
  have gM : paG (udG (mI M) (uT (mI M 175))) = udM (mI M) := rfl
  unfold udX ud3 ud2 ud1
  generalize hP : paK (mI M 175) (mI M 180) = P at *
  generalize hS : paS (mI M 175) (mI M 180) = S at *
  generalize ha0 : mixN (ucnG (mI M)) 10 113 = a0
  generalize ha1 : mixN (urcG (mI M 175)) 24 a0 = a1
  generalize ha2 : udH (mI M 175) (uT (mI M 175)) a1 = a2
  generalize ha3 : mixN (fun k => mI M 175 (80 + k)) (6 * uG (mI M 175)) a2 = a3
  generalize ha4 : mixN (fun k => mI M 175 (320 + k)) (5 * uD (mI M 175)) a3 = a4
  generalize ha5 : 31 * a4 + (nI P).toInt64 = a5
  generalize ha6 : mixN S P a5 = a6
  generalize ha7 : mixN (mI M 178) (tL (mI M)) a6 = a7
  have k7 := lp_M_dg7 Z d (M := M) (g := udM (mI M)) (h0 := a6) (N := tL (mI M)) (w1 := nI P) hB (by rw [g174]; exact hT) hT60 (tL (mI M)) 0 (Nat.zero_add _)
  rw [g178, mix0, ha7, ← ha6, ← g180] at k7
  have k6 := lp_M_dg6 Z d (M := M) (g := udM (mI M)) (h0 := a5) hB h24 k7 P 0 (Nat.zero_add _)
  rw [mix0, ← ha5, ← gM] at k6
  have k5 := fun hx => lp_M_dg5 Z d (M := M) (g := udG (mI M) (uT (mI M 175))) (h0 := a3) (Q := ex (some (.long a7)) (stL (mW M (udM (mI M))) 174 a7)) hB (by rw [e (by omega)]; exact hM) (by rw [e (by omega)]; exact hD.2.1) hx (5 * uD (udG (mI M) (uT (mI M 175)) 175)) 0 (Nat.zero_add _)
  rw [e (x := 175) (by omega), e (x := 180) (by omega), hP, ha4, mix0] at k5
  have k5 := k5 k6
  have k4 := fun hx => lp_M_dg4 Z d (M := M) (g := udG (mI M) (uT (mI M 175))) (h0 := a2) (Q := ex (some (.long a7)) (stL (mW M (udM (mI M))) 174 a7)) hB (by rw [e (by omega)]; exact hM) hx (6 * uG (udG (mI M) (uT (mI M 175)) 175)) 0 (Nat.zero_add _)
  rw [e (x := 175) (by omega), ha3, mix0] at k4
  have k4 := k4 k5
  rw [← ha2] at k4
  have k3 := lp_M_dg3 Z d (M := M) (f := mI M) (h0 := a1) hB hD k4 (uT (mI M 175)) 0 (Nat.zero_add _)
  rw [udH0, show udG (mI M) 0 = mI M from rfl, ← ha1] at k3
  have k2 := lp_M_dg2 Z d (M := M) (g := mI M) (h0 := a0) hB hM k3 24 0 rfl
  rw [mix0, ← ha0] at k2
  have k1 := lp_M_dg1 Z d (M := M) (g := mI M) (h0 := 113) hB k2 10 0 rfl
  rw [mix0, mW_self] at k1
  exact k1
