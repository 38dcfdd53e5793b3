/-! the making of a ledger -/
def C_L_init : List (Nat × Ent) := []
abbrev S_L_init : List Nat := [4, 11, 18, 25, 33, 41, 49, 57, 65, 73, 80, 83, 86, 93, 96, 99, 114]
def t_L_init_134 : List PI := (134, 9, 5, 0, 0, 0, []) :: []
def t_L_init_120 : List PI := (120, 1, 1, 0, 0, 0, []) :: (121, 8, 1, 2, 5, 0, [27]) :: (124, 1, 0, 1, 0, 0, []) :: (125, 0, 0, 58, 3, -1000003, []) :: (127, 10, 4, 0, 0, 0, []) :: (128, 1, 6, 1, 0, 1, []) :: (131, 6, 0, 114, 0, 0, []) :: t_L_init_134
def t_L_init_114 : List PI := (114, 1, 0, 1, 0, 0, []) :: (115, 0, 0, 0, 1, 6, []) :: (117, 4, 3, 134, 0, 0, []) :: t_L_init_120
def t_L_init_107 : List PI := (107, 1, 1, 0, 0, 0, []) :: (108, 0, 0, 0, 0, 3, []) :: (109, 10, 0, 2, 15, 0, [54]) :: (112, 0, 0, 0, 0, 0, []) :: (113, 1, 3, 1, 0, 0, []) :: t_L_init_114
def t_L_init_99 : List PI := (99, 1, 1, 0, 0, 0, []) :: (100, 0, 0, 0, 1, 6, []) :: (102, 10, 7, 0, 0, 0, []) :: (104, 10, 1, 2, 11, 0, [51]) :: t_L_init_107
def t_L_init_96 : List PI := (96, 10, 1, 2, 10, 0, [48]) :: t_L_init_99
def t_L_init_93 : List PI := (93, 11, 4, 0, 0, 0, [41, 2]) :: t_L_init_96
def t_L_init_86 : List PI := (86, 1, 1, 0, 0, 0, []) :: (87, 10, 6, 0, 0, 0, [39]) :: (90, 7, 0, 0, 0, 0, []) :: (91, 0, 0, 0, 1, 24, []) :: t_L_init_93
def t_L_init_83 : List PI := (83, 10, 1, 2, 9, 0, [44]) :: t_L_init_86
def t_L_init_80 : List PI := (80, 11, 4, 0, 0, 0, [41, 2]) :: t_L_init_83
def t_L_init_73 : List PI := (73, 1, 1, 0, 0, 0, []) :: (74, 10, 6, 0, 0, 0, [39]) :: (77, 7, 0, 0, 0, 0, []) :: (78, 0, 0, 0, 1, 40, []) :: t_L_init_80
def t_L_init_65 : List PI := (65, 1, 1, 0, 0, 0, []) :: (66, 0, 0, 0, 1, 24, []) :: (68, 10, 7, 0, 0, 0, []) :: (70, 10, 1, 2, 8, 0, [36]) :: t_L_init_73
def t_L_init_57 : List PI := (57, 1, 1, 0, 0, 0, []) :: (58, 0, 0, 0, 1, 24, []) :: (60, 10, 7, 0, 0, 0, []) :: (62, 10, 1, 2, 7, 0, [33]) :: t_L_init_65
def t_L_init_49 : List PI := (49, 1, 1, 0, 0, 0, []) :: (50, 0, 0, 0, 1, 24, []) :: (52, 10, 7, 0, 0, 0, []) :: (54, 10, 1, 2, 6, 0, [30]) :: t_L_init_57
def t_L_init_41 : List PI := (41, 1, 1, 0, 0, 0, []) :: (42, 0, 0, 0, 1, 6, []) :: (44, 10, 7, 0, 0, 0, []) :: (46, 10, 1, 2, 5, 0, [27]) :: t_L_init_49
def t_L_init_33 : List PI := (33, 1, 1, 0, 0, 0, []) :: (34, 0, 0, 0, 1, 6, []) :: (36, 10, 7, 0, 0, 0, []) :: (38, 10, 1, 2, 4, 0, [24]) :: t_L_init_41
def t_L_init_25 : List PI := (25, 1, 1, 0, 0, 0, []) :: (26, 0, 0, 0, 1, 6, []) :: (28, 10, 7, 0, 0, 0, []) :: (30, 10, 1, 2, 3, 0, [21]) :: t_L_init_33
def t_L_init_18 : List PI := (18, 1, 1, 0, 0, 0, []) :: (19, 0, 0, 0, 0, 4, []) :: (20, 10, 7, 0, 0, 0, []) :: (22, 10, 1, 2, 2, 0, [18]) :: t_L_init_25
def t_L_init_11 : List PI := (11, 1, 1, 0, 0, 0, []) :: (12, 0, 0, 0, 0, 4, []) :: (13, 10, 7, 0, 0, 0, []) :: (15, 10, 1, 2, 1, 0, [15]) :: t_L_init_18
def t_L_init_4 : List PI := (4, 1, 1, 0, 0, 0, []) :: (5, 0, 0, 0, 0, 4, []) :: (6, 10, 7, 0, 0, 0, []) :: (8, 10, 1, 2, 0, 0, [9]) :: t_L_init_11
def t_L_init_0 : List PI := (0, 1, 1, 0, 0, 0, []) :: (1, 12, 3, 0, 0, 0, [3]) :: t_L_init_4
theorem kt_L_init : okP s_L_init t_L_init_0 := k_L_init
theorem g_L_init_0 {Z : Zt} {nF f : Nat} {Kx : Nat → Kt} {Q : Option Value → Mem → Prop} {M : Mem} {x1 : Nat} : run Z nF C_L_init S_L_init Kx Q (f + 2) t_L_init_0 [some (.ref (x1)), none] [] M = ((16 ≤ (x1) ∧ wsum [] ≤ 8) ∧ Kx 4 [some (.ref (x1)), none] [] (M)) := rfl
theorem g_L_init_4 {Z : Zt} {nF f : Nat} {Kx : Nat → Kt} {Q : Option Value → Mem → Prop} {M : Mem} {x1 : Nat} : run Z nF C_L_init S_L_init Kx Q (f + 4) t_L_init_4 [some (.ref (x1)), none] [] M = (∃ n1 : Nat, (((4 : Int32)) = nI n1 ∧ kd (mN (M)) = (1, n1) ∧ n1 < 100000 ∧ mN (M) + 1 ≤ nF) ∧ isO (al (M)) (x1) 2 ∧ Kx 11 [some (.ref (x1)), none] [] (stR (al (M)) (x1) 0 (mN (M)))) := rfl
theorem g_L_init_11 {Z : Zt} {nF f : Nat} {Kx : Nat → Kt} {Q : Option Value → Mem → Prop} {M : Mem} {x1 : Nat} : run Z nF C_L_init S_L_init Kx Q (f + 4) t_L_init_11 [some (.ref (x1)), none] [] M = (∃ n1 : Nat, (((4 : Int32)) = nI n1 ∧ kd (mN (M)) = (1, n1) ∧ n1 < 100000 ∧ mN (M) + 1 ≤ nF) ∧ isO (al (M)) (x1) 2 ∧ Kx 18 [some (.ref (x1)), none] [] (stR (al (M)) (x1) 1 (mN (M)))) := rfl
theorem g_L_init_18 {Z : Zt} {nF f : Nat} {Kx : Nat → Kt} {Q : Option Value → Mem → Prop} {M : Mem} {x1 : Nat} : run Z nF C_L_init S_L_init Kx Q (f + 4) t_L_init_18 [some (.ref (x1)), none] [] M = (∃ n1 : Nat, (((4 : Int32)) = nI n1 ∧ kd (mN (M)) = (1, n1) ∧ n1 < 100000 ∧ mN (M) + 1 ≤ nF) ∧ isO (al (M)) (x1) 2 ∧ Kx 25 [some (.ref (x1)), none] [] (stR (al (M)) (x1) 2 (mN (M)))) := rfl
theorem g_L_init_25 {Z : Zt} {nF f : Nat} {Kx : Nat → Kt} {Q : Option Value → Mem → Prop} {M : Mem} {x1 : Nat} : run Z nF C_L_init S_L_init Kx Q (f + 4) t_L_init_25 [some (.ref (x1)), none] [] M = (∃ n1 : Nat, (((6 : Int32)) = nI n1 ∧ kd (mN (M)) = (1, n1) ∧ n1 < 100000 ∧ mN (M) + 1 ≤ nF) ∧ isO (al (M)) (x1) 2 ∧ Kx 33 [some (.ref (x1)), none] [] (stR (al (M)) (x1) 3 (mN (M)))) := rfl
theorem g_L_init_33 {Z : Zt} {nF f : Nat} {Kx : Nat → Kt} {Q : Option Value → Mem → Prop} {M : Mem} {x1 : Nat} : run Z nF C_L_init S_L_init Kx Q (f + 4) t_L_init_33 [some (.ref (x1)), none] [] M = (∃ n1 : Nat, (((6 : Int32)) = nI n1 ∧ kd (mN (M)) = (1, n1) ∧ n1 < 100000 ∧ mN (M) + 1 ≤ nF) ∧ isO (al (M)) (x1) 2 ∧ Kx 41 [some (.ref (x1)), none] [] (stR (al (M)) (x1) 4 (mN (M)))) := rfl
theorem g_L_init_41 {Z : Zt} {nF f : Nat} {Kx : Nat → Kt} {Q : Option Value → Mem → Prop} {M : Mem} {x1 : Nat} : run Z nF C_L_init S_L_init Kx Q (f + 4) t_L_init_41 [some (.ref (x1)), none] [] M = (∃ n1 : Nat, (((6 : Int32)) = nI n1 ∧ kd (mN (M)) = (1, n1) ∧ n1 < 100000 ∧ mN (M) + 1 ≤ nF) ∧ isO (al (M)) (x1) 2 ∧ Kx 49 [some (.ref (x1)), none] [] (stR (al (M)) (x1) 5 (mN (M)))) := rfl
theorem g_L_init_49 {Z : Zt} {nF f : Nat} {Kx : Nat → Kt} {Q : Option Value → Mem → Prop} {M : Mem} {x1 : Nat} : run Z nF C_L_init S_L_init Kx Q (f + 4) t_L_init_49 [some (.ref (x1)), none] [] M = (∃ n1 : Nat, (((24 : Int32)) = nI n1 ∧ kd (mN (M)) = (1, n1) ∧ n1 < 100000 ∧ mN (M) + 1 ≤ nF) ∧ isO (al (M)) (x1) 2 ∧ Kx 57 [some (.ref (x1)), none] [] (stR (al (M)) (x1) 6 (mN (M)))) := rfl
theorem g_L_init_57 {Z : Zt} {nF f : Nat} {Kx : Nat → Kt} {Q : Option Value → Mem → Prop} {M : Mem} {x1 : Nat} : run Z nF C_L_init S_L_init Kx Q (f + 4) t_L_init_57 [some (.ref (x1)), none] [] M = (∃ n1 : Nat, (((24 : Int32)) = nI n1 ∧ kd (mN (M)) = (1, n1) ∧ n1 < 100000 ∧ mN (M) + 1 ≤ nF) ∧ isO (al (M)) (x1) 2 ∧ Kx 65 [some (.ref (x1)), none] [] (stR (al (M)) (x1) 7 (mN (M)))) := rfl
theorem g_L_init_65 {Z : Zt} {nF f : Nat} {Kx : Nat → Kt} {Q : Option Value → Mem → Prop} {M : Mem} {x1 : Nat} : run Z nF C_L_init S_L_init Kx Q (f + 4) t_L_init_65 [some (.ref (x1)), none] [] M = (∃ n1 : Nat, (((24 : Int32)) = nI n1 ∧ kd (mN (M)) = (1, n1) ∧ n1 < 100000 ∧ mN (M) + 1 ≤ nF) ∧ isO (al (M)) (x1) 2 ∧ Kx 73 [some (.ref (x1)), none] [] (stR (al (M)) (x1) 8 (mN (M)))) := rfl
theorem g_L_init_73 {Z : Zt} {nF f : Nat} {Kx : Nat → Kt} {Q : Option Value → Mem → Prop} {M : Mem} {x1 : Nat} : run Z nF C_L_init S_L_init Kx Q (f + 4) t_L_init_73 [some (.ref (x1)), none] [] M = ((kd (mN (M)) = (0 + 3, cW 0) ∧ mN (M) + 1 ≤ nF) ∧ Kx 80 [some (.ref (x1)), none] [.int ((40 : Int32)), .ref (mN (M)), .ref (mN (M)), .ref (x1)] (al (M))) := rfl
theorem g_L_init_83 {Z : Zt} {nF f : Nat} {Kx : Nat → Kt} {Q : Option Value → Mem → Prop} {M : Mem} {x1 : Nat} {x2 : Nat} {x3 : Nat} : run Z nF C_L_init S_L_init Kx Q (f + 1) t_L_init_83 [some (.ref (x1)), none] [.ref (x2), .ref (x3)] M = (isO (M) (x3) 2 ∧ Kx 86 [some (.ref (x1)), none] [] (stR (M) (x3) 9 (x2))) := rfl
theorem g_L_init_86 {Z : Zt} {nF f : Nat} {Kx : Nat → Kt} {Q : Option Value → Mem → Prop} {M : Mem} {x1 : Nat} : run Z nF C_L_init S_L_init Kx Q (f + 4) t_L_init_86 [some (.ref (x1)), none] [] M = ((kd (mN (M)) = (0 + 3, cW 0) ∧ mN (M) + 1 ≤ nF) ∧ Kx 93 [some (.ref (x1)), none] [.int ((24 : Int32)), .ref (mN (M)), .ref (mN (M)), .ref (x1)] (al (M))) := rfl
theorem g_L_init_96 {Z : Zt} {nF f : Nat} {Kx : Nat → Kt} {Q : Option Value → Mem → Prop} {M : Mem} {x1 : Nat} {x2 : Nat} {x3 : Nat} : run Z nF C_L_init S_L_init Kx Q (f + 1) t_L_init_96 [some (.ref (x1)), none] [.ref (x2), .ref (x3)] M = (isO (M) (x3) 2 ∧ Kx 99 [some (.ref (x1)), none] [] (stR (M) (x3) 10 (x2))) := rfl
theorem g_L_init_99 {Z : Zt} {nF f : Nat} {Kx : Nat → Kt} {Q : Option Value → Mem → Prop} {M : Mem} {x1 : Nat} : run Z nF C_L_init S_L_init Kx Q (f + 4) t_L_init_99 [some (.ref (x1)), none] [] M = (∃ n1 : Nat, (((6 : Int32)) = nI n1 ∧ kd (mN (M)) = (1, n1) ∧ n1 < 100000 ∧ mN (M) + 1 ≤ nF) ∧ isO (al (M)) (x1) 2 ∧ run Z nF C_L_init S_L_init Kx Q f t_L_init_107 [some (.ref (x1)), none] [] (stR (al (M)) (x1) 11 (mN (M)))) := rfl
theorem g_L_init_107 {Z : Zt} {nF f : Nat} {Kx : Nat → Kt} {Q : Option Value → Mem → Prop} {M : Mem} {x1 : Nat} : run Z nF C_L_init S_L_init Kx Q (f + 5) t_L_init_107 [some (.ref (x1)), none] [] M = (isO (M) (x1) 2 ∧ Kx 114 [some (.ref (x1)), some (.int ((0 : Int32)))] [] (stI (M) (x1) 15 ((3 : Int32)))) := rfl
theorem g_L_init_114 {Z : Zt} {nF f : Nat} {Kx : Nat → Kt} {Q : Option Value → Mem → Prop} {M : Mem} {x1 : Nat} {x2 : Int32} : run Z nF C_L_init S_L_init Kx Q (f + 3) t_L_init_114 [some (.ref (x1)), some (.int (x2))] [] M = ((if ((6 : Int32)) ≤ (x2) then run Z nF C_L_init S_L_init Kx Q f t_L_init_134 [some (.ref (x1)), some (.int (x2))] [] (M) else run Z nF C_L_init S_L_init Kx Q f t_L_init_120 [some (.ref (x1)), some (.int (x2))] [] (M))) := rfl
theorem g_L_init_120 {Z : Zt} {nF f : Nat} {Kx : Nat → Kt} {Q : Option Value → Mem → Prop} {M : Mem} {x1 : Nat} {x2 : Int32} : run Z nF C_L_init S_L_init Kx Q (f + 7) t_L_init_120 [some (.ref (x1)), some (.int (x2))] [] M = (isO (M) (x1) 2 ∧ isA (M) (mR (M) (x1) 5) (x2) ∧ Kx 114 [some (.ref (x1)), some (.int (x2 + (1 : Int32)))] [] (stI (M) (mR (M) (x1) 5) (Int32.toNatClampNeg (x2)) ((-1000003 : Int32)))) := rfl
theorem g_L_init_134 {Z : Zt} {nF f : Nat} {Kx : Nat → Kt} {Q : Option Value → Mem → Prop} {M : Mem} {x1 : Nat} {x2 : Int32} : run Z nF C_L_init S_L_init Kx Q (f + 1) t_L_init_134 [some (.ref (x1)), some (.int (x2))] [] M = (Q none (M)) := rfl
def LdK (b : Nat) : Prop := 16 ≤ b ∧ ∀ j, j < 15 → kd (b + j) = ledK.getD j (0, 0)
theorem LdK_0 {b : Nat} (h : LdK b) : kd b = (2 + 3, cW 2) := h.2 0 (by omega)
set_option maxRecDepth 100000 in
set_option maxHeartbeats 4000000 in
theorem go_L_init_4 (Z : Zt) (d : Nat) {M0 M : Mem} {b n0 : Nat} {Q : Option Value → Mem → Prop} (hK : LdK b) (hI : LI M0 b 0 M) (hx : ∀ M, LI M0 b 1 M → X Z (d + 2) s_L_init n0 (b + 15) Q 11 [some (.ref b), none] [] M) : X Z (d + 2) s_L_init n0 (b + 15) Q 4 [some (.ref b), none] [] M := by
  have ho := LI_o hI (LdK_0 hK)
  have hk : kd (mN M) = (1, 4) := by rw [hI.1]; exact hK.2 1 (by omega)
  have hn : mN M + 1 ≤ b + 15 := by rw [hI.1]; omega
  refine X_runT (C := C_L_init) (S := S_L_init) (T := t_L_init_4) 1000 kt_L_init okE_nil ?_
  simp (maxSteps := 3000000) (disch := first | exact True.intro | assumption | omega) only [↓eq_self, Option.toList_some, Option.toList_none, List.nil_append, List.cons_append, wsum_0, wsum_1, wsum_2, wsum_3, wsum_4, lkill, ↓reduceIte, if_true, if_false, Bool.false_eq_true, and_true, true_and, and_self, or_self, true_or, or_true, not_true, not_false_iff, mR_stI, mN_stI, isO_stI, isA_stI, mI_stI, mR_mW, mN_mW, isO_mW, isA_mW, mI_mW, mW_mW, stI_mW, vp_0, nI_addL, nI_mulL, nI_subL, nI_ltL, nI_leL, nI_Llt, nI_Lle, nI_eqL, nI_Leq, nI_add, pk_mul, nI_ltI, nI_leI, nI_eq, vpi, nI_clamp, nI_toN, ↓g_L_init_4]
  exact ⟨4, ⟨rfl, hk, by omega, hn⟩, of_eq_true (isO_al ho), hx _ (LI_s hI)⟩
set_option maxRecDepth 100000 in
set_option maxHeartbeats 4000000 in
theorem go_L_init_11 (Z : Zt) (d : Nat) {M0 M : Mem} {b n0 : Nat} {Q : Option Value → Mem → Prop} (hK : LdK b) (hI : LI M0 b 1 M) (hx : ∀ M, LI M0 b 2 M → X Z (d + 2) s_L_init n0 (b + 15) Q 18 [some (.ref b), none] [] M) : X Z (d + 2) s_L_init n0 (b + 15) Q 11 [some (.ref b), none] [] M := by
  have ho := LI_o hI (LdK_0 hK)
  have hk : kd (mN M) = (1, 4) := by rw [hI.1]; exact hK.2 2 (by omega)
  have hn : mN M + 1 ≤ b + 15 := by rw [hI.1]; omega
  refine X_runT (C := C_L_init) (S := S_L_init) (T := t_L_init_11) 1000 kt_L_init okE_nil ?_
  simp (maxSteps := 3000000) (disch := first | exact True.intro | assumption | omega) only [↓eq_self, Option.toList_some, Option.toList_none, List.nil_append, List.cons_append, wsum_0, wsum_1, wsum_2, wsum_3, wsum_4, lkill, ↓reduceIte, if_true, if_false, Bool.false_eq_true, and_true, true_and, and_self, or_self, true_or, or_true, not_true, not_false_iff, mR_stI, mN_stI, isO_stI, isA_stI, mI_stI, mR_mW, mN_mW, isO_mW, isA_mW, mI_mW, mW_mW, stI_mW, vp_0, nI_addL, nI_mulL, nI_subL, nI_ltL, nI_leL, nI_Llt, nI_Lle, nI_eqL, nI_Leq, nI_add, pk_mul, nI_ltI, nI_leI, nI_eq, vpi, nI_clamp, nI_toN, ↓g_L_init_11]
  exact ⟨4, ⟨rfl, hk, by omega, hn⟩, of_eq_true (isO_al ho), hx _ (LI_s hI)⟩
set_option maxRecDepth 100000 in
set_option maxHeartbeats 4000000 in
theorem go_L_init_18 (Z : Zt) (d : Nat) {M0 M : Mem} {b n0 : Nat} {Q : Option Value → Mem → Prop} (hK : LdK b) (hI : LI M0 b 2 M) (hx : ∀ M, LI M0 b 3 M → X Z (d + 2) s_L_init n0 (b + 15) Q 25 [some (.ref b), none] [] M) : X Z (d + 2) s_L_init n0 (b + 15) Q 18 [some (.ref b), none] [] M := by
  have ho := LI_o hI (LdK_0 hK)
  have hk : kd (mN M) = (1, 4) := by rw [hI.1]; exact hK.2 3 (by omega)
  have hn : mN M + 1 ≤ b + 15 := by rw [hI.1]; omega
  refine X_runT (C := C_L_init) (S := S_L_init) (T := t_L_init_18) 1000 kt_L_init okE_nil ?_
  simp (maxSteps := 3000000) (disch := first | exact True.intro | assumption | omega) only [↓eq_self, Option.toList_some, Option.toList_none, List.nil_append, List.cons_append, wsum_0, wsum_1, wsum_2, wsum_3, wsum_4, lkill, ↓reduceIte, if_true, if_false, Bool.false_eq_true, and_true, true_and, and_self, or_self, true_or, or_true, not_true, not_false_iff, mR_stI, mN_stI, isO_stI, isA_stI, mI_stI, mR_mW, mN_mW, isO_mW, isA_mW, mI_mW, mW_mW, stI_mW, vp_0, nI_addL, nI_mulL, nI_subL, nI_ltL, nI_leL, nI_Llt, nI_Lle, nI_eqL, nI_Leq, nI_add, pk_mul, nI_ltI, nI_leI, nI_eq, vpi, nI_clamp, nI_toN, ↓g_L_init_18]
  exact ⟨4, ⟨rfl, hk, by omega, hn⟩, of_eq_true (isO_al ho), hx _ (LI_s hI)⟩
set_option maxRecDepth 100000 in
set_option maxHeartbeats 4000000 in
theorem go_L_init_25 (Z : Zt) (d : Nat) {M0 M : Mem} {b n0 : Nat} {Q : Option Value → Mem → Prop} (hK : LdK b) (hI : LI M0 b 3 M) (hx : ∀ M, LI M0 b 4 M → X Z (d + 2) s_L_init n0 (b + 15) Q 33 [some (.ref b), none] [] M) : X Z (d + 2) s_L_init n0 (b + 15) Q 25 [some (.ref b), none] [] M := by
  have ho := LI_o hI (LdK_0 hK)
  have hk : kd (mN M) = (1, 6) := by rw [hI.1]; exact hK.2 4 (by omega)
  have hn : mN M + 1 ≤ b + 15 := by rw [hI.1]; omega
  refine X_runT (C := C_L_init) (S := S_L_init) (T := t_L_init_25) 1000 kt_L_init okE_nil ?_
  simp (maxSteps := 3000000) (disch := first | exact True.intro | assumption | omega) only [↓eq_self, Option.toList_some, Option.toList_none, List.nil_append, List.cons_append, wsum_0, wsum_1, wsum_2, wsum_3, wsum_4, lkill, ↓reduceIte, if_true, if_false, Bool.false_eq_true, and_true, true_and, and_self, or_self, true_or, or_true, not_true, not_false_iff, mR_stI, mN_stI, isO_stI, isA_stI, mI_stI, mR_mW, mN_mW, isO_mW, isA_mW, mI_mW, mW_mW, stI_mW, vp_0, nI_addL, nI_mulL, nI_subL, nI_ltL, nI_leL, nI_Llt, nI_Lle, nI_eqL, nI_Leq, nI_add, pk_mul, nI_ltI, nI_leI, nI_eq, vpi, nI_clamp, nI_toN, ↓g_L_init_25]
  exact ⟨6, ⟨rfl, hk, by omega, hn⟩, of_eq_true (isO_al ho), hx _ (LI_s hI)⟩
set_option maxRecDepth 100000 in
set_option maxHeartbeats 4000000 in
theorem go_L_init_33 (Z : Zt) (d : Nat) {M0 M : Mem} {b n0 : Nat} {Q : Option Value → Mem → Prop} (hK : LdK b) (hI : LI M0 b 4 M) (hx : ∀ M, LI M0 b 5 M → X Z (d + 2) s_L_init n0 (b + 15) Q 41 [some (.ref b), none] [] M) : X Z (d + 2) s_L_init n0 (b + 15) Q 33 [some (.ref b), none] [] M := by
  have ho := LI_o hI (LdK_0 hK)
  have hk : kd (mN M) = (1, 6) := by rw [hI.1]; exact hK.2 5 (by omega)
  have hn : mN M + 1 ≤ b + 15 := by rw [hI.1]; omega
  refine X_runT (C := C_L_init) (S := S_L_init) (T := t_L_init_33) 1000 kt_L_init okE_nil ?_
  simp (maxSteps := 3000000) (disch := first | exact True.intro | assumption | omega) only [↓eq_self, Option.toList_some, Option.toList_none, List.nil_append, List.cons_append, wsum_0, wsum_1, wsum_2, wsum_3, wsum_4, lkill, ↓reduceIte, if_true, if_false, Bool.false_eq_true, and_true, true_and, and_self, or_self, true_or, or_true, not_true, not_false_iff, mR_stI, mN_stI, isO_stI, isA_stI, mI_stI, mR_mW, mN_mW, isO_mW, isA_mW, mI_mW, mW_mW, stI_mW, vp_0, nI_addL, nI_mulL, nI_subL, nI_ltL, nI_leL, nI_Llt, nI_Lle, nI_eqL, nI_Leq, nI_add, pk_mul, nI_ltI, nI_leI, nI_eq, vpi, nI_clamp, nI_toN, ↓g_L_init_33]
  exact ⟨6, ⟨rfl, hk, by omega, hn⟩, of_eq_true (isO_al ho), hx _ (LI_s hI)⟩
set_option maxRecDepth 100000 in
set_option maxHeartbeats 4000000 in
theorem go_L_init_41 (Z : Zt) (d : Nat) {M0 M : Mem} {b n0 : Nat} {Q : Option Value → Mem → Prop} (hK : LdK b) (hI : LI M0 b 5 M) (hx : ∀ M, LI M0 b 6 M → X Z (d + 2) s_L_init n0 (b + 15) Q 49 [some (.ref b), none] [] M) : X Z (d + 2) s_L_init n0 (b + 15) Q 41 [some (.ref b), none] [] M := by
  have ho := LI_o hI (LdK_0 hK)
  have hk : kd (mN M) = (1, 6) := by rw [hI.1]; exact hK.2 6 (by omega)
  have hn : mN M + 1 ≤ b + 15 := by rw [hI.1]; omega
  refine X_runT (C := C_L_init) (S := S_L_init) (T := t_L_init_41) 1000 kt_L_init okE_nil ?_
  simp (maxSteps := 3000000) (disch := first | exact True.intro | assumption | omega) only [↓eq_self, Option.toList_some, Option.toList_none, List.nil_append, List.cons_append, wsum_0, wsum_1, wsum_2, wsum_3, wsum_4, lkill, ↓reduceIte, if_true, if_false, Bool.false_eq_true, and_true, true_and, and_self, or_self, true_or, or_true, not_true, not_false_iff, mR_stI, mN_stI, isO_stI, isA_stI, mI_stI, mR_mW, mN_mW, isO_mW, isA_mW, mI_mW, mW_mW, stI_mW, vp_0, nI_addL, nI_mulL, nI_subL, nI_ltL, nI_leL, nI_Llt, nI_Lle, nI_eqL, nI_Leq, nI_add, pk_mul, nI_ltI, nI_leI, nI_eq, vpi, nI_clamp, nI_toN, ↓g_L_init_41]
  exact ⟨6, ⟨rfl, hk, by omega, hn⟩, of_eq_true (isO_al ho), hx _ (LI_s hI)⟩
set_option maxRecDepth 100000 in
set_option maxHeartbeats 4000000 in
theorem go_L_init_49 (Z : Zt) (d : Nat) {M0 M : Mem} {b n0 : Nat} {Q : Option Value → Mem → Prop} (hK : LdK b) (hI : LI M0 b 6 M) (hx : ∀ M, LI M0 b 7 M → X Z (d + 2) s_L_init n0 (b + 15) Q 57 [some (.ref b), none] [] M) : X Z (d + 2) s_L_init n0 (b + 15) Q 49 [some (.ref b), none] [] M := by
  have ho := LI_o hI (LdK_0 hK)
  have hk : kd (mN M) = (1, 24) := by rw [hI.1]; exact hK.2 7 (by omega)
  have hn : mN M + 1 ≤ b + 15 := by rw [hI.1]; omega
  refine X_runT (C := C_L_init) (S := S_L_init) (T := t_L_init_49) 1000 kt_L_init okE_nil ?_
  simp (maxSteps := 3000000) (disch := first | exact True.intro | assumption | omega) only [↓eq_self, Option.toList_some, Option.toList_none, List.nil_append, List.cons_append, wsum_0, wsum_1, wsum_2, wsum_3, wsum_4, lkill, ↓reduceIte, if_true, if_false, Bool.false_eq_true, and_true, true_and, and_self, or_self, true_or, or_true, not_true, not_false_iff, mR_stI, mN_stI, isO_stI, isA_stI, mI_stI, mR_mW, mN_mW, isO_mW, isA_mW, mI_mW, mW_mW, stI_mW, vp_0, nI_addL, nI_mulL, nI_subL, nI_ltL, nI_leL, nI_Llt, nI_Lle, nI_eqL, nI_Leq, nI_add, pk_mul, nI_ltI, nI_leI, nI_eq, vpi, nI_clamp, nI_toN, ↓g_L_init_49]
  exact ⟨24, ⟨rfl, hk, by omega, hn⟩, of_eq_true (isO_al ho), hx _ (LI_s hI)⟩
set_option maxRecDepth 100000 in
set_option maxHeartbeats 4000000 in
theorem go_L_init_57 (Z : Zt) (d : Nat) {M0 M : Mem} {b n0 : Nat} {Q : Option Value → Mem → Prop} (hK : LdK b) (hI : LI M0 b 7 M) (hx : ∀ M, LI M0 b 8 M → X Z (d + 2) s_L_init n0 (b + 15) Q 65 [some (.ref b), none] [] M) : X Z (d + 2) s_L_init n0 (b + 15) Q 57 [some (.ref b), none] [] M := by
  have ho := LI_o hI (LdK_0 hK)
  have hk : kd (mN M) = (1, 24) := by rw [hI.1]; exact hK.2 8 (by omega)
  have hn : mN M + 1 ≤ b + 15 := by rw [hI.1]; omega
  refine X_runT (C := C_L_init) (S := S_L_init) (T := t_L_init_57) 1000 kt_L_init okE_nil ?_
  simp (maxSteps := 3000000) (disch := first | exact True.intro | assumption | omega) only [↓eq_self, Option.toList_some, Option.toList_none, List.nil_append, List.cons_append, wsum_0, wsum_1, wsum_2, wsum_3, wsum_4, lkill, ↓reduceIte, if_true, if_false, Bool.false_eq_true, and_true, true_and, and_self, or_self, true_or, or_true, not_true, not_false_iff, mR_stI, mN_stI, isO_stI, isA_stI, mI_stI, mR_mW, mN_mW, isO_mW, isA_mW, mI_mW, mW_mW, stI_mW, vp_0, nI_addL, nI_mulL, nI_subL, nI_ltL, nI_leL, nI_Llt, nI_Lle, nI_eqL, nI_Leq, nI_add, pk_mul, nI_ltI, nI_leI, nI_eq, vpi, nI_clamp, nI_toN, ↓g_L_init_57]
  exact ⟨24, ⟨rfl, hk, by omega, hn⟩, of_eq_true (isO_al ho), hx _ (LI_s hI)⟩
set_option maxRecDepth 100000 in
set_option maxHeartbeats 4000000 in
theorem go_L_init_65 (Z : Zt) (d : Nat) {M0 M : Mem} {b n0 : Nat} {Q : Option Value → Mem → Prop} (hK : LdK b) (hI : LI M0 b 8 M) (hx : ∀ M, LI M0 b 9 M → X Z (d + 2) s_L_init n0 (b + 15) Q 73 [some (.ref b), none] [] M) : X Z (d + 2) s_L_init n0 (b + 15) Q 65 [some (.ref b), none] [] M := by
  have ho := LI_o hI (LdK_0 hK)
  have hk : kd (mN M) = (1, 24) := by rw [hI.1]; exact hK.2 9 (by omega)
  have hn : mN M + 1 ≤ b + 15 := by rw [hI.1]; omega
  refine X_runT (C := C_L_init) (S := S_L_init) (T := t_L_init_65) 1000 kt_L_init okE_nil ?_
  simp (maxSteps := 3000000) (disch := first | exact True.intro | assumption | omega) only [↓eq_self, Option.toList_some, Option.toList_none, List.nil_append, List.cons_append, wsum_0, wsum_1, wsum_2, wsum_3, wsum_4, lkill, ↓reduceIte, if_true, if_false, Bool.false_eq_true, and_true, true_and, and_self, or_self, true_or, or_true, not_true, not_false_iff, mR_stI, mN_stI, isO_stI, isA_stI, mI_stI, mR_mW, mN_mW, isO_mW, isA_mW, mI_mW, mW_mW, stI_mW, vp_0, nI_addL, nI_mulL, nI_subL, nI_ltL, nI_leL, nI_Llt, nI_Lle, nI_eqL, nI_Leq, nI_add, pk_mul, nI_ltI, nI_leI, nI_eq, vpi, nI_clamp, nI_toN, ↓g_L_init_65]
  exact ⟨24, ⟨rfl, hk, by omega, hn⟩, of_eq_true (isO_al ho), hx _ (LI_s hI)⟩
