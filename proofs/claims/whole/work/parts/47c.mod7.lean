/-! granting all -/
theorem gr2_o {u : Nat → Int32} {k y : Nat} (hg : uG u < 40) (h : y < 80 ∨ 320 ≤ y) (h1 : y ≠ 448) (h2 : y ≠ 451) : gr2 u k y = u y := by
  unfold gr2
  rw [up_ne h2, up_ne h1, up_ne (by omega), gr1_o (by omega)]
theorem grU_o {u : Nat → Int32} {k y : Nat} (hu : MdD u) (hg : uG u < 40) (h : y < 80 ∨ 440 ≤ y) (h1 : y ≠ 448) (h2 : y ≠ 449) (h3 : y ≠ 451) : grU u k y = u y := by
  unfold grU
  rw [ldU_o (by omega) h2 (gr2_D hu hg).2.2.1.2, gr2_o hg (by omega) h1 h3]
theorem grU_uD {u : Nat → Int32} {k : Nat} (hu : MdD u) (hg : uG u < 40) : uD (grU u k) = uD u - 1 := by
  have h24 := hu.2.2.1.2
  have e : uD (gr2 u k) = uD u := by unfold uD; rw [gr2_d hg]
  have h : grU u k 449 = nI (uD (gr2 u k) - 1) := by
    unfold grU ldU
    exact ldP_c _ _ _
  have h2 : uD (grU u k) = uD (gr2 u k) - 1 := tN_of h (by omega)
  rw [h2, e]
theorem DsAll_gr {u : Nat → Int32} {k : Nat} (hu : MdD u) (hg : uG u < 40) (h : DsAll u) : DsAll (grU u k) := by
  have h6 := hu.1.2
  have e : uT (grU u k) = uT u := by unfold uT; rw [grU_o hu hg (by omega) (by omega) (by omega) (by omega)]
  intro t ht r hr
  rw [e] at ht
  rw [grU_o hu hg (by omega) (by omega) (by omega) (by omega), grU_o hu hg (by omega) (by omega) (by omega) (by omega)]
  exact h t ht r hr
noncomputable def gaU : Nat → (Nat → Int32) → Nat → (Nat → Int32) × Nat
  | 0, u, n => (u, n)
  | m + 1, u, n => if ¬ nxU u = -1000003 ∧ uG u < 40 then gaU m (grU u (nxU u).toNatClampNeg) (n + 1) else (u, n)
noncomputable def ugaR (u : Nat → Int32) : Int32 := if nxU u = -1000003 then -1000001 else if uG u = 40 then -1000002 else nI (gaU (uD u) u 0).2
noncomputable def ugaM (f : Nat → Nat → Int32) : Nat → Nat → Int32 := if nxU (f 175) = -1000003 ∨ uG (f 175) = 40 then f else rwF (kpU f) 175 (gaU (uD (f 175)) (f 175) 0).1
def e_M_grantAll : Ent := (fun av M => ∃ (o : Nat), av = [.ref o] ∧ (o = 174 ∧ WM M ∧ DsAll (mI M 175)), fun av M r_ M_ => ∀ (o : Nat), av = [.ref o] → r_ = (some (.int (ugaR (mI M 175)))) ∧ M_ = (mW M (ugaM (mI M))))
theorem pc_M_grantAll {o : Nat} {M : Mem} {K : Option Value → Mem → Prop} (hp : o = 174 ∧ WM M ∧ DsAll (mI M 175)) : pcall e_M_grantAll [.ref o] M K = K (some (.int (ugaR (mI M 175)))) (mW M (ugaM (mI M))) := propext ⟨fun h => h.2 _ _ (fun o' e => by simp only [List.cons.injEq, Value.ref.injEq, Value.int.injEq, Value.long.injEq, and_true] at e; have q0 := e; obtain rfl := q0; exact ⟨rfl, rfl⟩), fun h => ⟨⟨o, rfl, hp⟩, fun r_ M_ q => by obtain ⟨rfl, rfl⟩ := q _ rfl; exact h⟩⟩
theorem mk_M_grantAll {Z : Zt} {d : Nat} (h : ∀ (o : Nat) (M : Mem), (o = 174 ∧ WM M ∧ DsAll (mI M 175)) → Gm Z d s_M_grantAll [.ref o] M (ex (some (.int (ugaR (mI M 175)))) (mW M (ugaM (mI M))))) : okE Z d i_M_grantAll e_M_grantAll := by
  rintro av M ⟨o, rfl, hp⟩
  exact Gm.cons (h o M  hp) (fun r_ M_ q o' e => by simp only [List.cons.injEq, Value.ref.injEq, Value.int.injEq, Value.long.injEq, and_true] at e; have q0 := e; obtain rfl := q0; exact q)
def C_M_grantAll : List (Nat × Ent) := [(i_M_nextDemand, e_M_nextDemand), (i_M_keeps, e_M_keeps), (i_M_grants, e_M_grants)]
abbrev S_M_grantAll : List Nat := [36]
def t_M_grantAll_79 : List PI := (79, 1, 0, 2, 0, 0, []) :: (80, 9, 0, 0, 0, 0, []) :: []
def t_M_grantAll_75 : List PI := (75, 1, 3, 1, 0, 0, []) :: (76, 6, 0, 36, 0, 0, []) :: t_M_grantAll_79
def t_M_grantAll_69 : List PI := (69, 2, 0, 0, 0, 0, []) :: (70, 1, 3, 2, 0, 0, []) :: (71, 1, 1, 0, 0, 0, []) :: (72, 11, 0, 5, 138, 0, [116, 1]) :: t_M_grantAll_75
def t_M_grantAll_68 : List PI := (68, 0, 0, 0, 0, 0, []) :: t_M_grantAll_69
def t_M_grantAll_64 : List PI := (64, 0, 0, 0, 0, 1, []) :: (65, 6, 0, 69, 0, 0, []) :: t_M_grantAll_68
def t_M_grantAll_61 : List PI := (61, 5, 2, 68, 0, 0, []) :: t_M_grantAll_64
def t_M_grantAll_55 : List PI := (55, 1, 0, 2, 0, 0, []) :: (56, 1, 1, 0, 0, 0, []) :: (57, 1, 0, 1, 0, 0, []) :: (58, 11, 0, 5, 139, 0, [119, 2]) :: t_M_grantAll_61
def t_M_grantAll_42 : List PI := (42, 1, 1, 0, 0, 0, []) :: (43, 8, 1, 5, 0, 0, [7]) :: (46, 0, 0, 0, 2, 448, []) :: (49, 8, 4, 0, 0, 0, []) :: (50, 0, 0, 0, 1, 40, []) :: (52, 4, 3, 79, 0, 0, []) :: t_M_grantAll_55
def t_M_grantAll_36 : List PI := (36, 1, 0, 1, 0, 0, []) :: (37, 0, 0, 52, 3, -1000003, []) :: (39, 4, 0, 79, 0, 0, []) :: t_M_grantAll_42
def t_M_grantAll_34 : List PI := (34, 0, 0, 0, 0, 0, []) :: (35, 1, 3, 2, 0, 0, []) :: t_M_grantAll_36
def t_M_grantAll_30 : List PI := (30, 1, 1, 0, 0, 0, []) :: (31, 11, 0, 5, 107, 0, [91, 1]) :: t_M_grantAll_34
def t_M_grantAll_27 : List PI := (27, 0, 0, 41, 3, -1000002, []) :: (29, 9, 0, 0, 0, 0, []) :: t_M_grantAll_30
def t_M_grantAll_14 : List PI := (14, 1, 1, 0, 0, 0, []) :: (15, 8, 1, 5, 0, 0, [7]) :: (18, 0, 0, 0, 2, 448, []) :: (21, 8, 4, 0, 0, 0, []) :: (22, 0, 0, 0, 1, 40, []) :: (24, 4, 1, 30, 0, 0, []) :: t_M_grantAll_27
def t_M_grantAll_11 : List PI := (11, 0, 0, 36, 3, -1000001, []) :: (13, 9, 0, 0, 0, 0, []) :: t_M_grantAll_14
def t_M_grantAll_4 : List PI := (4, 1, 3, 1, 0, 0, []) :: (5, 1, 0, 1, 0, 0, []) :: (6, 0, 0, 52, 3, -1000003, []) :: (8, 4, 1, 14, 0, 0, []) :: t_M_grantAll_11
def t_M_grantAll_0 : List PI := (0, 1, 1, 0, 0, 0, []) :: (1, 11, 0, 5, 138, 0, [116, 1]) :: t_M_grantAll_4
theorem kt_M_grantAll : okP s_M_grantAll t_M_grantAll_0 := k_M_grantAll
theorem g_M_grantAll_0 {Z : Zt} {nF f : Nat} {Kx : Nat → Kt} {Q : Option Value → Mem → Prop} {M : Mem} {x1 : Nat} : run Z nF C_M_grantAll S_M_grantAll Kx Q (f + 2) t_M_grantAll_0 [some (.ref (x1)), none, none] [] M = (((isO (M) (x1) 5) ∧ wsum [] ≤ 8) ∧ pcall e_M_nextDemand [.ref (x1)] (M) (fun v M_ => run Z nF C_M_grantAll S_M_grantAll Kx Q f t_M_grantAll_4 [some (.ref (x1)), none, none] (v.toList ++ []) M_)) := rfl
theorem g_M_grantAll_4 {Z : Zt} {nF f : Nat} {Kx : Nat → Kt} {Q : Option Value → Mem → Prop} {M : Mem} {x1 : Nat} {x2 : Int32} : run Z nF C_M_grantAll S_M_grantAll Kx Q (f + 4) t_M_grantAll_4 [some (.ref (x1)), none, none] [.int (x2)] M = ((if (x2) = ((-1000003 : Int32)) then run Z nF C_M_grantAll S_M_grantAll Kx Q f t_M_grantAll_11 [some (.ref (x1)), some (.int (x2)), none] [] (M) else run Z nF C_M_grantAll S_M_grantAll Kx Q f t_M_grantAll_14 [some (.ref (x1)), some (.int (x2)), none] [] (M))) := rfl
theorem g_M_grantAll_11 {Z : Zt} {nF f : Nat} {Kx : Nat → Kt} {Q : Option Value → Mem → Prop} {M : Mem} {x1 : Nat} {x2 : Int32} : run Z nF C_M_grantAll S_M_grantAll Kx Q (f + 2) t_M_grantAll_11 [some (.ref (x1)), some (.int (x2)), none] [] M = (Q (some (.int ((-1000001 : Int32)))) (M)) := rfl
theorem g_M_grantAll_14 {Z : Zt} {nF f : Nat} {Kx : Nat → Kt} {Q : Option Value → Mem → Prop} {M : Mem} {x1 : Nat} {x2 : Int32} : run Z nF C_M_grantAll S_M_grantAll Kx Q (f + 6) t_M_grantAll_14 [some (.ref (x1)), some (.int (x2)), none] [] M = (isO (M) (x1) 5 ∧ isA (M) (mR (M) (x1) 0) ((nI 448)) ∧ (if (mI (M) (mR (M) (x1) 0) (Int32.toNatClampNeg ((nI 448)))) = ((nI 40)) then run Z nF C_M_grantAll S_M_grantAll Kx Q f t_M_grantAll_27 [some (.ref (x1)), some (.int (x2)), none] [] (M) else run Z nF C_M_grantAll S_M_grantAll Kx Q f t_M_grantAll_30 [some (.ref (x1)), some (.int (x2)), none] [] (M))) := rfl
theorem g_M_grantAll_27 {Z : Zt} {nF f : Nat} {Kx : Nat → Kt} {Q : Option Value → Mem → Prop} {M : Mem} {x1 : Nat} {x2 : Int32} : run Z nF C_M_grantAll S_M_grantAll Kx Q (f + 2) t_M_grantAll_27 [some (.ref (x1)), some (.int (x2)), none] [] M = (Q (some (.int ((-1000002 : Int32)))) (M)) := rfl
theorem g_M_grantAll_30 {Z : Zt} {nF f : Nat} {Kx : Nat → Kt} {Q : Option Value → Mem → Prop} {M : Mem} {x1 : Nat} {x2 : Int32} : run Z nF C_M_grantAll S_M_grantAll Kx Q (f + 2) t_M_grantAll_30 [some (.ref (x1)), some (.int (x2)), none] [] M = (((isO (M) (x1) 5) ∧ wsum [] ≤ 8) ∧ pcall e_M_keeps [.ref (x1)] (M) (fun v M_ => run Z nF C_M_grantAll S_M_grantAll Kx Q f t_M_grantAll_34 [some (.ref (x1)), some (.int (x2)), none] (v.toList ++ []) M_)) := rfl
theorem g_M_grantAll_34 {Z : Zt} {nF f : Nat} {Kx : Nat → Kt} {Q : Option Value → Mem → Prop} {M : Mem} {x1 : Nat} {x2 : Int32} : run Z nF C_M_grantAll S_M_grantAll Kx Q (f + 2) t_M_grantAll_34 [some (.ref (x1)), some (.int (x2)), none] [] M = (Kx 36 [some (.ref (x1)), some (.int (x2)), some (.int ((nI 0)))] [] (M)) := rfl
theorem g_M_grantAll_36 {Z : Zt} {nF f : Nat} {Kx : Nat → Kt} {Q : Option Value → Mem → Prop} {M : Mem} {x1 : Nat} {x2 : Int32} {x3 : Int32} : run Z nF C_M_grantAll S_M_grantAll Kx Q (f + 3) t_M_grantAll_36 [some (.ref (x1)), some (.int (x2)), some (.int (x3))] [] M = ((if (x2) = ((-1000003 : Int32)) then run Z nF C_M_grantAll S_M_grantAll Kx Q f t_M_grantAll_79 [some (.ref (x1)), some (.int (x2)), some (.int (x3))] [] (M) else run Z nF C_M_grantAll S_M_grantAll Kx Q f t_M_grantAll_42 [some (.ref (x1)), some (.int (x2)), some (.int (x3))] [] (M))) := rfl
theorem g_M_grantAll_42 {Z : Zt} {nF f : Nat} {Kx : Nat → Kt} {Q : Option Value → Mem → Prop} {M : Mem} {x1 : Nat} {x2 : Int32} {x3 : Int32} : run Z nF C_M_grantAll S_M_grantAll Kx Q (f + 6) t_M_grantAll_42 [some (.ref (x1)), some (.int (x2)), some (.int (x3))] [] M = (isO (M) (x1) 5 ∧ isA (M) (mR (M) (x1) 0) ((nI 448)) ∧ (if ((nI 40)) ≤ (mI (M) (mR (M) (x1) 0) (Int32.toNatClampNeg ((nI 448)))) then run Z nF C_M_grantAll S_M_grantAll Kx Q f t_M_grantAll_79 [some (.ref (x1)), some (.int (x2)), some (.int (x3))] [] (M) else run Z nF C_M_grantAll S_M_grantAll Kx Q f t_M_grantAll_55 [some (.ref (x1)), some (.int (x2)), some (.int (x3))] [] (M))) := rfl
theorem g_M_grantAll_55 {Z : Zt} {nF f : Nat} {Kx : Nat → Kt} {Q : Option Value → Mem → Prop} {M : Mem} {x1 : Nat} {x2 : Int32} {x3 : Int32} : run Z nF C_M_grantAll S_M_grantAll Kx Q (f + 4) t_M_grantAll_55 [some (.ref (x1)), some (.int (x2)), some (.int (x3))] [] M = (((isO (M) (x1) 5) ∧ wsum [.int (x3)] ≤ 8) ∧ pcall e_M_grants [.ref (x1), .int (x2)] (M) (fun v M_ => run Z nF C_M_grantAll S_M_grantAll Kx Q f t_M_grantAll_61 [some (.ref (x1)), some (.int (x2)), some (.int (x3))] (v.toList ++ [.int (x3)]) M_)) := rfl
theorem g_M_grantAll_61 {Z : Zt} {nF f : Nat} {Kx : Nat → Kt} {Q : Option Value → Mem → Prop} {M : Mem} {x1 : Nat} {x2 : Int32} {x3 : Int32} {x4 : Int32} {x5 : Int32} : run Z nF C_M_grantAll S_M_grantAll Kx Q (f + 1) t_M_grantAll_61 [some (.ref (x1)), some (.int (x2)), some (.int (x3))] [.int (x4), .int (x5)] M = ((if (x4) < nI 0 then run Z nF C_M_grantAll S_M_grantAll Kx Q f t_M_grantAll_68 [some (.ref (x1)), some (.int (x2)), some (.int (x3))] [.int (x5)] (M) else run Z nF C_M_grantAll S_M_grantAll Kx Q f t_M_grantAll_64 [some (.ref (x1)), some (.int (x2)), some (.int (x3))] [.int (x5)] (M))) := rfl
theorem g_M_grantAll_64 {Z : Zt} {nF f : Nat} {Kx : Nat → Kt} {Q : Option Value → Mem → Prop} {M : Mem} {x1 : Nat} {x2 : Int32} {x3 : Int32} {x4 : Int32} : run Z nF C_M_grantAll S_M_grantAll Kx Q (f + 2) t_M_grantAll_64 [some (.ref (x1)), some (.int (x2)), some (.int (x3))] [.int (x4)] M = (run Z nF C_M_grantAll S_M_grantAll Kx Q f t_M_grantAll_69 [some (.ref (x1)), some (.int (x2)), some (.int (x3))] [.int ((nI 1)), .int (x4)] (M)) := rfl
theorem g_M_grantAll_68 {Z : Zt} {nF f : Nat} {Kx : Nat → Kt} {Q : Option Value → Mem → Prop} {M : Mem} {x1 : Nat} {x2 : Int32} {x3 : Int32} {x4 : Int32} : run Z nF C_M_grantAll S_M_grantAll Kx Q (f + 1) t_M_grantAll_68 [some (.ref (x1)), some (.int (x2)), some (.int (x3))] [.int (x4)] M = (run Z nF C_M_grantAll S_M_grantAll Kx Q f t_M_grantAll_69 [some (.ref (x1)), some (.int (x2)), some (.int (x3))] [.int ((nI 0)), .int (x4)] (M)) := rfl
theorem g_M_grantAll_69 {Z : Zt} {nF f : Nat} {Kx : Nat → Kt} {Q : Option Value → Mem → Prop} {M : Mem} {x1 : Nat} {x2 : Int32} {x3 : Int32} {x4 : Int32} {x5 : Int32} : run Z nF C_M_grantAll S_M_grantAll Kx Q (f + 4) t_M_grantAll_69 [some (.ref (x1)), some (.int (x2)), some (.int (x3))] [.int (x4), .int (x5)] M = (((isO (M) (x1) 5) ∧ wsum [] ≤ 8) ∧ pcall e_M_nextDemand [.ref (x1)] (M) (fun v M_ => run Z nF C_M_grantAll S_M_grantAll Kx Q f t_M_grantAll_75 [some (.ref (x1)), some (.int (x2)), some (.int ((x5) + (x4)))] (v.toList ++ []) M_)) := rfl
theorem g_M_grantAll_75 {Z : Zt} {nF f : Nat} {Kx : Nat → Kt} {Q : Option Value → Mem → Prop} {M : Mem} {x1 : Nat} {x2 : Int32} {x3 : Int32} {x4 : Int32} : run Z nF C_M_grantAll S_M_grantAll Kx Q (f + 2) t_M_grantAll_75 [some (.ref (x1)), some (.int (x2)), some (.int (x3))] [.int (x4)] M = (Kx 36 [some (.ref (x1)), some (.int (x4)), some (.int (x3))] [] (M)) := rfl
theorem g_M_grantAll_79 {Z : Zt} {nF f : Nat} {Kx : Nat → Kt} {Q : Option Value → Mem → Prop} {M : Mem} {x1 : Nat} {x2 : Int32} {x3 : Int32} : run Z nF C_M_grantAll S_M_grantAll Kx Q (f + 2) t_M_grantAll_79 [some (.ref (x1)), some (.int (x2)), some (.int (x3))] [] M = (Q (some (.int (x3))) (M)) := rfl
theorem nxU_0 {u : Nat → Int32} (h : uD u = 0) : nxU u = -1000003 := by
  rcases nxU_cases u with e | ⟨k, q, hk, -⟩
  · exact e
  · omega
set_option maxRecDepth 100000 in
set_option maxHeartbeats 4000000 in
theorem lp_M_grantAll (Z : Zt) (d : Nat) {M : Mem} {g0 : Nat → Nat → Int32} {R0 : Nat} {w : Nat → Int32} (hB : BkS M) : ∀ m u n, uD u = m → n + m ≤ 24 → MdD u → DsAll u → gaU m u n = (w, R0) → X Z (d + 6) s_M_grantAll (mN M) (mN M) (ex (some (.int (nI R0))) (mW M (rwF g0 175 w))) 36 [some (.ref 174), some (.int (nxU u)), some (.int (nI n))] [] (mW M (rwF g0 175 u)) := by
  intro m
  induction m with
  | zero =>
    intro u n hm hn hu hDs hr
    cases hr
    have he := nxU_0 hm
    refine X_runT (C := C_M_grantAll) (S := S_M_grantAll) (T := t_M_grantAll_36) 1000 kt_M_grantAll (okE_cons (ok_M_nextDemand Z d) (okE_cons (ok_M_keeps Z (d + 4)) (okE_cons (ok_M_grants Z (d + 3)) okE_nil))) ?_
    simp (maxSteps := 3000000) (disch := first | exact True.intro | assumption | omega) only [↓eq_self, Option.toList_some, Option.toList_none, List.nil_append, List.cons_append, wsum_0, wsum_1, wsum_2, wsum_3, wsum_4, lkill, ↓reduceIte, if_true, if_false, Bool.false_eq_true, and_true, true_and, and_self, or_self, true_or, or_true, not_true, not_false_iff, mR_stI, mN_stI, isO_stI, isA_stI, mI_stI, mR_mW, mN_mW, isO_mW, isA_mW, mI_mW, mW_mW, stI_mW, vp_0, nI_add, nI_ltI, nI_leI, nI_eq, vpi, nI_clamp, nI_toN, nI_geT, nI_lt4, pk_mul, pk_sub, bv_0n, bv_1n, ↓bv_01n, n01a, n01b, Nat.reduceSub, u2_rw, rw_rw, rw_at, rw_ne, rw_175_174, rw_176_174, rw_176_175, rw_177_174, rw_177_175, rw_177_176, rw_178_174, rw_178_175, rw_178_176, rw_178_177, rw_179_174, rw_179_175, rw_179_176, rw_179_177, rw_179_178, rw_180_174, rw_180_175, rw_180_176, rw_180_177, rw_180_178, rw_180_179, up_at, up_ne, Nat.zero_add, Nat.add_zero, bk_oM hB, bk_m0 hB, bk_m1 hB, bk_m2 hB, bk_m4 hB, bk_m6 hB, bk_m9 hB, md_a hB, md_p hB, md_s hB, md_t hB, md_r hB, md_v hB, ite_nt, ↓g_M_grantAll_36]
    rw [if_pos he]
    simp (maxSteps := 3000000) (disch := first | exact True.intro | assumption | omega) only [↓eq_self, Option.toList_some, Option.toList_none, List.nil_append, List.cons_append, wsum_0, wsum_1, wsum_2, wsum_3, wsum_4, lkill, ↓reduceIte, if_true, if_false, Bool.false_eq_true, and_true, true_and, and_self, or_self, true_or, or_true, not_true, not_false_iff, mR_stI, mN_stI, isO_stI, isA_stI, mI_stI, mR_mW, mN_mW, isO_mW, isA_mW, mI_mW, mW_mW, stI_mW, vp_0, nI_add, nI_ltI, nI_leI, nI_eq, vpi, nI_clamp, nI_toN, nI_geT, nI_lt4, pk_mul, pk_sub, bv_0n, bv_1n, ↓bv_01n, n01a, n01b, Nat.reduceSub, u2_rw, rw_rw, rw_at, rw_ne, rw_175_174, rw_176_174, rw_176_175, rw_177_174, rw_177_175, rw_177_176, rw_178_174, rw_178_175, rw_178_176, rw_178_177, rw_179_174, rw_179_175, rw_179_176, rw_179_177, rw_179_178, rw_180_174, rw_180_175, rw_180_176, rw_180_177, rw_180_178, rw_180_179, up_at, up_ne, Nat.zero_add, Nat.add_zero, bk_oM hB, bk_m0 hB, bk_m1 hB, bk_m2 hB, bk_m4 hB, bk_m6 hB, bk_m9 hB, md_a hB, md_p hB, md_s hB, md_t hB, md_r hB, md_v hB, ite_nt, ↓g_M_grantAll_79]
    exact ⟨rfl, rfl⟩
  | succ m ih =>
    intro u n hm hn hu hDs hr
    have hG := hu.2.1.1
    rw [gaU] at hr
    refine X_runT (C := C_M_grantAll) (S := S_M_grantAll) (T := t_M_grantAll_36) 1000 kt_M_grantAll (okE_cons (ok_M_nextDemand Z d) (okE_cons (ok_M_keeps Z (d + 4)) (okE_cons (ok_M_grants Z (d + 3)) okE_nil))) ?_
    simp (maxSteps := 3000000) (disch := first | exact True.intro | assumption | omega) only [↓eq_self, Option.toList_some, Option.toList_none, List.nil_append, List.cons_append, wsum_0, wsum_1, wsum_2, wsum_3, wsum_4, lkill, ↓reduceIte, if_true, if_false, Bool.false_eq_true, and_true, true_and, and_self, or_self, true_or, or_true, not_true, not_false_iff, mR_stI, mN_stI, isO_stI, isA_stI, mI_stI, mR_mW, mN_mW, isO_mW, isA_mW, mI_mW, mW_mW, stI_mW, vp_0, nI_add, nI_ltI, nI_leI, nI_eq, vpi, nI_clamp, nI_toN, nI_geT, nI_lt4, pk_mul, pk_sub, bv_0n, bv_1n, ↓bv_01n, n01a, n01b, Nat.reduceSub, u2_rw, rw_rw, rw_at, rw_ne, rw_175_174, rw_176_174, rw_176_175, rw_177_174, rw_177_175, rw_177_176, rw_178_174, rw_178_175, rw_178_176, rw_178_177, rw_179_174, rw_179_175, rw_179_176, rw_179_177, rw_179_178, rw_180_174, rw_180_175, rw_180_176, rw_180_177, rw_180_178, rw_180_179, up_at, up_ne, Nat.zero_add, Nat.add_zero, bk_oM hB, bk_m0 hB, bk_m1 hB, bk_m2 hB, bk_m4 hB, bk_m6 hB, bk_m9 hB, md_a hB, md_p hB, md_s hB, md_t hB, md_r hB, md_v hB, ite_nt, ↓g_M_grantAll_36]
    rcases nxU_cases u with he | ⟨k, q, hk, hq, ho, e⟩
    · rw [if_neg (fun z => z.1 he)] at hr
      cases hr
      rw [if_pos he]
      simp (maxSteps := 3000000) (disch := first | exact True.intro | assumption | omega) only [↓eq_self, Option.toList_some, Option.toList_none, List.nil_append, List.cons_append, wsum_0, wsum_1, wsum_2, wsum_3, wsum_4, lkill, ↓reduceIte, if_true, if_false, Bool.false_eq_true, and_true, true_and, and_self, or_self, true_or, or_true, not_true, not_false_iff, mR_stI, mN_stI, isO_stI, isA_stI, mI_stI, mR_mW, mN_mW, isO_mW, isA_mW, mI_mW, mW_mW, stI_mW, vp_0, nI_add, nI_ltI, nI_leI, nI_eq, vpi, nI_clamp, nI_toN, nI_geT, nI_lt4, pk_mul, pk_sub, bv_0n, bv_1n, ↓bv_01n, n01a, n01b, Nat.reduceSub, u2_rw, rw_rw, rw_at, rw_ne, rw_175_174, rw_176_174, rw_176_175, rw_177_174, rw_177_175, rw_177_176, rw_178_174, rw_178_175, rw_178_176, rw_178_177, rw_179_174, rw_179_175, rw_179_176, rw_179_177, rw_179_178, rw_180_174, rw_180_175, rw_180_176, rw_180_177, rw_180_178, rw_180_179, up_at, up_ne, Nat.zero_add, Nat.add_zero, bk_oM hB, bk_m0 hB, bk_m1 hB, bk_m2 hB, bk_m4 hB, bk_m6 hB, bk_m9 hB, md_a hB, md_p hB, md_s hB, md_t hB, md_r hB, md_v hB, ite_nt, ↓g_M_grantAll_79]
      exact ⟨rfl, rfl⟩
    · have hne : ¬ nI k = -1000003 := nI_neN (by have := hu.2.2.1.2; omega)
      rw [e, nI_toN (show k < 2 ^ 31 by omega)] at hr
      rw [e, if_neg hne]
      by_cases h4 : uG u < 40
      · rw [if_pos ⟨hne, h4⟩] at hr
        have h4' : ¬ 40 ≤ uG u := by omega
        have hD2 := grU_D (k := k) hu h4
        have hDs2 := DsAll_gr (k := k) hu h4 hDs
        have hgr : ∀ {K : Option Value → Mem → Prop}, pcall e_M_grants [.ref 174, .int (nI k)] (mW M (rwF g0 175 u)) K = K (some (.int (nI q))) (mW M (rwF g0 175 (grU u k))) := by
          intro K
          rw [pc_M_grants (o := 174) (k := k) (M := mW M (rwF g0 175 u)) ⟨rfl, MO_g hB (by rw [rw_at]; exact hu), by rw [mI_mW, rw_at]; exact hk, by rw [mI_mW, rw_at]; exact h4⟩ (by omega), mI_mW, mW_mW, rw_at, rw_rw, ho]
        have hnx : ∀ {K : Option Value → Mem → Prop}, pcall e_M_nextDemand [.ref 174] (mW M (rwF g0 175 (grU u k))) K = K (some (.int (nxU (grU u k)))) (mW M (rwF g0 175 (grU u k))) := by
          intro K
          rw [pc_M_nextDemand (o := 174) (M := mW M (rwF g0 175 (grU u k))) ⟨rfl, MO_g hB (by rw [rw_at]; exact hD2), by rw [mI_mW, rw_at]; exact hDs2⟩, mI_mW, rw_at]
        have hq0 : ¬ q < 0 := by omega
        have hq6 := hu.1.2
        simp (maxSteps := 3000000) (disch := first | exact True.intro | assumption | omega) only [↓eq_self, Option.toList_some, Option.toList_none, List.nil_append, List.cons_append, wsum_0, wsum_1, wsum_2, wsum_3, wsum_4, lkill, ↓reduceIte, if_true, if_false, Bool.false_eq_true, and_true, true_and, and_self, or_self, true_or, or_true, not_true, not_false_iff, mR_stI, mN_stI, isO_stI, isA_stI, mI_stI, mR_mW, mN_mW, isO_mW, isA_mW, mI_mW, mW_mW, stI_mW, vp_0, nI_add, nI_ltI, nI_leI, nI_eq, vpi, nI_clamp, nI_toN, nI_geT, nI_lt4, pk_mul, pk_sub, bv_0n, bv_1n, ↓bv_01n, n01a, n01b, Nat.reduceSub, u2_rw, rw_rw, rw_at, rw_ne, rw_175_174, rw_176_174, rw_176_175, rw_177_174, rw_177_175, rw_177_176, rw_178_174, rw_178_175, rw_178_176, rw_178_177, rw_179_174, rw_179_175, rw_179_176, rw_179_177, rw_179_178, rw_180_174, rw_180_175, rw_180_176, rw_180_177, rw_180_178, rw_180_179, up_at, up_ne, Nat.zero_add, Nat.add_zero, bk_oM hB, bk_m0 hB, bk_m1 hB, bk_m2 hB, bk_m4 hB, bk_m6 hB, bk_m9 hB, md_a hB, md_p hB, md_s hB, md_t hB, md_r hB, md_v hB, ite_nt, ↓g_M_grantAll_42, ↓g_M_grantAll_55, ↓g_M_grantAll_61, ↓g_M_grantAll_64, ↓g_M_grantAll_68, ↓g_M_grantAll_69, ↓g_M_grantAll_75, hG, h4', hgr, hnx, hq0]
        exact ih (grU u k) (n + 1) (by rw [grU_uD hu h4]; omega) (by omega) hD2 hDs2 hr
      · have h4' : 40 ≤ uG u := by omega
        have h40 := hu.2.1.2
        rw [if_neg (fun z => h4 z.2)] at hr
        cases hr
        simp (maxSteps := 3000000) (disch := first | exact True.intro | assumption | omega) only [↓eq_self, Option.toList_some, Option.toList_none, List.nil_append, List.cons_append, wsum_0, wsum_1, wsum_2, wsum_3, wsum_4, lkill, ↓reduceIte, if_true, if_false, Bool.false_eq_true, and_true, true_and, and_self, or_self, true_or, or_true, not_true, not_false_iff, mR_stI, mN_stI, isO_stI, isA_stI, mI_stI, mR_mW, mN_mW, isO_mW, isA_mW, mI_mW, mW_mW, stI_mW, vp_0, nI_add, nI_ltI, nI_leI, nI_eq, vpi, nI_clamp, nI_toN, nI_geT, nI_lt4, pk_mul, pk_sub, bv_0n, bv_1n, ↓bv_01n, n01a, n01b, Nat.reduceSub, u2_rw, rw_rw, rw_at, rw_ne, rw_175_174, rw_176_174, rw_176_175, rw_177_174, rw_177_175, rw_177_176, rw_178_174, rw_178_175, rw_178_176, rw_178_177, rw_179_174, rw_179_175, rw_179_176, rw_179_177, rw_179_178, rw_180_174, rw_180_175, rw_180_176, rw_180_177, rw_180_178, rw_180_179, up_at, up_ne, Nat.zero_add, Nat.add_zero, bk_oM hB, bk_m0 hB, bk_m1 hB, bk_m2 hB, bk_m4 hB, bk_m6 hB, bk_m9 hB, md_a hB, md_p hB, md_s hB, md_t hB, md_r hB, md_v hB, ite_nt, ↓g_M_grantAll_42, ↓g_M_grantAll_55, ↓g_M_grantAll_61, ↓g_M_grantAll_64, ↓g_M_grantAll_68, ↓g_M_grantAll_69, ↓g_M_grantAll_75, ↓g_M_grantAll_79, hG, h4']
        exact ⟨rfl, rfl⟩
set_option maxRecDepth 100000 in
set_option maxHeartbeats 4000000 in
theorem ok_M_grantAll (Z : Zt) (d : Nat) : okE Z (d + 6) i_M_grantAll e_M_grantAll := mk_M_grantAll fun o M hp => by
  obtain ⟨rfl, ⟨hB, hU, hMu⟩, hDs⟩ := hp
  have h24 := hU.2.2.1.2
  have hG := hU.2.1.1
  have h40 := hU.2.1.2
  refine Gm_run (C := C_M_grantAll) (S := S_M_grantAll) [some (.ref 174), none, none] 1000 kt_M_grantAll (okE_cons (ok_M_nextDemand Z d) (okE_cons (ok_M_keeps Z (d + 4)) (okE_cons (ok_M_grants Z (d + 3)) okE_nil))) (ex_n rfl) ?_
  have hnx : ∀ {K : Option Value → Mem → Prop}, pcall e_M_nextDemand [.ref 174] M K = K (some (.int (nxU (mI M 175)))) M := pc_M_nextDemand (o := 174) (M := M) ⟨rfl, ⟨hB, hU⟩, hDs⟩
  by_cases he : nxU (mI M 175) = -1000003
  · rw [show ugaR (mI M 175) = _ from if_pos he, show ugaM (mI M) = _ from if_pos (Or.inl he)]
    simp (maxSteps := 3000000) (disch := first | exact True.intro | assumption | omega) only [↓eq_self, Option.toList_some, Option.toList_none, List.nil_append, List.cons_append, wsum_0, wsum_1, wsum_2, wsum_3, wsum_4, lkill, ↓reduceIte, if_true, if_false, Bool.false_eq_true, and_true, true_and, and_self, or_self, true_or, or_true, not_true, not_false_iff, mR_stI, mN_stI, isO_stI, isA_stI, mI_stI, mR_mW, mN_mW, isO_mW, isA_mW, mI_mW, mW_mW, stI_mW, vp_0, nI_add, nI_ltI, nI_leI, nI_eq, vpi, nI_clamp, nI_toN, nI_geT, nI_lt4, pk_mul, pk_sub, bv_0n, bv_1n, ↓bv_01n, n01a, n01b, Nat.reduceSub, u2_rw, rw_rw, rw_at, rw_ne, rw_175_174, rw_176_174, rw_176_175, rw_177_174, rw_177_175, rw_177_176, rw_178_174, rw_178_175, rw_178_176, rw_178_177, rw_179_174, rw_179_175, rw_179_176, rw_179_177, rw_179_178, rw_180_174, rw_180_175, rw_180_176, rw_180_177, rw_180_178, rw_180_179, up_at, up_ne, Nat.zero_add, Nat.add_zero, bk_oM hB, bk_m0 hB, bk_m1 hB, bk_m2 hB, bk_m4 hB, bk_m6 hB, bk_m9 hB, md_a hB, md_p hB, md_s hB, md_t hB, md_r hB, md_v hB, ite_nt, ↓g_M_grantAll_0, ↓g_M_grantAll_4, hnx]
    rw [if_pos he]
    simp (maxSteps := 3000000) (disch := first | exact True.intro | assumption | omega) only [↓eq_self, Option.toList_some, Option.toList_none, List.nil_append, List.cons_append, wsum_0, wsum_1, wsum_2, wsum_3, wsum_4, lkill, ↓reduceIte, if_true, if_false, Bool.false_eq_true, and_true, true_and, and_self, or_self, true_or, or_true, not_true, not_false_iff, mR_stI, mN_stI, isO_stI, isA_stI, mI_stI, mR_mW, mN_mW, isO_mW, isA_mW, mI_mW, mW_mW, stI_mW, vp_0, nI_add, nI_ltI, nI_leI, nI_eq, vpi, nI_clamp, nI_toN, nI_geT, nI_lt4, pk_mul, pk_sub, bv_0n, bv_1n, ↓bv_01n, n01a, n01b, Nat.reduceSub, u2_rw, rw_rw, rw_at, rw_ne, rw_175_174, rw_176_174, rw_176_175, rw_177_174, rw_177_175, rw_177_176, rw_178_174, rw_178_175, rw_178_176, rw_178_177, rw_179_174, rw_179_175, rw_179_176, rw_179_177, rw_179_178, rw_180_174, rw_180_175, rw_180_176, rw_180_177, rw_180_178, rw_180_179, up_at, up_ne, Nat.zero_add, Nat.add_zero, bk_oM hB, bk_m0 hB, bk_m1 hB, bk_m2 hB, bk_m4 hB, bk_m6 hB, bk_m9 hB, md_a hB, md_p hB, md_s hB, md_t hB, md_r hB, md_v hB, ite_nt, ↓g_M_grantAll_11]
    exact ⟨rfl, rfl⟩
  · by_cases h4 : uG (mI M 175) = 40
    · rw [show ugaR (mI M 175) = _ from (if_neg he).trans (if_pos h4), show ugaM (mI M) = _ from if_pos (Or.inr h4)]
      simp (maxSteps := 3000000) (disch := first | exact True.intro | assumption | omega) only [↓eq_self, Option.toList_some, Option.toList_none, List.nil_append, List.cons_append, wsum_0, wsum_1, wsum_2, wsum_3, wsum_4, lkill, ↓reduceIte, if_true, if_false, Bool.false_eq_true, and_true, true_and, and_self, or_self, true_or, or_true, not_true, not_false_iff, mR_stI, mN_stI, isO_stI, isA_stI, mI_stI, mR_mW, mN_mW, isO_mW, isA_mW, mI_mW, mW_mW, stI_mW, vp_0, nI_add, nI_ltI, nI_leI, nI_eq, vpi, nI_clamp, nI_toN, nI_geT, nI_lt4, pk_mul, pk_sub, bv_0n, bv_1n, ↓bv_01n, n01a, n01b, Nat.reduceSub, u2_rw, rw_rw, rw_at, rw_ne, rw_175_174, rw_176_174, rw_176_175, rw_177_174, rw_177_175, rw_177_176, rw_178_174, rw_178_175, rw_178_176, rw_178_177, rw_179_174, rw_179_175, rw_179_176, rw_179_177, rw_179_178, rw_180_174, rw_180_175, rw_180_176, rw_180_177, rw_180_178, rw_180_179, up_at, up_ne, Nat.zero_add, Nat.add_zero, bk_oM hB, bk_m0 hB, bk_m1 hB, bk_m2 hB, bk_m4 hB, bk_m6 hB, bk_m9 hB, md_a hB, md_p hB, md_s hB, md_t hB, md_r hB, md_v hB, ite_nt, ↓g_M_grantAll_0, ↓g_M_grantAll_4, hnx]
      rw [if_neg he]
      simp (maxSteps := 3000000) (disch := first | exact True.intro | assumption | omega) only [↓eq_self, Option.toList_some, Option.toList_none, List.nil_append, List.cons_append, wsum_0, wsum_1, wsum_2, wsum_3, wsum_4, lkill, ↓reduceIte, if_true, if_false, Bool.false_eq_true, and_true, true_and, and_self, or_self, true_or, or_true, not_true, not_false_iff, mR_stI, mN_stI, isO_stI, isA_stI, mI_stI, mR_mW, mN_mW, isO_mW, isA_mW, mI_mW, mW_mW, stI_mW, vp_0, nI_add, nI_ltI, nI_leI, nI_eq, vpi, nI_clamp, nI_toN, nI_geT, nI_lt4, pk_mul, pk_sub, bv_0n, bv_1n, ↓bv_01n, n01a, n01b, Nat.reduceSub, u2_rw, rw_rw, rw_at, rw_ne, rw_175_174, rw_176_174, rw_176_175, rw_177_174, rw_177_175, rw_177_176, rw_178_174, rw_178_175, rw_178_176, rw_178_177, rw_179_174, rw_179_175, rw_179_176, rw_179_177, rw_179_178, rw_180_174, rw_180_175, rw_180_176, rw_180_177, rw_180_178, rw_180_179, up_at, up_ne, Nat.zero_add, Nat.add_zero, bk_oM hB, bk_m0 hB, bk_m1 hB, bk_m2 hB, bk_m4 hB, bk_m6 hB, bk_m9 hB, md_a hB, md_p hB, md_s hB, md_t hB, md_r hB, md_v hB, ite_nt, ↓g_M_grantAll_14, ↓g_M_grantAll_27, hG, h4]
      exact ⟨rfl, rfl⟩
    · rw [show ugaR (mI M 175) = _ from (if_neg he).trans (if_neg h4), show ugaM (mI M) = _ from if_neg (fun q => Or.elim q he h4)]
      have hkp : ∀ {K : Option Value → Mem → Prop}, pcall e_M_keeps [.ref 174] M K = K none (mW M (kpU (mI M))) := pc_M_keeps (o := 174) (M := M) ⟨rfl, hB, hMu⟩
      have hg := kpU_175 (mI M)
      generalize kpU (mI M) = g at *
      simp (maxSteps := 3000000) (disch := first | exact True.intro | assumption | omega) only [↓eq_self, Option.toList_some, Option.toList_none, List.nil_append, List.cons_append, wsum_0, wsum_1, wsum_2, wsum_3, wsum_4, lkill, ↓reduceIte, if_true, if_false, Bool.false_eq_true, and_true, true_and, and_self, or_self, true_or, or_true, not_true, not_false_iff, mR_stI, mN_stI, isO_stI, isA_stI, mI_stI, mR_mW, mN_mW, isO_mW, isA_mW, mI_mW, mW_mW, stI_mW, vp_0, nI_add, nI_ltI, nI_leI, nI_eq, vpi, nI_clamp, nI_toN, nI_geT, nI_lt4, pk_mul, pk_sub, bv_0n, bv_1n, ↓bv_01n, n01a, n01b, Nat.reduceSub, u2_rw, rw_rw, rw_at, rw_ne, rw_175_174, rw_176_174, rw_176_175, rw_177_174, rw_177_175, rw_177_176, rw_178_174, rw_178_175, rw_178_176, rw_178_177, rw_179_174, rw_179_175, rw_179_176, rw_179_177, rw_179_178, rw_180_174, rw_180_175, rw_180_176, rw_180_177, rw_180_178, rw_180_179, up_at, up_ne, Nat.zero_add, Nat.add_zero, bk_oM hB, bk_m0 hB, bk_m1 hB, bk_m2 hB, bk_m4 hB, bk_m6 hB, bk_m9 hB, md_a hB, md_p hB, md_s hB, md_t hB, md_r hB, md_v hB, ite_nt, ↓g_M_grantAll_0, ↓g_M_grantAll_4, hnx]
      rw [if_neg he]
      simp (maxSteps := 3000000) (disch := first | exact True.intro | assumption | omega) only [↓eq_self, Option.toList_some, Option.toList_none, List.nil_append, List.cons_append, wsum_0, wsum_1, wsum_2, wsum_3, wsum_4, lkill, ↓reduceIte, if_true, if_false, Bool.false_eq_true, and_true, true_and, and_self, or_self, true_or, or_true, not_true, not_false_iff, mR_stI, mN_stI, isO_stI, isA_stI, mI_stI, mR_mW, mN_mW, isO_mW, isA_mW, mI_mW, mW_mW, stI_mW, vp_0, nI_add, nI_ltI, nI_leI, nI_eq, vpi, nI_clamp, nI_toN, nI_geT, nI_lt4, pk_mul, pk_sub, bv_0n, bv_1n, ↓bv_01n, n01a, n01b, Nat.reduceSub, u2_rw, rw_rw, rw_at, rw_ne, rw_175_174, rw_176_174, rw_176_175, rw_177_174, rw_177_175, rw_177_176, rw_178_174, rw_178_175, rw_178_176, rw_178_177, rw_179_174, rw_179_175, rw_179_176, rw_179_177, rw_179_178, rw_180_174, rw_180_175, rw_180_176, rw_180_177, rw_180_178, rw_180_179, up_at, up_ne, Nat.zero_add, Nat.add_zero, bk_oM hB, bk_m0 hB, bk_m1 hB, bk_m2 hB, bk_m4 hB, bk_m6 hB, bk_m9 hB, md_a hB, md_p hB, md_s hB, md_t hB, md_r hB, md_v hB, ite_nt, ↓g_M_grantAll_14, ↓g_M_grantAll_27, ↓g_M_grantAll_30, ↓g_M_grantAll_34, hG, h4, hkp]
      have := lp_M_grantAll Z d (M := M) (g0 := g) hB (uD (mI M 175)) (mI M 175) 0 rfl (by omega) hU hDs rfl
      rw [← hg, rwF_self, hg] at this
      exact this
