/-! ===== the law: its loops ===== -/
def QL (r : Option Value) (_ : Mem) : Prop := r = some (.int 1)
/-- before the k-th step of the main loop -/
def LpI (k : Nat) (M : Mem) : Prop := PI_ M ∧ mN M = 177 + 3 * k ∧ kaM M ≤ k ∧ aT (mI M 174) = 3
set_option maxRecDepth 100000 in
set_option maxHeartbeats 4000000 in
theorem lp_okI4 : okI s_law (4, 11, 4, 0, 52, 0, [124, 1]) := (show okP s_law t_law_4 from okP_seek 4 t_law_0 kt_law).1
set_option maxRecDepth 100000 in
set_option maxHeartbeats 4000000 in
theorem lp_okI618 : okI s_law (618, 11, 1, 0, 95, 0, [167, 4]) := (show okP s_law t_law_618 from okP_seek 618 t_law_0 kt_law).1
theorem pcall_s1 {e : Ent} {av : List Value} {M : Mem} {k j : Nat} {K : Option Value → Mem → Prop} (h : e.1 av M) (h2 : e.2 av M = StQ k j M) : pcall e av M K = ∀ M', StQ k j M (some (.int (nI 1))) M' → K (some (.int (nI 1))) M' := propext ⟨fun q M' hS => q.2 _ _ (by rw [h2]; exact hS), fun q => ⟨h, fun r M' hS => by
  rw [h2] at hS
  obtain rfl := hS.1
  exact q M' hS⟩⟩
theorem c_told {M : Mem} {K : Option Value → Mem → Prop} (hP : PI_ M) : pcall e_W_isTold [.ref 16, .ref 174, .ref 175, .ref 176] M K = K (some (.int (nI 1))) M := pcall_ex ⟨rfl, hP⟩ rfl
theorem c_areG {M : Mem} {K : Option Value → Mem → Prop} (hP : PI_ M) : pcall e_W_areGrants [.ref 16, .ref 175, .ref 176] M K = K (some (.int (nI 1))) M := pcall_ex ⟨rfl, hP⟩ rfl
set_option maxRecDepth 100000 in
set_option maxHeartbeats 4000000 in
theorem lp_587_law (Z : Zt) (hz : zn Z ≤ 260) {n0 k : Nat} {M : Mem} {x y z t : Int32} {x12 x13 : Option Value} (hP : PI_ M) (hN : mN M = 177 + 3 * k) (hk : k < 16) (hka : kaM M ≤ k + 1) (hT : aT (mI M 174) = 3) (hgo : ∀ M' x11 x12 x13, LpI (k + 1) M' → X Z 11 s_law n0 225 QL 241 [some (.ref 1), some (.ref 16), some (.ref 174), some (.ref 175), some (.ref 176), some (.int x), some (.int (nI (k + 1))), some (.int y), some (.int z), some (.int t), x11, x12, x13] [] M') : X Z 11 s_law n0 225 QL 587 [some (.ref 1), some (.ref 16), some (.ref 174), some (.ref 175), some (.ref 176), some (.int x), some (.int (nI k)), some (.int y), some (.int z), some (.int t), some (.int (nI 1)), x12, x13] [] M := by
  have h10 := nI_n0 (m := 1) (by omega) (by omega)
  have c1 : ∀ {K : Option Value → Mem → Prop}, pcall e_W_isTold [.ref 16, .ref 174, .ref 175, .ref 176] M K = K (some (.int (nI 1))) M := c_told hP
  have c2 : ∀ {K : Option Value → Mem → Prop}, pcall e_W_areGrants [.ref 16, .ref 175, .ref 176] M K = K (some (.int (nI 1))) M := c_areG hP
  have s618 : X Z 11 s_law n0 225 QL 618 [some (.ref 1), some (.ref 16), some (.ref 174), some (.ref 175), some (.ref 176), some (.int x), some (.int (nI k)), some (.int y), some (.int z), some (.int t), some (.int (nI 1)), x12, x13] [.ref 176, .ref 175, .ref 174, .ref 16] M := by
    refine X_mkS (d := 10) (nF := 225) (av := [.ref 16, .ref 174, .ref 175, .ref 176]) (rest := []) lp_okI618 rfl (of_eq_true wsum_0) (gm_isPlanned Z 2 hP (by omega)) (by omega) (fun r M' hq hn => ?_)
    obtain ⟨rfl, q1, q2, q3⟩ := hq
    have e1 : mI M' 174 = mI M 174 := congrArg (fun T : Tr => T.1) q3
    have e2 : mI M' 175 = mI M 175 := congrArg (fun T : Tr => T.2.1) q3
    have e3 : mI M' 176 = mI M 176 := congrArg (fun T : Tr => T.2.2) q3
    have ek : kaM M' = kaM M := by
      unfold kaM UM
      rw [e1, e2, e3]
    have := hgo M' (some (.int (nI 1))) x12 x13 ⟨q2, by omega, by omega, by rw [e1]; exact hT⟩
    refine X_runT (d := 10) (C := C_law) (S := S_law) (T := t_law_621) 1000 kt_law (okC_law Z hz) ?_
    simp (maxSteps := 3000000) (disch := first | exact True.intro | assumption | omega) only [↓eq_self, Option.toList_some, Option.toList_none, List.nil_append, List.cons_append, wsum_0, wsum_1, wsum_2, wsum_3, wsum_4, lkill, ↓reduceIte, if_true, if_false, Bool.false_eq_true, and_true, true_and, and_self, or_self, true_or, or_true, not_true, not_false_iff, mR_stI, mN_stI, isO_stI, isA_stI, mI_stI, mR_mW, mN_mW, isO_mW, isA_mW, mI_mW, mW_mW, stI_mW, vp_0, nI_add, nI_ltI, nI_leI, nI_eq, vpi, nI_clamp, nI_toN, nI_geT, pk_mul, pk_sub, bv_0n, bv_1n, ↓bv_01n, n01a, n01b, Nat.reduceSub, Nat.reduceAdd, Nat.reduceMul, u2_rw, rw_rw, rw_at, rw_ne, up_at, up_ne, Nat.zero_add, Nat.add_zero, lw_mW, m1_lt0, ite_nt, ↓g_law_621, ↓g_law_624, ↓g_law_626, h10]
    exact this
  refine X_runT (d := 10) (C := C_law) (S := S_law) (T := t_law_587) 1000 kt_law (okC_law Z hz) ?_
  simp (maxSteps := 3000000) (disch := first | exact True.intro | assumption | omega) only [↓eq_self, Option.toList_some, Option.toList_none, List.nil_append, List.cons_append, wsum_0, wsum_1, wsum_2, wsum_3, wsum_4, lkill, ↓reduceIte, if_true, if_false, Bool.false_eq_true, and_true, true_and, and_self, or_self, true_or, or_true, not_true, not_false_iff, mR_stI, mN_stI, isO_stI, isA_stI, mI_stI, mR_mW, mN_mW, isO_mW, isA_mW, mI_mW, mW_mW, stI_mW, vp_0, nI_add, nI_ltI, nI_leI, nI_eq, vpi, nI_clamp, nI_toN, nI_geT, pk_mul, pk_sub, bv_0n, bv_1n, ↓bv_01n, n01a, n01b, Nat.reduceSub, Nat.reduceAdd, Nat.reduceMul, u2_rw, rw_rw, rw_at, rw_ne, up_at, up_ne, Nat.zero_add, Nat.add_zero, lw_mW, m1_lt0, ite_nt, ↓g_law_587, ↓g_law_592, ↓g_law_600, ↓g_law_603, ↓g_law_610, ↓g_law_613, h10, c1, c2]
  exact s618
