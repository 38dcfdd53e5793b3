/-! ===== the law: resources, tenants, the beginning ===== -/
theorem LpA.st {j j2 k : Nat} {M M' : Mem} {r : Option Value} (h : LpA j M) (hS : StQ 0 k M r M') (e : j2 = j + k) : LpA j2 M' := ⟨hS.2.2.1, hS.2.1.trans h.2.1, Nat.le_trans hS.2.2.2.1 h.2.2.1, by rw [hS.2.2.2.2, h.2.2.2, e]⟩
set_option maxRecDepth 100000 in
set_option maxHeartbeats 4000000 in
theorem lp_186_law (Z : Zt) (hz : zn Z ≤ 260) {n0 t : Nat} {x : Int32} (ht : t < 3) (hgo : ∀ M x8, LpA (t + 1) M → X Z 11 s_law n0 225 QL 150 [some (.ref 1), some (.ref 16), some (.ref 174), some (.ref 175), some (.ref 176), some (.int x), some (.int (nI (t + 1))), x8, none, none, none, none, none] [] M) : ∀ n r M, r + n = 4 → LpA (t + 1) M → X Z 11 s_law n0 225 QL 186 [some (.ref 1), some (.ref 16), some (.ref 174), some (.ref 175), some (.ref 176), some (.int x), some (.int (nI t)), some (.int (nI r)), none, none, none, none, none] [] M := by
  have h10 := nI_n0 (m := 1) (by omega) (by omega)
  have hlo : ∀ {v : Int32} {m : Nat} {M : Mem} {K : Option Value → Mem → Prop}, 0 < m → m < 2 ^ 31 → pcall e_W_low [.int v, .int (nI m)] M K = K (some (.int (nI (lowF v m)))) M := fun h h2 => pc_W_low h h2
  have hce : ∀ {k : Nat} {M : Mem} {K : Option Value → Mem → Prop}, k < 1000 → pcall e_W_cell [.ref 1, .int (nI k)] M K = ∀ v : Int32, K (some (.int v)) M := fun h => pc_W_cell h
  intro n
  induction n with
  | zero =>
    intro r M hi hI
    obtain rfl : r = 4 := by omega
    have := hgo M (some (.int (nI 4))) hI
    refine X_runT (d := 10) (C := C_law) (S := S_law) (T := t_law_186) 1000 kt_law (okC_law Z hz) ?_
    simp (maxSteps := 3000000) (disch := first | exact True.intro | assumption | omega) only [↓eq_self, Option.toList_some, Option.toList_none, List.nil_append, List.cons_append, wsum_0, wsum_1, wsum_2, wsum_3, wsum_4, lkill, ↓reduceIte, if_true, if_false, Bool.false_eq_true, and_true, true_and, and_self, or_self, true_or, or_true, not_true, not_false_iff, mR_stI, mN_stI, isO_stI, isA_stI, mI_stI, mR_mW, mN_mW, isO_mW, isA_mW, mI_mW, mW_mW, stI_mW, vp_0, nI_add, nI_ltI, nI_leI, nI_eq, vpi, nI_clamp, nI_toN, nI_geT, pk_mul, pk_sub, bv_0n, bv_1n, ↓bv_01n, n01a, n01b, Nat.reduceSub, Nat.reduceAdd, Nat.reduceMul, u2_rw, rw_rw, rw_at, rw_ne, up_at, up_ne, Nat.zero_add, Nat.add_zero, lw_mW, m1_lt0, ite_nt, ↓g_law_186, ↓g_law_232, Nat.le_refl]
    exact this
  | succ n ih =>
    intro r M hi hI
    have h1 : ¬ 4 ≤ r := by omega
    have hT := hI.2.2.2
    have cl : ∀ {v : Nat} {K : Option Value → Mem → Prop}, v < 10000 → pcall e_W_setsLimit [.ref 16, .ref 174, .ref 175, .int (nI t), .int (nI r), .int (nI v)] M K = ∀ M', StQ 0 0 M (some (.int (nI 1))) M' → K (some (.int (nI 1))) M' := fun h2 => pcall_s1 ⟨t, _, _, by omega, by omega, h2, rfl, hI.1⟩ rfl
    refine X_runT (d := 10) (C := C_law) (S := S_law) (T := t_law_186) 1000 kt_law (okC_law Z hz) ?_
    simp (maxSteps := 3000000) (disch := first | exact True.intro | assumption | omega) only [↓eq_self, Option.toList_some, Option.toList_none, List.nil_append, List.cons_append, wsum_0, wsum_1, wsum_2, wsum_3, wsum_4, lkill, ↓reduceIte, if_true, if_false, Bool.false_eq_true, and_true, true_and, and_self, or_self, true_or, or_true, not_true, not_false_iff, mR_stI, mN_stI, isO_stI, isA_stI, mI_stI, mR_mW, mN_mW, isO_mW, isA_mW, mI_mW, mW_mW, stI_mW, vp_0, nI_add, nI_ltI, nI_leI, nI_eq, vpi, nI_clamp, nI_toN, nI_geT, pk_mul, pk_sub, bv_0n, bv_1n, ↓bv_01n, n01a, n01b, Nat.reduceSub, Nat.reduceAdd, Nat.reduceMul, u2_rw, rw_rw, rw_at, rw_ne, up_at, up_ne, Nat.zero_add, Nat.add_zero, lw_mW, m1_lt0, ite_nt, ↓g_law_186, ↓g_law_192, ↓g_law_207, h1, hlo, hce]
    refine ⟨by simp [wsum, Value.category], fun v => ?_⟩
    have hv := lowF_lt (v >>> (nI (6 * r) &&& 31)) (m := 60) (by omega)
    simp (maxSteps := 3000000) (disch := first | exact True.intro | assumption | omega) only [↓eq_self, Option.toList_some, Option.toList_none, List.nil_append, List.cons_append, wsum_0, wsum_1, wsum_2, wsum_3, wsum_4, lkill, ↓reduceIte, if_true, if_false, Bool.false_eq_true, and_true, true_and, and_self, or_self, true_or, or_true, not_true, not_false_iff, mR_stI, mN_stI, isO_stI, isA_stI, mI_stI, mR_mW, mN_mW, isO_mW, isA_mW, mI_mW, mW_mW, stI_mW, vp_0, nI_add, nI_ltI, nI_leI, nI_eq, vpi, nI_clamp, nI_toN, nI_geT, pk_mul, pk_sub, bv_0n, bv_1n, ↓bv_01n, n01a, n01b, Nat.reduceSub, Nat.reduceAdd, Nat.reduceMul, u2_rw, rw_rw, rw_at, rw_ne, up_at, up_ne, Nat.zero_add, Nat.add_zero, lw_mW, m1_lt0, ite_nt, ↓g_law_207, ↓g_law_218, ↓g_law_221, ↓g_law_224, ↓g_law_226, h10, hlo, cl]
    refine ⟨by simp [wsum, Value.category], fun M' hS => ?_⟩
    exact ih (r + 1) M' (by omega) (hI.st hS rfl)
set_option maxRecDepth 100000 in
set_option maxHeartbeats 4000000 in
theorem lp_150_law (Z : Zt) (hz : zn Z ≤ 260) {n0 : Nat} {x : Int32} : ∀ n t M x8, t + n = 3 → LpA t M → X Z 11 s_law n0 225 QL 150 [some (.ref 1), some (.ref 16), some (.ref 174), some (.ref 175), some (.ref 176), some (.int x), some (.int (nI t)), x8, none, none, none, none, none] [] M := by
  have h10 := nI_n0 (m := 1) (by omega) (by omega)
  have hlo : ∀ {v : Int32} {m : Nat} {M : Mem} {K : Option Value → Mem → Prop}, 0 < m → m < 2 ^ 31 → pcall e_W_low [.int v, .int (nI m)] M K = K (some (.int (nI (lowF v m)))) M := fun h h2 => pc_W_low h h2
  have hce : ∀ {k : Nat} {M : Mem} {K : Option Value → Mem → Prop}, k < 1000 → pcall e_W_cell [.ref 1, .int (nI k)] M K = ∀ v : Int32, K (some (.int v)) M := fun h => pc_W_cell h
  intro n
  induction n with
  | zero =>
    intro t M x8 hi hI
    obtain rfl : t = 3 := by omega
    obtain ⟨h1, h2, h3, h4⟩ := hI
    have := lp_241_law Z hz (n0 := n0) (x := x) 16 0 M x8 none none none none none (by omega) ⟨h1, h2, h3, h4⟩
    refine X_runT (d := 10) (C := C_law) (S := S_law) (T := t_law_150) 1000 kt_law (okC_law Z hz) ?_
    simp (maxSteps := 3000000) (disch := first | exact True.intro | assumption | omega) only [↓eq_self, Option.toList_some, Option.toList_none, List.nil_append, List.cons_append, wsum_0, wsum_1, wsum_2, wsum_3, wsum_4, lkill, ↓reduceIte, if_true, if_false, Bool.false_eq_true, and_true, true_and, and_self, or_self, true_or, or_true, not_true, not_false_iff, mR_stI, mN_stI, isO_stI, isA_stI, mI_stI, mR_mW, mN_mW, isO_mW, isA_mW, mI_mW, mW_mW, stI_mW, vp_0, nI_add, nI_ltI, nI_leI, nI_eq, vpi, nI_clamp, nI_toN, nI_geT, pk_mul, pk_sub, bv_0n, bv_1n, ↓bv_01n, n01a, n01b, Nat.reduceSub, Nat.reduceAdd, Nat.reduceMul, u2_rw, rw_rw, rw_at, rw_ne, up_at, up_ne, Nat.zero_add, Nat.add_zero, lw_mW, m1_lt0, ite_nt, ↓g_law_150, ↓g_law_238, Nat.le_refl]
    exact this
  | succ n ih =>
    intro t M x8 hi hI
    have h1 : ¬ 3 ≤ t := by omega
    have hT := hI.2.2.2
    have ca : ∀ {v : Nat} {K : Option Value → Mem → Prop}, 1 ≤ v → v < 10 → pcall e_W_addsTenant [.ref 16, .ref 174, .int (nI v)] M K = ∀ M', StQ 0 1 M (some (.int (nI 1))) M' → K (some (.int (nI 1))) M' := fun h h2 => pcall_s1 ⟨_, h, h2, by omega, rfl, hI.1⟩ rfl
    refine X_runT (d := 10) (C := C_law) (S := S_law) (T := t_law_150) 1000 kt_law (okC_law Z hz) ?_
    simp (maxSteps := 3000000) (disch := first | exact True.intro | assumption | omega) only [↓eq_self, Option.toList_some, Option.toList_none, List.nil_append, List.cons_append, wsum_0, wsum_1, wsum_2, wsum_3, wsum_4, lkill, ↓reduceIte, if_true, if_false, Bool.false_eq_true, and_true, true_and, and_self, or_self, true_or, or_true, not_true, not_false_iff, mR_stI, mN_stI, isO_stI, isA_stI, mI_stI, mR_mW, mN_mW, isO_mW, isA_mW, mI_mW, mW_mW, stI_mW, vp_0, nI_add, nI_ltI, nI_leI, nI_eq, vpi, nI_clamp, nI_toN, nI_geT, pk_mul, pk_sub, bv_0n, bv_1n, ↓bv_01n, n01a, n01b, Nat.reduceSub, Nat.reduceAdd, Nat.reduceMul, u2_rw, rw_rw, rw_at, rw_ne, up_at, up_ne, Nat.zero_add, Nat.add_zero, lw_mW, m1_lt0, ite_nt, ↓g_law_150, ↓g_law_156, ↓g_law_164, h1, hlo, hce]
    intro v
    have hv := lowF_lt (v >>> (nI (4 * t) &&& 31)) (m := 9) (by omega)
    simp (maxSteps := 3000000) (disch := first | exact True.intro | assumption | omega) only [↓eq_self, Option.toList_some, Option.toList_none, List.nil_append, List.cons_append, wsum_0, wsum_1, wsum_2, wsum_3, wsum_4, lkill, ↓reduceIte, if_true, if_false, Bool.false_eq_true, and_true, true_and, and_self, or_self, true_or, or_true, not_true, not_false_iff, mR_stI, mN_stI, isO_stI, isA_stI, mI_stI, mR_mW, mN_mW, isO_mW, isA_mW, mI_mW, mW_mW, stI_mW, vp_0, nI_add, nI_ltI, nI_leI, nI_eq, vpi, nI_clamp, nI_toN, nI_geT, pk_mul, pk_sub, bv_0n, bv_1n, ↓bv_01n, n01a, n01b, Nat.reduceSub, Nat.reduceAdd, Nat.reduceMul, u2_rw, rw_rw, rw_at, rw_ne, up_at, up_ne, Nat.zero_add, Nat.add_zero, lw_mW, m1_lt0, ite_nt, ↓g_law_174, ↓g_law_178, ↓g_law_181, ↓g_law_183, h10, ca]
    intro M' hS
    exact lp_186_law Z hz (by omega) (fun M x8 h => ih (t + 1) M x8 (by omega) h) 4 0 M' (by omega) (hI.st hS rfl)
set_option maxRecDepth 100000 in
set_option maxHeartbeats 4000000 in
theorem lp_108_law (Z : Zt) (hz : zn Z ≤ 260) {n0 : Nat} {x : Int32} : ∀ n r M, r + n = 4 → LpA 0 M → X Z 11 s_law n0 225 QL 108 [some (.ref 1), some (.ref 16), some (.ref 174), some (.ref 175), some (.ref 176), some (.int x), some (.int (nI r)), none, none, none, none, none, none] [] M := by
  have h10 := nI_n0 (m := 1) (by omega) (by omega)
  have hlo : ∀ {v : Int32} {m : Nat} {M : Mem} {K : Option Value → Mem → Prop}, 0 < m → m < 2 ^ 31 → pcall e_W_low [.int v, .int (nI m)] M K = K (some (.int (nI (lowF v m)))) M := fun h h2 => pc_W_low h h2
  intro n
  induction n with
  | zero =>
    intro r M hi hI
    obtain rfl : r = 4 := by omega
    have := lp_150_law Z hz (n0 := n0) (x := x) 3 0 M none (by omega) hI
    refine X_runT (d := 10) (C := C_law) (S := S_law) (T := t_law_108) 1000 kt_law (okC_law Z hz) ?_
    simp (maxSteps := 3000000) (disch := first | exact True.intro | assumption | omega) only [↓eq_self, Option.toList_some, Option.toList_none, List.nil_append, List.cons_append, wsum_0, wsum_1, wsum_2, wsum_3, wsum_4, lkill, ↓reduceIte, if_true, if_false, Bool.false_eq_true, and_true, true_and, and_self, or_self, true_or, or_true, not_true, not_false_iff, mR_stI, mN_stI, isO_stI, isA_stI, mI_stI, mR_mW, mN_mW, isO_mW, isA_mW, mI_mW, mW_mW, stI_mW, vp_0, nI_add, nI_ltI, nI_leI, nI_eq, vpi, nI_clamp, nI_toN, nI_geT, pk_mul, pk_sub, bv_0n, bv_1n, ↓bv_01n, n01a, n01b, Nat.reduceSub, Nat.reduceAdd, Nat.reduceMul, u2_rw, rw_rw, rw_at, rw_ne, up_at, up_ne, Nat.zero_add, Nat.add_zero, lw_mW, m1_lt0, ite_nt, ↓g_law_108, ↓g_law_147, Nat.le_refl]
    exact this
  | succ n ih =>
    intro r M hi hI
    have h1 : ¬ 4 ≤ r := by omega
    have cr : ∀ {v : Nat} {K : Option Value → Mem → Prop}, v < 1000 → pcall e_W_setsResource [.ref 16, .ref 174, .ref 175, .int (nI r), .int (nI 0), .int (nI v)] M K = ∀ M', StQ 0 0 M (some (.int (nI 1))) M' → K (some (.int (nI 1))) M' := fun h2 => pcall_s1 ⟨_, _, by omega, h2, rfl, hI.1⟩ rfl
    have hv := lowF_lt (x >>> (nI (6 * r) &&& 31)) (m := 80) (by omega)
    refine X_runT (d := 10) (C := C_law) (S := S_law) (T := t_law_108) 1000 kt_law (okC_law Z hz) ?_
    simp (maxSteps := 3000000) (disch := first | exact True.intro | assumption | omega) only [↓eq_self, Option.toList_some, Option.toList_none, List.nil_append, List.cons_append, wsum_0, wsum_1, wsum_2, wsum_3, wsum_4, lkill, ↓reduceIte, if_true, if_false, Bool.false_eq_true, and_true, true_and, and_self, or_self, true_or, or_true, not_true, not_false_iff, mR_stI, mN_stI, isO_stI, isA_stI, mI_stI, mR_mW, mN_mW, isO_mW, isA_mW, mI_mW, mW_mW, stI_mW, vp_0, nI_add, nI_ltI, nI_leI, nI_eq, vpi, nI_clamp, nI_toN, nI_geT, pk_mul, pk_sub, bv_0n, bv_1n, ↓bv_01n, n01a, n01b, Nat.reduceSub, Nat.reduceAdd, Nat.reduceMul, u2_rw, rw_rw, rw_at, rw_ne, up_at, up_ne, Nat.zero_add, Nat.add_zero, lw_mW, m1_lt0, ite_nt, ↓g_law_108, ↓g_law_114, ↓g_law_133, ↓g_law_136, ↓g_law_139, ↓g_law_141, h1, h10, hlo, cr]
    refine ⟨by simp [wsum, Value.category], fun M' hS => ?_⟩
    exact ih (r + 1) M' (by omega) (hI.st hS rfl)
set_option maxRecDepth 100000 in
set_option maxHeartbeats 4000000 in
theorem lp_29_law (Z : Zt) (hz : zn Z ≤ 260) {n0 : Nat} {M : Mem} (hI : LpA 0 M) (hh : hs (mI M) = 0) (hg : wn (mI M 175) = 0) (hy : wn (mI M 176) = 0) : run Z 225 C_law S_law (fun pc lv st M' => X Z 11 s_law n0 225 QL pc lv st M') QL 986 t_law_29 [some (.ref 1), some (.ref 16), some (.ref 174), some (.ref 175), some (.ref 176), none, none, none, none, none, none, none, none] [] M := by
  obtain ⟨hP, hN, hka, hT⟩ := hI
  have hB := hP.1.1
  have h10 := nI_n0 (m := 1) (by omega) (by omega)
  have hce : ∀ {k : Nat} {M : Mem} {K : Option Value → Mem → Prop}, k < 1000 → pcall e_W_cell [.ref 1, .int (nI k)] M K = ∀ v : Int32, K (some (.int v)) M := fun h => pc_W_cell h
  obtain ⟨a1, a2⟩ := fs_gr hP hT
  have c1 : ∀ {K : Option Value → Mem → Prop}, pcall e_B_grant [.ref 16] M K = K (some (.int (-1000001))) M := fun {K} => by rw [pc_B_grant (o := 16) ⟨rfl, hP.1⟩, a1, a2]
  obtain ⟨b1, b2⟩ := fs_dm hP hT
  have c2 : ∀ {K : Option Value → Mem → Prop}, pcall e_B_demand [.ref 16, .int (nI 0)] M K = K (some (.int (-1000000))) M := fun {K} => by rw [pc_B_demand (o := 16) ⟨rfl, hP.1⟩, b1, b2]
  obtain ⟨d1, d2⟩ := rl_bad (n := nI 0) hP (fun k hk => by omega)
  have c3 : ∀ {K : Option Value → Mem → Prop}, pcall e_B_release [.ref 16, .int (nI 0)] M K = K (some (.int (-1000000))) M := fun {K} => by rw [pc_B_release (o := 16) ⟨rfl, hP.1⟩, d1, d2]
  obtain ⟨f1, f2⟩ := fs_wd hP hT
  have c4 : ∀ {K : Option Value → Mem → Prop}, pcall e_B_withdraw [.ref 16, .int (nI 0)] M K = K (some (.int (-1000000))) M := fun {K} => by rw [pc_B_withdraw (o := 16) ⟨rfl, hP.1⟩, f1, f2]
  obtain ⟨g1, g2⟩ := fs_ud hh
  have c5 : ∀ {K : Option Value → Mem → Prop}, pcall e_B_undo [.ref 16] M K = K (some (.int (-1000001))) M := fun {K} => by rw [pc_B_undo (o := 16) ⟨rfl, hP.1⟩, g1, g2]
  have p1 := fs_pl hP hy
  have c6 : ∀ {K : Option Value → Mem → Prop}, pcall e_B_plan [.ref 16, .int (-1)] M K = K (some (.int (nI 0))) (plM M (-1)) := fun {K} => by rw [pc_B_plan (o := 16) ⟨rfl, hP.1⟩, p1]
  obtain ⟨q1, q2, q3⟩ := PI_pl hP (-1)
  generalize plM M (-1) = M2 at *
  have e1 : mI M2 174 = mI M 174 := congrArg (fun T : Tr => T.1) q2
  have e2 : mI M2 175 = mI M 175 := congrArg (fun T : Tr => T.2.1) q2
  have e3 : mI M2 176 = mI M 176 := congrArg (fun T : Tr => T.2.2) q2
  have ek : kaM M2 = kaM M := by
    unfold kaM UM
    rw [e1, e2, e3]
  have hA2 : LpA 0 M2 := ⟨q1, q3.trans hN, by rw [ek]; exact hka, by rw [e1]; exact hT⟩
  have c7 : ∀ {K : Option Value → Mem → Prop}, pcall e_W_isTold [.ref 16, .ref 174, .ref 175, .ref 176] M2 K = K (some (.int (nI 1))) M2 := c_told q1
  have h00 : (nI 0 = nI 0) = True := eq_self _
  have hy2 := fun x => lp_108_law Z hz (n0 := n0) (x := x) 4 0 M2 (by omega) hA2
  simp (maxSteps := 3000000) (disch := first | exact True.intro | assumption | omega) only [↓eq_self, Option.toList_some, Option.toList_none, List.nil_append, List.cons_append, wsum_0, wsum_1, wsum_2, wsum_3, wsum_4, lkill, ↓reduceIte, if_true, if_false, Bool.false_eq_true, and_true, true_and, and_self, or_self, true_or, or_true, not_true, not_false_iff, mR_stI, mN_stI, isO_stI, isA_stI, mI_stI, mR_mW, mN_mW, isO_mW, isA_mW, mI_mW, mW_mW, stI_mW, vp_0, nI_add, nI_ltI, nI_leI, nI_eq, vpi, nI_clamp, nI_toN, nI_geT, pk_mul, pk_sub, bv_0n, bv_1n, ↓bv_01n, n01a, n01b, Nat.reduceSub, Nat.reduceAdd, Nat.reduceMul, u2_rw, rw_rw, rw_at, rw_ne, up_at, up_ne, Nat.zero_add, Nat.add_zero, lw_mW, m1_lt0, ite_nt, ↓g_law_29, ↓g_law_33, ↓g_law_38, ↓g_law_43, ↓g_law_48, ↓g_law_53, ↓g_law_58, ↓g_law_63, ↓g_law_68, ↓g_law_72, ↓g_law_77, ↓g_law_82, ↓g_law_85, ↓g_law_93, ↓g_law_96, ↓g_law_98, ↓g_law_103, h10, h00, c1, c2, c3, c4, c5, c6, c7, hce, bk_oB hB]
  exact hy2
set_option maxRecDepth 100000 in
set_option maxHeartbeats 4000000 in
theorem lp_law_0 (Z : Zt) (hz : zn Z ≤ 260) {M : Mem} (hn : mN M = 16) : X Z 11 s_law 16 225 QL 0 [some (.ref 1), none, none, none, none, none, none, none, none, none, none, none, none] [] M := by
  have k16 : kd 16 = (4 + 3, cW 4) := by rfl
  have k174 : kd 174 = (1, 64) := kd_L (by omega) (by omega)
  have k175 : kd 175 = (1, 64) := kd_L (by omega) (by omega)
  have k176 : kd 176 = (1, 64) := kd_L (by omega) (by omega)
  refine X_runT (d := 10) (C := C_law) (S := S_law) (T := t_law_0) 1000 kt_law (okC_law Z hz) ?_
  rw [g_law_0, hn]
  refine ⟨⟨k16, by omega⟩, ?_⟩
  refine X_mkI (d := 10) (nF := 225) (av := []) (rest := [.ref 16]) lp_okI4 (by omega) rfl (of_eq_true (wsum_1 _)) (ok_B_init_ Z 6 (M := al M) (by rw [mN_al, hn]) (fun y => by rw [mI_al, hn, if_pos rfl])) (by omega) (fun r M1 hq hn1 => ?_)
  obtain ⟨rfl, hq1⟩ := hq
  refine X_runT (d := 10) (C := C_law) (S := S_law) (T := t_law_7) 1000 kt_law (okC_law Z hz) ?_
  show run Z 225 C_law S_law _ QL 1000 t_law_7 [some (.ref 1), none, none, none, none, none, none, none, none, none, none, none, none] [.ref 16] M1
  have n1 : mN (al M1) = 175 := by rw [mN_al, hn1]
  have n2 : mN (al (al M1)) = 176 := by rw [mN_al, n1]
  have n3 : mN (al (al (al M1))) = 177 := by rw [mN_al, n2]
  rw [g_law_7, hn1, n1]
  refine ⟨64, ⟨rfl, k174, by omega, by omega⟩, 64, ⟨rfl, k175, by omega, by omega⟩, ?_⟩
  rw [g_law_17, n2]
  refine ⟨64, ⟨rfl, k176, by omega, by omega⟩, ⟨by omega, by rw [k174], by rw [k174]; exact vp_in_nI (by omega) (by omega)⟩, ?_⟩
  have hI : ∀ x y, mI (al (al (al M1))) x y = if x = 176 then 0 else if x = 175 then 0 else if x = 174 then 0 else mI M1 x y := fun x y => by rw [mI_al, n2, mI_al, n1, mI_al, hn1]
  have hR : ∀ x y, mR (al (al (al M1))) x y = if x = 176 then 0 else if x = 175 then 0 else if x = 174 then 0 else mR M1 x y := fun x y => by rw [mR_al, n2, mR_al, n1, mR_al, hn1]
  obtain ⟨h1, h2, h3, h4⟩ := PI_0 (M1 := M1) (M2 := stI (al (al (al M1))) 174 46 (nI 3)) hq1 n3 (fun x y hx => by rw [mI_stI, u2_ne (by omega), hI, if_neg (by omega), if_neg (by omega), if_neg (by omega)]) (fun x y hx => by rw [mR_stI, hR, if_neg (by omega), if_neg (by omega), if_neg (by omega)]) (funext fun y => by
    rw [mI_stI]
    by_cases z : y = 46
    · rw [z, u2_eq]
      rfl
    · rw [u2_nn (fun q => z q.2), hI, if_neg (by omega), if_neg (by omega), if_pos rfl, a46_0 z]) (funext fun y => by rw [mI_stI, u2_ne (by omega), hI, if_neg (by omega), if_pos rfl]) (funext fun y => by rw [mI_stI, u2_ne (by omega), hI, if_pos rfl])
  have e46 : (nI 46).toNatClampNeg = 46 := nI_clamp (by omega)
  rw [e46]
  exact lp_29_law Z hz h1 h2 h3 h4
