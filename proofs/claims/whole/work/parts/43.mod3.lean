/-! the model: what changes its row -/
theorem tN_of {v : Int32} {s : Nat} (h : v = nI s) (hs : s < 2 ^ 31) : v.toNatClampNeg = s := by rw [h, nI_clamp hs]
theorem MdD_cg {u w : Nat → Int32} (h : MdD u) (h1 : w 447 = u 447) (h2 : w 448 = u 448) (h3 : w 449 = u 449) (h4 : w 450 = u 450) : MdD w := by
  unfold MdD uT uG uD uB at *
  rw [h1, h2, h3, h4]
  exact h
theorem MdD_t {u w : Nat → Int32} {s : Nat} (h : MdD u) (h1 : w 447 = nI s) (hs : s ≤ 6) (h2 : w 448 = u 448) (h3 : w 449 = u 449) (h4 : w 450 = u 450) : MdD w := by
  have e : uT w = s := tN_of h1 (by omega)
  refine ⟨⟨by rw [e, h1], by rw [e]; exact hs⟩, ?_⟩
  have := h.2
  unfold uG uD uB at *
  rw [h2, h3, h4]
  exact this
theorem MdD_g {u w : Nat → Int32} {s : Nat} (h : MdD u) (h1 : w 447 = u 447) (h2 : w 448 = nI s) (hs : s ≤ 40) (h3 : w 449 = u 449) (h4 : w 450 = u 450) : MdD w := by
  have e : uG w = s := tN_of h2 (by omega)
  have a := h.1
  have b := h.2.2
  refine ⟨?_, ⟨by rw [e, h2], by rw [e]; exact hs⟩, ?_⟩
  · unfold uT at *
    rw [h1]
    exact a
  · unfold uD uB at *
    rw [h3, h4]
    exact b
theorem MdD_d {u w : Nat → Int32} {s : Nat} (h : MdD u) (h1 : w 447 = u 447) (h2 : w 448 = u 448) (h3 : w 449 = nI s) (hs : s ≤ 24) (h4 : w 450 = u 450) : MdD w := by
  have e : uD w = s := tN_of h3 (by omega)
  obtain ⟨a, b, -, c⟩ := h
  refine ⟨?_, ?_, ⟨by rw [e, h3], by rw [e]; exact hs⟩, ?_⟩
  · unfold uT at *
    rw [h1]
    exact a
  · unfold uG at *
    rw [h2]
    exact b
  · unfold uB at *
    rw [h4]
    exact c
theorem MdD_b {u w : Nat → Int32} {s : Nat} (h : MdD u) (h1 : w 447 = u 447) (h2 : w 448 = u 448) (h3 : w 449 = u 449) (h4 : w 450 = nI s) (hs : s ≤ 6) : MdD w := by
  have e : uB w = s := tN_of h4 (by omega)
  obtain ⟨a, b, c, -⟩ := h
  refine ⟨?_, ?_, ?_, ⟨by rw [e, h4], by rw [e]; exact hs⟩⟩
  · unfold uT at *
    rw [h1]
    exact a
  · unfold uG at *
    rw [h2]
    exact b
  · unfold uD at *
    rw [h3]
    exact c
def ldP (u : Nat → Int32) (k i : Nat) : Nat → Int32 := fun y => if y = 449 then nI (uD u - 1) else if 320 + 5 * k ≤ y ∧ y < i then u (y + 5) else u y
def ldU (u : Nat → Int32) (k : Nat) : Nat → Int32 := ldP u k (320 + 5 * (uD u - 1))
theorem ldP_0 (u : Nat → Int32) (k : Nat) : upF u 449 (nI (uD u - 1)) = ldP u k (320 + 5 * k) := by
  funext y
  unfold upF ldP
  by_cases h : y = 449
  · rw [if_pos h, if_pos h]
  · rw [if_neg h, if_neg h, if_neg (by omega)]
theorem ldP_s {u : Nat → Int32} {k i : Nat} (h1 : 320 + 5 * k ≤ i) (h2 : i < 440) : upF (ldP u k i) i (u (i + 5)) = ldP u k (i + 1) := by
  funext y
  unfold upF ldP
  by_cases h : y = i
  · rw [if_pos h, if_neg (by omega), if_pos (by omega), h]
  · rw [if_neg h]
    by_cases h3 : y = 449
    · rw [if_pos h3, if_pos h3]
    · rw [if_neg h3, if_neg h3]
      by_cases h4 : 320 + 5 * k ≤ y ∧ y < i
      · rw [if_pos h4, if_pos (by omega)]
      · rw [if_neg h4, if_neg (by omega)]
theorem ldP_c (u : Nat → Int32) (k i : Nat) : ldP u k i 449 = nI (uD u - 1) := if_pos rfl
theorem ldP_r {u : Nat → Int32} {k i j : Nat} (h : i ≤ j) (h2 : j < 449) : ldP u k i j = u j := by
  unfold ldP
  rw [if_neg (by omega), if_neg (by omega)]
def e_M_leavesDemand : Ent := (fun av M => ∃ (o : Nat) (k : Nat), av = [.ref o, .int (nI k)] ∧ k < 2 ^ 31 ∧ (o = 174 ∧ MO M ∧ k < uD (mI M 175)), fun av M r_ M_ => ∀ (o : Nat) (k : Nat), k < 2 ^ 31 → av = [.ref o, .int (nI k)] → r_ = (none) ∧ M_ = (mW M (rwF (mI M) 175 (ldU (mI M 175) k))))
theorem pc_M_leavesDemand {o : Nat} {k : Nat} {M : Mem} {K : Option Value → Mem → Prop} (hp : o = 174 ∧ MO M ∧ k < uD (mI M 175)) (h_k : k < 2 ^ 31) : pcall e_M_leavesDemand [.ref o, .int (nI k)] M K = K (none) (mW M (rwF (mI M) 175 (ldU (mI M 175) k))) := propext ⟨fun h => h.2 _ _ (fun o' k' h_k' e => by simp only [List.cons.injEq, Value.ref.injEq, Value.int.injEq, Value.long.injEq, and_true] at e; obtain ⟨q0, q1⟩ := e; obtain rfl := q0; obtain rfl := (nI_eq h_k h_k').mp q1; exact ⟨rfl, rfl⟩), fun h => ⟨⟨o, k, rfl, h_k, hp⟩, fun r_ M_ q => by obtain ⟨rfl, rfl⟩ := q _ _ h_k rfl; exact h⟩⟩
theorem mk_M_leavesDemand {Z : Zt} {d : Nat} (h : ∀ (o : Nat) (k : Nat) (M : Mem), k < 2 ^ 31 → (o = 174 ∧ MO M ∧ k < uD (mI M 175)) → Gm Z d s_M_leavesDemand [.ref o, .int (nI k)] M (ex (none) (mW M (rwF (mI M) 175 (ldU (mI M 175) k))))) : okE Z d i_M_leavesDemand e_M_leavesDemand := by
  rintro av M ⟨o, k, rfl, h_k, hp⟩
  exact Gm.cons (h o k M h_k hp) (fun r_ M_ q o' k' h_k' e => by simp only [List.cons.injEq, Value.ref.injEq, Value.int.injEq, Value.long.injEq, and_true] at e; obtain ⟨q0, q1⟩ := e; obtain rfl := q0; obtain rfl := (nI_eq h_k h_k').mp q1; exact q)
def C_M_leavesDemand : List (Nat × Ent) := []
abbrev S_M_leavesDemand : List Nat := [20]
def t_M_leavesDemand_58 : List PI := (58, 9, 5, 0, 0, 0, []) :: []
def t_M_leavesDemand_38 : List PI := (38, 1, 1, 0, 0, 0, []) :: (39, 8, 1, 5, 0, 0, [7]) :: (42, 1, 0, 2, 0, 0, []) :: (43, 1, 1, 0, 0, 0, []) :: (44, 8, 1, 5, 0, 0, [7]) :: (47, 1, 0, 2, 0, 0, []) :: (48, 0, 0, 0, 0, 5, []) :: (49, 2, 0, 0, 0, 0, []) :: (50, 8, 4, 0, 0, 0, []) :: (51, 10, 4, 0, 0, 0, []) :: (52, 1, 6, 2, 0, 1, []) :: (55, 6, 0, 20, 0, 0, []) :: t_M_leavesDemand_58
def t_M_leavesDemand_20 : List PI := (20, 1, 0, 2, 0, 0, []) :: (21, 0, 0, 0, 2, 320, []) :: (24, 0, 0, 0, 0, 5, []) :: (25, 1, 1, 0, 0, 0, []) :: (26, 8, 1, 5, 0, 0, [7]) :: (29, 0, 0, 0, 2, 449, []) :: (32, 8, 4, 0, 0, 0, []) :: (33, 2, 2, 0, 0, 0, []) :: (34, 2, 0, 0, 0, 0, []) :: (35, 4, 3, 58, 0, 0, []) :: t_M_leavesDemand_38
def t_M_leavesDemand_0 : List PI := (0, 1, 1, 0, 0, 0, []) :: (1, 8, 1, 5, 0, 0, [7]) :: (4, 0, 0, 0, 2, 449, []) :: (7, 7, 1, 0, 0, 0, []) :: (8, 8, 4, 0, 0, 0, []) :: (9, 0, 0, 0, 0, 1, []) :: (10, 2, 1, 0, 0, 0, []) :: (11, 10, 4, 0, 0, 0, []) :: (12, 0, 0, 0, 2, 320, []) :: (15, 0, 0, 0, 0, 5, []) :: (16, 1, 0, 1, 0, 0, []) :: (17, 2, 2, 0, 0, 0, []) :: (18, 2, 0, 0, 0, 0, []) :: (19, 1, 3, 2, 0, 0, []) :: t_M_leavesDemand_20
theorem kt_M_leavesDemand : okP s_M_leavesDemand t_M_leavesDemand_0 := k_M_leavesDemand
theorem g_M_leavesDemand_0 {Z : Zt} {nF f : Nat} {Kx : Nat → Kt} {Q : Option Value → Mem → Prop} {M : Mem} {x1 : Nat} {x2 : Int32} : run Z nF C_M_leavesDemand S_M_leavesDemand Kx Q (f + 14) t_M_leavesDemand_0 [some (.ref (x1)), some (.int (x2)), none] [] M = (isO (M) (x1) 5 ∧ isA (M) (mR (M) (x1) 0) ((nI 449)) ∧ isA (M) (mR (M) (x1) 0) ((nI 449)) ∧ Kx 20 [some (.ref (x1)), some (.int (x2)), some (.int (((nI 320)) + (((nI 5)) * (x2))))] [] (stI (M) (mR (M) (x1) 0) (Int32.toNatClampNeg ((nI 449))) ((mI (M) (mR (M) (x1) 0) (Int32.toNatClampNeg ((nI 449)))) - ((nI 1))))) := rfl
theorem g_M_leavesDemand_20 {Z : Zt} {nF f : Nat} {Kx : Nat → Kt} {Q : Option Value → Mem → Prop} {M : Mem} {x1 : Nat} {x2 : Int32} {x3 : Int32} : run Z nF C_M_leavesDemand S_M_leavesDemand Kx Q (f + 10) t_M_leavesDemand_20 [some (.ref (x1)), some (.int (x2)), some (.int (x3))] [] M = (isO (M) (x1) 5 ∧ isA (M) (mR (M) (x1) 0) ((nI 449)) ∧ (if (((nI 320)) + (((nI 5)) * (mI (M) (mR (M) (x1) 0) (Int32.toNatClampNeg ((nI 449)))))) ≤ (x3) then run Z nF C_M_leavesDemand S_M_leavesDemand Kx Q f t_M_leavesDemand_58 [some (.ref (x1)), some (.int (x2)), some (.int (x3))] [] (M) else run Z nF C_M_leavesDemand S_M_leavesDemand Kx Q f t_M_leavesDemand_38 [some (.ref (x1)), some (.int (x2)), some (.int (x3))] [] (M))) := rfl
theorem g_M_leavesDemand_38 {Z : Zt} {nF f : Nat} {Kx : Nat → Kt} {Q : Option Value → Mem → Prop} {M : Mem} {x1 : Nat} {x2 : Int32} {x3 : Int32} : run Z nF C_M_leavesDemand S_M_leavesDemand Kx Q (f + 12) t_M_leavesDemand_38 [some (.ref (x1)), some (.int (x2)), some (.int (x3))] [] M = (isO (M) (x1) 5 ∧ isO (M) (x1) 5 ∧ isA (M) (mR (M) (x1) 0) ((x3) + ((nI 5))) ∧ isA (M) (mR (M) (x1) 0) (x3) ∧ Kx 20 [some (.ref (x1)), some (.int (x2)), some (.int (x3 + (nI 1)))] [] (stI (M) (mR (M) (x1) 0) (Int32.toNatClampNeg (x3)) (mI (M) (mR (M) (x1) 0) (Int32.toNatClampNeg ((x3) + ((nI 5))))))) := rfl
theorem g_M_leavesDemand_58 {Z : Zt} {nF f : Nat} {Kx : Nat → Kt} {Q : Option Value → Mem → Prop} {M : Mem} {x1 : Nat} {x2 : Int32} {x3 : Int32} : run Z nF C_M_leavesDemand S_M_leavesDemand Kx Q (f + 1) t_M_leavesDemand_58 [some (.ref (x1)), some (.int (x2)), some (.int (x3))] [] M = (Q none (M)) := rfl
set_option maxRecDepth 100000 in
set_option maxHeartbeats 4000000 in
theorem lp_M_leavesDemand (Z : Zt) (d : Nat) {M : Mem} {k : Nat} (hM : MO M) (hk : k < uD (mI M 175)) : ∀ n i, i + n = 320 + 5 * (uD (mI M 175) - 1) → 320 + 5 * k ≤ i → X Z (d + 1) s_M_leavesDemand (mN M) (mN M) (ex none (mW M (rwF (mI M) 175 (ldU (mI M 175) k)))) 20 [some (.ref 174), some (.int (nI k)), some (.int (nI i))] [] (mW M (rwF (mI M) 175 (ldP (mI M 175) k i))) := by
  obtain ⟨hB, hU⟩ := hM
  have h24 := hU.2.2.1.2
  intro n
  induction n with
  | zero =>
    intro i hi hk2
    obtain rfl : i = 320 + 5 * (uD (mI M 175) - 1) := by omega
    refine X_runT (C := C_M_leavesDemand) (S := S_M_leavesDemand) (T := t_M_leavesDemand_20) 1000 kt_M_leavesDemand okE_nil ?_
    simp (maxSteps := 3000000) (disch := first | exact True.intro | assumption | omega) only [↓eq_self, Option.toList_some, Option.toList_none, List.nil_append, List.cons_append, wsum_0, wsum_1, wsum_2, wsum_3, wsum_4, lkill, ↓reduceIte, if_true, if_false, Bool.false_eq_true, and_true, true_and, and_self, or_self, true_or, or_true, not_true, not_false_iff, mR_stI, mN_stI, isO_stI, isA_stI, mI_stI, mR_mW, mN_mW, isO_mW, isA_mW, mI_mW, mW_mW, stI_mW, vp_0, nI_add, nI_ltI, nI_leI, nI_eq, vpi, nI_clamp, nI_toN, nI_geT, nI_lt4, pk_mul, pk_sub, bv_0n, bv_1n, ↓bv_01n, n01a, n01b, Nat.reduceSub, u2_rw, rw_rw, rw_at, rw_ne, rw_175_174, rw_176_174, rw_176_175, rw_177_174, rw_177_175, rw_177_176, rw_178_174, rw_178_175, rw_178_176, rw_178_177, rw_179_174, rw_179_175, rw_179_176, rw_179_177, rw_179_178, rw_180_174, rw_180_175, rw_180_176, rw_180_177, rw_180_178, rw_180_179, up_at, up_ne, Nat.zero_add, Nat.add_zero, bk_oM hB, bk_m0 hB, bk_m1 hB, bk_m2 hB, bk_m4 hB, bk_m6 hB, bk_m9 hB, md_a hB, md_p hB, md_s hB, md_t hB, md_r hB, md_v hB, ite_nt, ↓g_M_leavesDemand_0, ↓g_M_leavesDemand_20, ↓g_M_leavesDemand_38, ↓g_M_leavesDemand_58, ldP_c, Nat.le_refl]
    exact ⟨rfl, rfl⟩
  | succ n ih =>
    intro i hi hk2
    have h1 : ¬ 320 + 5 * (uD (mI M 175) - 1) ≤ i := by omega
    have hs := ldP_s (u := mI M 175) hk2 (show i < 440 by omega)
    have hr : ldP (mI M 175) k i (i + 5) = mI M 175 (i + 5) := ldP_r (by omega) (by omega)
    refine X_runT (C := C_M_leavesDemand) (S := S_M_leavesDemand) (T := t_M_leavesDemand_20) 1000 kt_M_leavesDemand okE_nil ?_
    simp (maxSteps := 3000000) (disch := first | exact True.intro | assumption | omega) only [↓eq_self, Option.toList_some, Option.toList_none, List.nil_append, List.cons_append, wsum_0, wsum_1, wsum_2, wsum_3, wsum_4, lkill, ↓reduceIte, if_true, if_false, Bool.false_eq_true, and_true, true_and, and_self, or_self, true_or, or_true, not_true, not_false_iff, mR_stI, mN_stI, isO_stI, isA_stI, mI_stI, mR_mW, mN_mW, isO_mW, isA_mW, mI_mW, mW_mW, stI_mW, vp_0, nI_add, nI_ltI, nI_leI, nI_eq, vpi, nI_clamp, nI_toN, nI_geT, nI_lt4, pk_mul, pk_sub, bv_0n, bv_1n, ↓bv_01n, n01a, n01b, Nat.reduceSub, u2_rw, rw_rw, rw_at, rw_ne, rw_175_174, rw_176_174, rw_176_175, rw_177_174, rw_177_175, rw_177_176, rw_178_174, rw_178_175, rw_178_176, rw_178_177, rw_179_174, rw_179_175, rw_179_176, rw_179_177, rw_179_178, rw_180_174, rw_180_175, rw_180_176, rw_180_177, rw_180_178, rw_180_179, up_at, up_ne, Nat.zero_add, Nat.add_zero, bk_oM hB, bk_m0 hB, bk_m1 hB, bk_m2 hB, bk_m4 hB, bk_m6 hB, bk_m9 hB, md_a hB, md_p hB, md_s hB, md_t hB, md_r hB, md_v hB, ite_nt, ↓g_M_leavesDemand_0, ↓g_M_leavesDemand_20, ↓g_M_leavesDemand_38, ↓g_M_leavesDemand_58, ldP_c, h1, hr, hs]
    exact ih (i + 1) (by omega) (by omega)
set_option maxRecDepth 100000 in
set_option maxHeartbeats 4000000 in
theorem ok_M_leavesDemand (Z : Zt) (d : Nat) : okE Z (d + 1) i_M_leavesDemand e_M_leavesDemand := mk_M_leavesDemand fun o k M h1 hp => by
  obtain ⟨rfl, hM, hk⟩ := hp
  obtain ⟨hB, hU⟩ := id hM
  have hD := hU.2.2.1.1
  have h24 := hU.2.2.1.2
  refine Gm_run (C := C_M_leavesDemand) (S := S_M_leavesDemand) [some (.ref 174), some (.int (nI k)), none] 1000 kt_M_leavesDemand okE_nil (ex_n rfl) ?_
  simp (maxSteps := 3000000) (disch := first | exact True.intro | assumption | omega) only [↓eq_self, Option.toList_some, Option.toList_none, List.nil_append, List.cons_append, wsum_0, wsum_1, wsum_2, wsum_3, wsum_4, lkill, ↓reduceIte, if_true, if_false, Bool.false_eq_true, and_true, true_and, and_self, or_self, true_or, or_true, not_true, not_false_iff, mR_stI, mN_stI, isO_stI, isA_stI, mI_stI, mR_mW, mN_mW, isO_mW, isA_mW, mI_mW, mW_mW, stI_mW, vp_0, nI_add, nI_ltI, nI_leI, nI_eq, vpi, nI_clamp, nI_toN, nI_geT, nI_lt4, pk_mul, pk_sub, bv_0n, bv_1n, ↓bv_01n, n01a, n01b, Nat.reduceSub, u2_rw, rw_rw, rw_at, rw_ne, rw_175_174, rw_176_174, rw_176_175, rw_177_174, rw_177_175, rw_177_176, rw_178_174, rw_178_175, rw_178_176, rw_178_177, rw_179_174, rw_179_175, rw_179_176, rw_179_177, rw_179_178, rw_180_174, rw_180_175, rw_180_176, rw_180_177, rw_180_178, rw_180_179, up_at, up_ne, Nat.zero_add, Nat.add_zero, bk_oM hB, bk_m0 hB, bk_m1 hB, bk_m2 hB, bk_m4 hB, bk_m6 hB, bk_m9 hB, md_a hB, md_p hB, md_s hB, md_t hB, md_r hB, md_v hB, ite_nt, ↓g_M_leavesDemand_0, ↓g_M_leavesDemand_20, ↓g_M_leavesDemand_38, ↓g_M_leavesDemand_58, hD, ldP_0 _ k]
  exact lp_M_leavesDemand Z d hM hk _ (320 + 5 * k) (Nat.add_sub_of_le (by omega)) (Nat.le_refl _)
def lgP (u : Nat → Int32) (k i : Nat) : Nat → Int32 := fun y => if y = 448 then nI (uG u - 1) else if 80 + 6 * k ≤ y ∧ y < i then u (y + 6) else u y
def lgU (u : Nat → Int32) (k : Nat) : Nat → Int32 := lgP u k (80 + 6 * (uG u - 1))
theorem lgP_0 (u : Nat → Int32) (k : Nat) : upF u 448 (nI (uG u - 1)) = lgP u k (80 + 6 * k) := by
  funext y
  unfold upF lgP
  by_cases h : y = 448
  · rw [if_pos h, if_pos h]
  · rw [if_neg h, if_neg h, if_neg (by omega)]
theorem lgP_s {u : Nat → Int32} {k i : Nat} (h1 : 80 + 6 * k ≤ i) (h2 : i < 440) : upF (lgP u k i) i (u (i + 6)) = lgP u k (i + 1) := by
  funext y
  unfold upF lgP
  by_cases h : y = i
  · rw [if_pos h, if_neg (by omega), if_pos (by omega), h]
  · rw [if_neg h]
    by_cases h3 : y = 448
    · rw [if_pos h3, if_pos h3]
    · rw [if_neg h3, if_neg h3]
      by_cases h4 : 80 + 6 * k ≤ y ∧ y < i
      · rw [if_pos h4, if_pos (by omega)]
      · rw [if_neg h4, if_neg (by omega)]
theorem lgP_c (u : Nat → Int32) (k i : Nat) : lgP u k i 448 = nI (uG u - 1) := if_pos rfl
theorem lgP_r {u : Nat → Int32} {k i j : Nat} (h : i ≤ j) (h2 : j < 448) : lgP u k i j = u j := by
  unfold lgP
  rw [if_neg (by omega), if_neg (by omega)]
def e_M_leavesGrant : Ent := (fun av M => ∃ (o : Nat) (k : Nat), av = [.ref o, .int (nI k)] ∧ k < 2 ^ 31 ∧ (o = 174 ∧ MO M ∧ k < uG (mI M 175)), fun av M r_ M_ => ∀ (o : Nat) (k : Nat), k < 2 ^ 31 → av = [.ref o, .int (nI k)] → r_ = (none) ∧ M_ = (mW M (rwF (mI M) 175 (lgU (mI M 175) k))))
theorem pc_M_leavesGrant {o : Nat} {k : Nat} {M : Mem} {K : Option Value → Mem → Prop} (hp : o = 174 ∧ MO M ∧ k < uG (mI M 175)) (h_k : k < 2 ^ 31) : pcall e_M_leavesGrant [.ref o, .int (nI k)] M K = K (none) (mW M (rwF (mI M) 175 (lgU (mI M 175) k))) := propext ⟨fun h => h.2 _ _ (fun o' k' h_k' e => by simp only [List.cons.injEq, Value.ref.injEq, Value.int.injEq, Value.long.injEq, and_true] at e; obtain ⟨q0, q1⟩ := e; obtain rfl := q0; obtain rfl := (nI_eq h_k h_k').mp q1; exact ⟨rfl, rfl⟩), fun h => ⟨⟨o, k, rfl, h_k, hp⟩, fun r_ M_ q => by obtain ⟨rfl, rfl⟩ := q _ _ h_k rfl; exact h⟩⟩
theorem mk_M_leavesGrant {Z : Zt} {d : Nat} (h : ∀ (o : Nat) (k : Nat) (M : Mem), k < 2 ^ 31 → (o = 174 ∧ MO M ∧ k < uG (mI M 175)) → Gm Z d s_M_leavesGrant [.ref o, .int (nI k)] M (ex (none) (mW M (rwF (mI M) 175 (lgU (mI M 175) k))))) : okE Z d i_M_leavesGrant e_M_leavesGrant := by
  rintro av M ⟨o, k, rfl, h_k, hp⟩
  exact Gm.cons (h o k M h_k hp) (fun r_ M_ q o' k' h_k' e => by simp only [List.cons.injEq, Value.ref.injEq, Value.int.injEq, Value.long.injEq, and_true] at e; obtain ⟨q0, q1⟩ := e; obtain rfl := q0; obtain rfl := (nI_eq h_k h_k').mp q1; exact q)
def C_M_leavesGrant : List (Nat × Ent) := []
abbrev S_M_leavesGrant : List Nat := [20]
def t_M_leavesGrant_59 : List PI := (59, 9, 5, 0, 0, 0, []) :: []
def t_M_leavesGrant_38 : List PI := (38, 1, 1, 0, 0, 0, []) :: (39, 8, 1, 5, 0, 0, [7]) :: (42, 1, 0, 2, 0, 0, []) :: (43, 1, 1, 0, 0, 0, []) :: (44, 8, 1, 5, 0, 0, [7]) :: (47, 1, 0, 2, 0, 0, []) :: (48, 0, 0, 0, 1, 6, []) :: (50, 2, 0, 0, 0, 0, []) :: (51, 8, 4, 0, 0, 0, []) :: (52, 10, 4, 0, 0, 0, []) :: (53, 1, 6, 2, 0, 1, []) :: (56, 6, 0, 20, 0, 0, []) :: t_M_leavesGrant_59
def t_M_leavesGrant_20 : List PI := (20, 1, 0, 2, 0, 0, []) :: (21, 0, 0, 0, 1, 80, []) :: (23, 0, 0, 0, 1, 6, []) :: (25, 1, 1, 0, 0, 0, []) :: (26, 8, 1, 5, 0, 0, [7]) :: (29, 0, 0, 0, 2, 448, []) :: (32, 8, 4, 0, 0, 0, []) :: (33, 2, 2, 0, 0, 0, []) :: (34, 2, 0, 0, 0, 0, []) :: (35, 4, 3, 59, 0, 0, []) :: t_M_leavesGrant_38
def t_M_leavesGrant_0 : List PI := (0, 1, 1, 0, 0, 0, []) :: (1, 8, 1, 5, 0, 0, [7]) :: (4, 0, 0, 0, 2, 448, []) :: (7, 7, 1, 0, 0, 0, []) :: (8, 8, 4, 0, 0, 0, []) :: (9, 0, 0, 0, 0, 1, []) :: (10, 2, 1, 0, 0, 0, []) :: (11, 10, 4, 0, 0, 0, []) :: (12, 0, 0, 0, 1, 80, []) :: (14, 0, 0, 0, 1, 6, []) :: (16, 1, 0, 1, 0, 0, []) :: (17, 2, 2, 0, 0, 0, []) :: (18, 2, 0, 0, 0, 0, []) :: (19, 1, 3, 2, 0, 0, []) :: t_M_leavesGrant_20
theorem kt_M_leavesGrant : okP s_M_leavesGrant t_M_leavesGrant_0 := k_M_leavesGrant
theorem g_M_leavesGrant_0 {Z : Zt} {nF f : Nat} {Kx : Nat → Kt} {Q : Option Value → Mem → Prop} {M : Mem} {x1 : Nat} {x2 : Int32} : run Z nF C_M_leavesGrant S_M_leavesGrant Kx Q (f + 14) t_M_leavesGrant_0 [some (.ref (x1)), some (.int (x2)), none] [] M = (isO (M) (x1) 5 ∧ isA (M) (mR (M) (x1) 0) ((nI 448)) ∧ isA (M) (mR (M) (x1) 0) ((nI 448)) ∧ Kx 20 [some (.ref (x1)), some (.int (x2)), some (.int (((nI 80)) + (((nI 6)) * (x2))))] [] (stI (M) (mR (M) (x1) 0) (Int32.toNatClampNeg ((nI 448))) ((mI (M) (mR (M) (x1) 0) (Int32.toNatClampNeg ((nI 448)))) - ((nI 1))))) := rfl
theorem g_M_leavesGrant_20 {Z : Zt} {nF f : Nat} {Kx : Nat → Kt} {Q : Option Value → Mem → Prop} {M : Mem} {x1 : Nat} {x2 : Int32} {x3 : Int32} : run Z nF C_M_leavesGrant S_M_leavesGrant Kx Q (f + 10) t_M_leavesGrant_20 [some (.ref (x1)), some (.int (x2)), some (.int (x3))] [] M = (isO (M) (x1) 5 ∧ isA (M) (mR (M) (x1) 0) ((nI 448)) ∧ (if (((nI 80)) + (((nI 6)) * (mI (M) (mR (M) (x1) 0) (Int32.toNatClampNeg ((nI 448)))))) ≤ (x3) then run Z nF C_M_leavesGrant S_M_leavesGrant Kx Q f t_M_leavesGrant_59 [some (.ref (x1)), some (.int (x2)), some (.int (x3))] [] (M) else run Z nF C_M_leavesGrant S_M_leavesGrant Kx Q f t_M_leavesGrant_38 [some (.ref (x1)), some (.int (x2)), some (.int (x3))] [] (M))) := rfl
theorem g_M_leavesGrant_38 {Z : Zt} {nF f : Nat} {Kx : Nat → Kt} {Q : Option Value → Mem → Prop} {M : Mem} {x1 : Nat} {x2 : Int32} {x3 : Int32} : run Z nF C_M_leavesGrant S_M_leavesGrant Kx Q (f + 12) t_M_leavesGrant_38 [some (.ref (x1)), some (.int (x2)), some (.int (x3))] [] M = (isO (M) (x1) 5 ∧ isO (M) (x1) 5 ∧ isA (M) (mR (M) (x1) 0) ((x3) + ((nI 6))) ∧ isA (M) (mR (M) (x1) 0) (x3) ∧ Kx 20 [some (.ref (x1)), some (.int (x2)), some (.int (x3 + (nI 1)))] [] (stI (M) (mR (M) (x1) 0) (Int32.toNatClampNeg (x3)) (mI (M) (mR (M) (x1) 0) (Int32.toNatClampNeg ((x3) + ((nI 6))))))) := rfl
theorem g_M_leavesGrant_59 {Z : Zt} {nF f : Nat} {Kx : Nat → Kt} {Q : Option Value → Mem → Prop} {M : Mem} {x1 : Nat} {x2 : Int32} {x3 : Int32} : run Z nF C_M_leavesGrant S_M_leavesGrant Kx Q (f + 1) t_M_leavesGrant_59 [some (.ref (x1)), some (.int (x2)), some (.int (x3))] [] M = (Q none (M)) := rfl
set_option maxRecDepth 100000 in
set_option maxHeartbeats 4000000 in
theorem lp_M_leavesGrant (Z : Zt) (d : Nat) {M : Mem} {k : Nat} (hM : MO M) (hk : k < uG (mI M 175)) : ∀ n i, i + n = 80 + 6 * (uG (mI M 175) - 1) → 80 + 6 * k ≤ i → X Z (d + 1) s_M_leavesGrant (mN M) (mN M) (ex none (mW M (rwF (mI M) 175 (lgU (mI M 175) k)))) 20 [some (.ref 174), some (.int (nI k)), some (.int (nI i))] [] (mW M (rwF (mI M) 175 (lgP (mI M 175) k i))) := by
  obtain ⟨hB, hU⟩ := hM
  have h24 := hU.2.1.2
  intro n
  induction n with
  | zero =>
    intro i hi hk2
    obtain rfl : i = 80 + 6 * (uG (mI M 175) - 1) := by omega
    refine X_runT (C := C_M_leavesGrant) (S := S_M_leavesGrant) (T := t_M_leavesGrant_20) 1000 kt_M_leavesGrant okE_nil ?_
    simp (maxSteps := 3000000) (disch := first | exact True.intro | assumption | omega) only [↓eq_self, Option.toList_some, Option.toList_none, List.nil_append, List.cons_append, wsum_0, wsum_1, wsum_2, wsum_3, wsum_4, lkill, ↓reduceIte, if_true, if_false, Bool.false_eq_true, and_true, true_and, and_self, or_self, true_or, or_true, not_true, not_false_iff, mR_stI, mN_stI, isO_stI, isA_stI, mI_stI, mR_mW, mN_mW, isO_mW, isA_mW, mI_mW, mW_mW, stI_mW, vp_0, nI_add, nI_ltI, nI_leI, nI_eq, vpi, nI_clamp, nI_toN, nI_geT, nI_lt4, pk_mul, pk_sub, bv_0n, bv_1n, ↓bv_01n, n01a, n01b, Nat.reduceSub, u2_rw, rw_rw, rw_at, rw_ne, rw_175_174, rw_176_174, rw_176_175, rw_177_174, rw_177_175, rw_177_176, rw_178_174, rw_178_175, rw_178_176, rw_178_177, rw_179_174, rw_179_175, rw_179_176, rw_179_177, rw_179_178, rw_180_174, rw_180_175, rw_180_176, rw_180_177, rw_180_178, rw_180_179, up_at, up_ne, Nat.zero_add, Nat.add_zero, bk_oM hB, bk_m0 hB, bk_m1 hB, bk_m2 hB, bk_m4 hB, bk_m6 hB, bk_m9 hB, md_a hB, md_p hB, md_s hB, md_t hB, md_r hB, md_v hB, ite_nt, ↓g_M_leavesGrant_0, ↓g_M_leavesGrant_20, ↓g_M_leavesGrant_38, ↓g_M_leavesGrant_59, lgP_c, Nat.le_refl]
    exact ⟨rfl, rfl⟩
  | succ n ih =>
    intro i hi hk2
    have h1 : ¬ 80 + 6 * (uG (mI M 175) - 1) ≤ i := by omega
    have hs := lgP_s (u := mI M 175) hk2 (show i < 440 by omega)
    have hr : lgP (mI M 175) k i (i + 6) = mI M 175 (i + 6) := lgP_r (by omega) (by omega)
    refine X_runT (C := C_M_leavesGrant) (S := S_M_leavesGrant) (T := t_M_leavesGrant_20) 1000 kt_M_leavesGrant okE_nil ?_
    simp (maxSteps := 3000000) (disch := first | exact True.intro | assumption | omega) only [↓eq_self, Option.toList_some, Option.toList_none, List.nil_append, List.cons_append, wsum_0, wsum_1, wsum_2, wsum_3, wsum_4, lkill, ↓reduceIte, if_true, if_false, Bool.false_eq_true, and_true, true_and, and_self, or_self, true_or, or_true, not_true, not_false_iff, mR_stI, mN_stI, isO_stI, isA_stI, mI_stI, mR_mW, mN_mW, isO_mW, isA_mW, mI_mW, mW_mW, stI_mW, vp_0, nI_add, nI_ltI, nI_leI, nI_eq, vpi, nI_clamp, nI_toN, nI_geT, nI_lt4, pk_mul, pk_sub, bv_0n, bv_1n, ↓bv_01n, n01a, n01b, Nat.reduceSub, u2_rw, rw_rw, rw_at, rw_ne, rw_175_174, rw_176_174, rw_176_175, rw_177_174, rw_177_175, rw_177_176, rw_178_174, rw_178_175, rw_178_176, rw_178_177, rw_179_174, rw_179_175, rw_179_176, rw_179_177, rw_179_178, rw_180_174, rw_180_175, rw_180_176, rw_180_177, rw_180_178, rw_180_179, up_at, up_ne, Nat.zero_add, Nat.add_zero, bk_oM hB, bk_m0 hB, bk_m1 hB, bk_m2 hB, bk_m4 hB, bk_m6 hB, bk_m9 hB, md_a hB, md_p hB, md_s hB, md_t hB, md_r hB, md_v hB, ite_nt, ↓g_M_leavesGrant_0, ↓g_M_leavesGrant_20, ↓g_M_leavesGrant_38, ↓g_M_leavesGrant_59, lgP_c, h1, hr, hs]
    exact ih (i + 1) (by omega) (by omega)
set_option maxRecDepth 100000 in
set_option maxHeartbeats 4000000 in
theorem ok_M_leavesGrant (Z : Zt) (d : Nat) : okE Z (d + 1) i_M_leavesGrant e_M_leavesGrant := mk_M_leavesGrant fun o k M h1 hp => by
  obtain ⟨rfl, hM, hk⟩ := hp
  obtain ⟨hB, hU⟩ := id hM
  have hD := hU.2.1.1
  have h24 := hU.2.1.2
  refine Gm_run (C := C_M_leavesGrant) (S := S_M_leavesGrant) [some (.ref 174), some (.int (nI k)), none] 1000 kt_M_leavesGrant okE_nil (ex_n rfl) ?_
  simp (maxSteps := 3000000) (disch := first | exact True.intro | assumption | omega) only [↓eq_self, Option.toList_some, Option.toList_none, List.nil_append, List.cons_append, wsum_0, wsum_1, wsum_2, wsum_3, wsum_4, lkill, ↓reduceIte, if_true, if_false, Bool.false_eq_true, and_true, true_and, and_self, or_self, true_or, or_true, not_true, not_false_iff, mR_stI, mN_stI, isO_stI, isA_stI, mI_stI, mR_mW, mN_mW, isO_mW, isA_mW, mI_mW, mW_mW, stI_mW, vp_0, nI_add, nI_ltI, nI_leI, nI_eq, vpi, nI_clamp, nI_toN, nI_geT, nI_lt4, pk_mul, pk_sub, bv_0n, bv_1n, ↓bv_01n, n01a, n01b, Nat.reduceSub, u2_rw, rw_rw, rw_at, rw_ne, rw_175_174, rw_176_174, rw_176_175, rw_177_174, rw_177_175, rw_177_176, rw_178_174, rw_178_175, rw_178_176, rw_178_177, rw_179_174, rw_179_175, rw_179_176, rw_179_177, rw_179_178, rw_180_174, rw_180_175, rw_180_176, rw_180_177, rw_180_178, rw_180_179, up_at, up_ne, Nat.zero_add, Nat.add_zero, bk_oM hB, bk_m0 hB, bk_m1 hB, bk_m2 hB, bk_m4 hB, bk_m6 hB, bk_m9 hB, md_a hB, md_p hB, md_s hB, md_t hB, md_r hB, md_v hB, ite_nt, ↓g_M_leavesGrant_0, ↓g_M_leavesGrant_20, ↓g_M_leavesGrant_38, ↓g_M_leavesGrant_59, hD, lgP_0 _ k]
  exact lp_M_leavesGrant Z d hM hk _ (80 + 6 * k) (Nat.add_sub_of_le (by omega)) (Nat.le_refl _)
theorem ldU_o {u : Nat → Int32} {k y : Nat} (h : y < 320 ∨ 440 ≤ y) (h2 : y ≠ 449) (hk : uD u ≤ 24) : ldU u k y = u y := by
  unfold ldU ldP
  rw [if_neg h2, if_neg (by omega)]
theorem ldU_D {u : Nat → Int32} {k : Nat} (h : MdD u) : MdD (ldU u k) := by
  have h24 := h.2.2.1.2
  exact MdD_d h (ldU_o (by omega) (by omega) h24) (ldU_o (by omega) (by omega) h24) (ldP_c u k _) (by omega) (ldU_o (by omega) (by omega) h24)
theorem lgU_o {u : Nat → Int32} {k y : Nat} (h : y < 80 ∨ 320 ≤ y) (h2 : y ≠ 448) (hk : uG u ≤ 40) : lgU u k y = u y := by
  unfold lgU lgP
  rw [if_neg h2, if_neg (by omega)]
theorem lgU_D {u : Nat → Int32} {k : Nat} (h : MdD u) : MdD (lgU u k) := by
  have h24 := h.2.1.2
  exact MdD_g h (lgU_o (by omega) (by omega) h24) (lgP_c u k _) (by omega) (lgU_o (by omega) (by omega) h24) (lgU_o (by omega) (by omega) h24)
/-! granting -/
def owU (u : Nat → Int32) (k : Nat) : Nat := (u (320 + 5 * k + 4)).toNatClampNeg
abbrev fcU (u : Nat → Int32) (k r : Nat) : Prop := u (320 + 5 * k + r) ≤ frU u (owU u k) r ∧ u (320 + 5 * k + r) + usU u r (-1000003) ≤ u r
def ftU (u : Nat → Int32) (k n : Nat) : Prop := ∀ r, r < n → fcU u k r
theorem ftU_s (u : Nat → Int32) (k n : Nat) : ftU u k (n + 1) ↔ ftU u k n ∧ fcU u k n := by
  refine ⟨fun h => ⟨fun r hr => h r (by omega), h n (by omega)⟩, fun h r hr => ?_⟩
  by_cases q : r = n
  · rw [q]; exact h.2
  · exact h.1 r (by omega)
def e_M_fits : Ent := (fun av M => ∃ (o : Nat) (k : Nat), av = [.ref o, .int (nI k)] ∧ k < 2 ^ 31 ∧ (o = 174 ∧ MO M ∧ k < 24 ∧ owU (mI M 175) k < 6 ∧ mI M 175 (320 + 5 * k + 4) = nI (owU (mI M 175) k)), fun av M r_ M_ => ∀ (o : Nat) (k : Nat), k < 2 ^ 31 → av = [.ref o, .int (nI k)] → r_ = (some (.int (bv (ftU (mI M 175) k 4)))) ∧ M_ = (M))
theorem pc_M_fits {o : Nat} {k : Nat} {M : Mem} {K : Option Value → Mem → Prop} (hp : o = 174 ∧ MO M ∧ k < 24 ∧ owU (mI M 175) k < 6 ∧ mI M 175 (320 + 5 * k + 4) = nI (owU (mI M 175) k)) (h_k : k < 2 ^ 31) : pcall e_M_fits [.ref o, .int (nI k)] M K = K (some (.int (bv (ftU (mI M 175) k 4)))) (M) := propext ⟨fun h => h.2 _ _ (fun o' k' h_k' e => by simp only [List.cons.injEq, Value.ref.injEq, Value.int.injEq, Value.long.injEq, and_true] at e; obtain ⟨q0, q1⟩ := e; obtain rfl := q0; obtain rfl := (nI_eq h_k h_k').mp q1; exact ⟨rfl, rfl⟩), fun h => ⟨⟨o, k, rfl, h_k, hp⟩, fun r_ M_ q => by obtain ⟨rfl, rfl⟩ := q _ _ h_k rfl; exact h⟩⟩
theorem mk_M_fits {Z : Zt} {d : Nat} (h : ∀ (o : Nat) (k : Nat) (M : Mem), k < 2 ^ 31 → (o = 174 ∧ MO M ∧ k < 24 ∧ owU (mI M 175) k < 6 ∧ mI M 175 (320 + 5 * k + 4) = nI (owU (mI M 175) k)) → Gm Z d s_M_fits [.ref o, .int (nI k)] M (ex (some (.int (bv (ftU (mI M 175) k 4)))) (M))) : okE Z d i_M_fits e_M_fits := by
  rintro av M ⟨o, k, rfl, h_k, hp⟩
  exact Gm.cons (h o k M h_k hp) (fun r_ M_ q o' k' h_k' e => by simp only [List.cons.injEq, Value.ref.injEq, Value.int.injEq, Value.long.injEq, and_true] at e; obtain ⟨q0, q1⟩ := e; obtain rfl := q0; obtain rfl := (nI_eq h_k h_k').mp q1; exact q)
def C_M_fits : List (Nat × Ent) := [(i_M_demandOf, e_M_demandOf), (i_M_free, e_M_free), (i_M_use, e_M_use)]
abbrev S_M_fits : List Nat := [12]
def t_M_fits_79 : List PI := (79, 1, 0, 3, 0, 0, []) :: (80, 9, 1, 0, 0, 0, []) :: []
def t_M_fits_72 : List PI := (72, 1, 3, 3, 0, 0, []) :: (73, 1, 6, 4, 0, 1, []) :: (76, 6, 0, 12, 0, 0, []) :: t_M_fits_79
def t_M_fits_71 : List PI := (71, 0, 0, 0, 0, 0, []) :: t_M_fits_72
def t_M_fits_67 : List PI := (67, 0, 0, 0, 0, 1, []) :: (68, 6, 0, 72, 0, 0, []) :: t_M_fits_71
def t_M_fits_54 : List PI := (54, 2, 0, 0, 0, 0, []) :: (55, 1, 1, 0, 0, 0, []) :: (56, 8, 1, 5, 0, 0, [7]) :: (59, 0, 0, 0, 0, 0, []) :: (60, 1, 0, 4, 0, 0, []) :: (62, 2, 0, 0, 0, 0, []) :: (63, 8, 4, 0, 0, 0, []) :: (64, 4, 4, 71, 0, 0, []) :: t_M_fits_67
def t_M_fits_46 : List PI := (46, 1, 1, 0, 0, 0, []) :: (47, 1, 0, 4, 0, 0, []) :: (49, 0, 0, 52, 3, -1000003, []) :: (51, 11, 0, 5, 123, 0, [81, 3]) :: t_M_fits_54
def t_M_fits_39 : List PI := (39, 1, 1, 0, 0, 0, []) :: (40, 1, 0, 1, 0, 0, []) :: (41, 1, 0, 4, 0, 0, []) :: (43, 11, 0, 5, 122, 0, [97, 3]) :: t_M_fits_46
def t_M_fits_36 : List PI := (36, 4, 4, 71, 0, 0, []) :: t_M_fits_39
def t_M_fits_29 : List PI := (29, 1, 1, 0, 0, 0, []) :: (30, 1, 0, 2, 0, 0, []) :: (31, 1, 0, 4, 0, 0, []) :: (33, 11, 0, 5, 126, 0, [107, 3]) :: t_M_fits_36
def t_M_fits_22 : List PI := (22, 1, 1, 0, 0, 0, []) :: (23, 1, 0, 1, 0, 0, []) :: (24, 1, 0, 4, 0, 0, []) :: (26, 11, 0, 5, 122, 0, [97, 3]) :: t_M_fits_29
def t_M_fits_18 : List PI := (18, 1, 0, 3, 0, 0, []) :: (19, 5, 0, 71, 0, 0, []) :: t_M_fits_22
def t_M_fits_12 : List PI := (12, 1, 0, 4, 0, 0, []) :: (14, 0, 0, 0, 0, 4, []) :: (15, 4, 3, 79, 0, 0, []) :: t_M_fits_18
def t_M_fits_6 : List PI := (6, 1, 3, 2, 0, 0, []) :: (7, 0, 0, 0, 0, 1, []) :: (8, 1, 3, 3, 0, 0, []) :: (9, 0, 0, 0, 0, 0, []) :: (10, 1, 3, 4, 0, 0, []) :: t_M_fits_12
def t_M_fits_0 : List PI := (0, 1, 1, 0, 0, 0, []) :: (1, 1, 0, 1, 0, 0, []) :: (2, 0, 0, 0, 0, 4, []) :: (3, 11, 0, 5, 122, 0, [97, 3]) :: t_M_fits_6
theorem kt_M_fits : okP s_M_fits t_M_fits_0 := k_M_fits
theorem g_M_fits_0 {Z : Zt} {nF f : Nat} {Kx : Nat → Kt} {Q : Option Value → Mem → Prop} {M : Mem} {x1 : Nat} {x2 : Int32} : run Z nF C_M_fits S_M_fits Kx Q (f + 4) t_M_fits_0 [some (.ref (x1)), some (.int (x2)), none, none, none] [] M = (((isO (M) (x1) 5) ∧ wsum [] ≤ 8) ∧ pcall e_M_demandOf [.ref (x1), .int (x2), .int ((nI 4))] (M) (fun v M_ => run Z nF C_M_fits S_M_fits Kx Q f t_M_fits_6 [some (.ref (x1)), some (.int (x2)), none, none, none] (v.toList ++ []) M_)) := rfl
theorem g_M_fits_6 {Z : Zt} {nF f : Nat} {Kx : Nat → Kt} {Q : Option Value → Mem → Prop} {M : Mem} {x1 : Nat} {x2 : Int32} {x3 : Int32} : run Z nF C_M_fits S_M_fits Kx Q (f + 5) t_M_fits_6 [some (.ref (x1)), some (.int (x2)), none, none, none] [.int (x3)] M = (Kx 12 [some (.ref (x1)), some (.int (x2)), some (.int (x3)), some (.int ((nI 1))), some (.int ((nI 0)))] [] (M)) := rfl
theorem g_M_fits_12 {Z : Zt} {nF f : Nat} {Kx : Nat → Kt} {Q : Option Value → Mem → Prop} {M : Mem} {x1 : Nat} {x2 : Int32} {x3 : Int32} {x4 : Int32} {x5 : Int32} : run Z nF C_M_fits S_M_fits Kx Q (f + 3) t_M_fits_12 [some (.ref (x1)), some (.int (x2)), some (.int (x3)), some (.int (x4)), some (.int (x5))] [] M = ((if ((nI 4)) ≤ (x5) then run Z nF C_M_fits S_M_fits Kx Q f t_M_fits_79 [some (.ref (x1)), some (.int (x2)), some (.int (x3)), some (.int (x4)), some (.int (x5))] [] (M) else run Z nF C_M_fits S_M_fits Kx Q f t_M_fits_18 [some (.ref (x1)), some (.int (x2)), some (.int (x3)), some (.int (x4)), some (.int (x5))] [] (M))) := rfl
theorem g_M_fits_18 {Z : Zt} {nF f : Nat} {Kx : Nat → Kt} {Q : Option Value → Mem → Prop} {M : Mem} {x1 : Nat} {x2 : Int32} {x3 : Int32} {x4 : Int32} {x5 : Int32} : run Z nF C_M_fits S_M_fits Kx Q (f + 2) t_M_fits_18 [some (.ref (x1)), some (.int (x2)), some (.int (x3)), some (.int (x4)), some (.int (x5))] [] M = ((if (x4) = nI 0 then run Z nF C_M_fits S_M_fits Kx Q f t_M_fits_71 [some (.ref (x1)), some (.int (x2)), some (.int (x3)), some (.int (x4)), some (.int (x5))] [] (M) else run Z nF C_M_fits S_M_fits Kx Q f t_M_fits_22 [some (.ref (x1)), some (.int (x2)), some (.int (x3)), some (.int (x4)), some (.int (x5))] [] (M))) := rfl
theorem g_M_fits_22 {Z : Zt} {nF f : Nat} {Kx : Nat → Kt} {Q : Option Value → Mem → Prop} {M : Mem} {x1 : Nat} {x2 : Int32} {x3 : Int32} {x4 : Int32} {x5 : Int32} : run Z nF C_M_fits S_M_fits Kx Q (f + 4) t_M_fits_22 [some (.ref (x1)), some (.int (x2)), some (.int (x3)), some (.int (x4)), some (.int (x5))] [] M = (((isO (M) (x1) 5) ∧ wsum [] ≤ 8) ∧ pcall e_M_demandOf [.ref (x1), .int (x2), .int (x5)] (M) (fun v M_ => run Z nF C_M_fits S_M_fits Kx Q f t_M_fits_29 [some (.ref (x1)), some (.int (x2)), some (.int (x3)), some (.int (x4)), some (.int (x5))] (v.toList ++ []) M_)) := rfl
theorem g_M_fits_29 {Z : Zt} {nF f : Nat} {Kx : Nat → Kt} {Q : Option Value → Mem → Prop} {M : Mem} {x1 : Nat} {x2 : Int32} {x3 : Int32} {x4 : Int32} {x5 : Int32} {x6 : Int32} : run Z nF C_M_fits S_M_fits Kx Q (f + 4) t_M_fits_29 [some (.ref (x1)), some (.int (x2)), some (.int (x3)), some (.int (x4)), some (.int (x5))] [.int (x6)] M = (((isO (M) (x1) 5) ∧ wsum [.int (x6)] ≤ 8) ∧ pcall e_M_free [.ref (x1), .int (x3), .int (x5)] (M) (fun v M_ => run Z nF C_M_fits S_M_fits Kx Q f t_M_fits_36 [some (.ref (x1)), some (.int (x2)), some (.int (x3)), some (.int (x4)), some (.int (x5))] (v.toList ++ [.int (x6)]) M_)) := rfl
theorem g_M_fits_36 {Z : Zt} {nF f : Nat} {Kx : Nat → Kt} {Q : Option Value → Mem → Prop} {M : Mem} {x1 : Nat} {x2 : Int32} {x3 : Int32} {x4 : Int32} {x5 : Int32} {x6 : Int32} {x7 : Int32} : run Z nF C_M_fits S_M_fits Kx Q (f + 1) t_M_fits_36 [some (.ref (x1)), some (.int (x2)), some (.int (x3)), some (.int (x4)), some (.int (x5))] [.int (x6), .int (x7)] M = ((if (x6) < (x7) then run Z nF C_M_fits S_M_fits Kx Q f t_M_fits_71 [some (.ref (x1)), some (.int (x2)), some (.int (x3)), some (.int (x4)), some (.int (x5))] [] (M) else run Z nF C_M_fits S_M_fits Kx Q f t_M_fits_39 [some (.ref (x1)), some (.int (x2)), some (.int (x3)), some (.int (x4)), some (.int (x5))] [] (M))) := rfl
theorem g_M_fits_39 {Z : Zt} {nF f : Nat} {Kx : Nat → Kt} {Q : Option Value → Mem → Prop} {M : Mem} {x1 : Nat} {x2 : Int32} {x3 : Int32} {x4 : Int32} {x5 : Int32} : run Z nF C_M_fits S_M_fits Kx Q (f + 4) t_M_fits_39 [some (.ref (x1)), some (.int (x2)), some (.int (x3)), some (.int (x4)), some (.int (x5))] [] M = (((isO (M) (x1) 5) ∧ wsum [] ≤ 8) ∧ pcall e_M_demandOf [.ref (x1), .int (x2), .int (x5)] (M) (fun v M_ => run Z nF C_M_fits S_M_fits Kx Q f t_M_fits_46 [some (.ref (x1)), some (.int (x2)), some (.int (x3)), some (.int (x4)), some (.int (x5))] (v.toList ++ []) M_)) := rfl
theorem g_M_fits_46 {Z : Zt} {nF f : Nat} {Kx : Nat → Kt} {Q : Option Value → Mem → Prop} {M : Mem} {x1 : Nat} {x2 : Int32} {x3 : Int32} {x4 : Int32} {x5 : Int32} {x6 : Int32} : run Z nF C_M_fits S_M_fits Kx Q (f + 4) t_M_fits_46 [some (.ref (x1)), some (.int (x2)), some (.int (x3)), some (.int (x4)), some (.int (x5))] [.int (x6)] M = (((isO (M) (x1) 5) ∧ wsum [.int (x6)] ≤ 8) ∧ pcall e_M_use [.ref (x1), .int (x5), .int ((-1000003 : Int32))] (M) (fun v M_ => run Z nF C_M_fits S_M_fits Kx Q f t_M_fits_54 [some (.ref (x1)), some (.int (x2)), some (.int (x3)), some (.int (x4)), some (.int (x5))] (v.toList ++ [.int (x6)]) M_)) := rfl
theorem g_M_fits_54 {Z : Zt} {nF f : Nat} {Kx : Nat → Kt} {Q : Option Value → Mem → Prop} {M : Mem} {x1 : Nat} {x2 : Int32} {x3 : Int32} {x4 : Int32} {x5 : Int32} {x6 : Int32} {x7 : Int32} : run Z nF C_M_fits S_M_fits Kx Q (f + 8) t_M_fits_54 [some (.ref (x1)), some (.int (x2)), some (.int (x3)), some (.int (x4)), some (.int (x5))] [.int (x6), .int (x7)] M = (isO (M) (x1) 5 ∧ isA (M) (mR (M) (x1) 0) (((nI 0)) + (x5)) ∧ (if (mI (M) (mR (M) (x1) 0) (Int32.toNatClampNeg (((nI 0)) + (x5)))) < ((x7) + (x6)) then run Z nF C_M_fits S_M_fits Kx Q f t_M_fits_71 [some (.ref (x1)), some (.int (x2)), some (.int (x3)), some (.int (x4)), some (.int (x5))] [] (M) else run Z nF C_M_fits S_M_fits Kx Q f t_M_fits_67 [some (.ref (x1)), some (.int (x2)), some (.int (x3)), some (.int (x4)), some (.int (x5))] [] (M))) := rfl
theorem g_M_fits_67 {Z : Zt} {nF f : Nat} {Kx : Nat → Kt} {Q : Option Value → Mem → Prop} {M : Mem} {x1 : Nat} {x2 : Int32} {x3 : Int32} {x4 : Int32} {x5 : Int32} : run Z nF C_M_fits S_M_fits Kx Q (f + 2) t_M_fits_67 [some (.ref (x1)), some (.int (x2)), some (.int (x3)), some (.int (x4)), some (.int (x5))] [] M = (run Z nF C_M_fits S_M_fits Kx Q f t_M_fits_72 [some (.ref (x1)), some (.int (x2)), some (.int (x3)), some (.int (x4)), some (.int (x5))] [.int ((nI 1))] (M)) := rfl
theorem g_M_fits_71 {Z : Zt} {nF f : Nat} {Kx : Nat → Kt} {Q : Option Value → Mem → Prop} {M : Mem} {x1 : Nat} {x2 : Int32} {x3 : Int32} {x4 : Int32} {x5 : Int32} : run Z nF C_M_fits S_M_fits Kx Q (f + 1) t_M_fits_71 [some (.ref (x1)), some (.int (x2)), some (.int (x3)), some (.int (x4)), some (.int (x5))] [] M = (run Z nF C_M_fits S_M_fits Kx Q f t_M_fits_72 [some (.ref (x1)), some (.int (x2)), some (.int (x3)), some (.int (x4)), some (.int (x5))] [.int ((nI 0))] (M)) := rfl
theorem g_M_fits_72 {Z : Zt} {nF f : Nat} {Kx : Nat → Kt} {Q : Option Value → Mem → Prop} {M : Mem} {x1 : Nat} {x2 : Int32} {x3 : Int32} {x4 : Int32} {x5 : Int32} {x6 : Int32} : run Z nF C_M_fits S_M_fits Kx Q (f + 3) t_M_fits_72 [some (.ref (x1)), some (.int (x2)), some (.int (x3)), some (.int (x4)), some (.int (x5))] [.int (x6)] M = (Kx 12 [some (.ref (x1)), some (.int (x2)), some (.int (x3)), some (.int (x6)), some (.int (x5 + (nI 1)))] [] (M)) := rfl
theorem g_M_fits_79 {Z : Zt} {nF f : Nat} {Kx : Nat → Kt} {Q : Option Value → Mem → Prop} {M : Mem} {x1 : Nat} {x2 : Int32} {x3 : Int32} {x4 : Int32} {x5 : Int32} : run Z nF C_M_fits S_M_fits Kx Q (f + 2) t_M_fits_79 [some (.ref (x1)), some (.int (x2)), some (.int (x3)), some (.int (x4)), some (.int (x5))] [] M = (((x4) = nI 0 ∨ (x4) = nI 1) ∧ Q (some (.int (x4))) (M)) := rfl
set_option maxRecDepth 100000 in
set_option maxHeartbeats 4000000 in
theorem lp_M_fits (Z : Zt) (d : Nat) {M : Mem} {k : Nat} (hM : MO M) (hk : k < 24) (ht : owU (mI M 175) k < 6) : ∀ n r, r + n = 4 → X Z (d + 4) s_M_fits (mN M) (mN M) (ex (some (.int (bv (ftU (mI M 175) k 4)))) M) 12 [some (.ref 174), some (.int (nI k)), some (.int (nI (owU (mI M 175) k))), some (.int (bv (ftU (mI M 175) k r))), some (.int (nI r))] [] M := by
  have hB := hM.1
  intro n
  induction n with
  | zero =>
    intro r hr
    obtain rfl : r = 4 := by omega
    refine X_runT (C := C_M_fits) (S := S_M_fits) (T := t_M_fits_12) 1000 kt_M_fits (okE_cons (ok_M_demandOf Z (d + 2)) (okE_cons (ok_M_free Z d) (okE_cons (ok_M_use Z (d + 1)) okE_nil))) ?_
    simp (maxSteps := 3000000) (disch := first | exact True.intro | assumption | omega) only [↓eq_self, Option.toList_some, Option.toList_none, List.nil_append, List.cons_append, wsum_0, wsum_1, wsum_2, wsum_3, wsum_4, lkill, ↓reduceIte, if_true, if_false, Bool.false_eq_true, and_true, true_and, and_self, or_self, true_or, or_true, not_true, not_false_iff, mR_stI, mN_stI, isO_stI, isA_stI, mI_stI, mR_mW, mN_mW, isO_mW, isA_mW, mI_mW, mW_mW, stI_mW, vp_0, nI_add, nI_ltI, nI_leI, nI_eq, vpi, nI_clamp, nI_toN, nI_geT, nI_lt4, pk_mul, pk_sub, bv_0n, bv_1n, ↓bv_01n, n01a, n01b, Nat.reduceSub, u2_rw, rw_rw, rw_at, rw_ne, rw_175_174, rw_176_174, rw_176_175, rw_177_174, rw_177_175, rw_177_176, rw_178_174, rw_178_175, rw_178_176, rw_178_177, rw_179_174, rw_179_175, rw_179_176, rw_179_177, rw_179_178, rw_180_174, rw_180_175, rw_180_176, rw_180_177, rw_180_178, rw_180_179, up_at, up_ne, Nat.zero_add, Nat.add_zero, bk_oM hB, bk_m0 hB, bk_m1 hB, bk_m2 hB, bk_m4 hB, bk_m6 hB, bk_m9 hB, md_a hB, md_p hB, md_s hB, md_t hB, md_r hB, md_v hB, ite_nt, ↓g_M_fits_0, ↓g_M_fits_6, ↓g_M_fits_12, ↓g_M_fits_18, ↓g_M_fits_22, ↓g_M_fits_29, ↓g_M_fits_36, ↓g_M_fits_39, ↓g_M_fits_46, ↓g_M_fits_54, ↓g_M_fits_67, ↓g_M_fits_71, ↓g_M_fits_72, ↓g_M_fits_79, Nat.le_refl]
    exact ⟨rfl, rfl⟩
  | succ n ih =>
    intro r hr
    have h1 : ¬ 4 ≤ r := by omega
    have hr4 : r < 4 := by omega
    have hdo : ∀ {K : Option Value → Mem → Prop}, pcall e_M_demandOf [.ref 174, .int (nI k), .int (nI r)] M K = K (some (.int (mI M 175 (320 + 5 * k + r)))) M := pc_M_demandOf (o := 174) (k := k) (w := r) (M := M) ⟨rfl, hB, hk, by omega⟩ (by omega) (by omega)
    have hfr : ∀ {K : Option Value → Mem → Prop}, pcall e_M_free [.ref 174, .int (nI (owU (mI M 175) k)), .int (nI r)] M K = K (some (.int (frU (mI M 175) (owU (mI M 175) k) r))) M := pc_M_free (o := 174) (t := owU (mI M 175) k) (r := r) (M := M) ⟨rfl, hM, ht, hr4⟩ (by omega) (by omega)
    have hu : ∀ {K : Option Value → Mem → Prop}, pcall e_M_use [.ref 174, .int (nI r), .int (-1000003)] M K = K (some (.int (usU (mI M 175) r (-1000003)))) M := pc_M_use (o := 174) (r := r) (t := -1000003) (M := M) ⟨rfl, hM, hr4⟩ (by omega)
    have hx := ih (r + 1) (by omega)
    refine X_runT (C := C_M_fits) (S := S_M_fits) (T := t_M_fits_12) 1000 kt_M_fits (okE_cons (ok_M_demandOf Z (d + 2)) (okE_cons (ok_M_free Z d) (okE_cons (ok_M_use Z (d + 1)) okE_nil))) ?_
    by_cases h2 : ftU (mI M 175) k r
    · by_cases h3 : mI M 175 (320 + 5 * k + r) ≤ frU (mI M 175) (owU (mI M 175) k) r
      · have h3' : ¬ frU (mI M 175) (owU (mI M 175) k) r < mI M 175 (320 + 5 * k + r) := Int32.not_lt.mpr h3
        by_cases h4 : mI M 175 (320 + 5 * k + r) + usU (mI M 175) r (-1000003) ≤ mI M 175 r
        · have h4' : ¬ mI M 175 r < mI M 175 (320 + 5 * k + r) + usU (mI M 175) r (-1000003) := Int32.not_lt.mpr h4
          rw [bv_T ((ftU_s _ _ _).mpr ⟨h2, h3, h4⟩)] at hx
          simp (maxSteps := 3000000) (disch := first | exact True.intro | assumption | omega) only [↓eq_self, Option.toList_some, Option.toList_none, List.nil_append, List.cons_append, wsum_0, wsum_1, wsum_2, wsum_3, wsum_4, lkill, ↓reduceIte, if_true, if_false, Bool.false_eq_true, and_true, true_and, and_self, or_self, true_or, or_true, not_true, not_false_iff, mR_stI, mN_stI, isO_stI, isA_stI, mI_stI, mR_mW, mN_mW, isO_mW, isA_mW, mI_mW, mW_mW, stI_mW, vp_0, nI_add, nI_ltI, nI_leI, nI_eq, vpi, nI_clamp, nI_toN, nI_geT, nI_lt4, pk_mul, pk_sub, bv_0n, bv_1n, ↓bv_01n, n01a, n01b, Nat.reduceSub, u2_rw, rw_rw, rw_at, rw_ne, rw_175_174, rw_176_174, rw_176_175, rw_177_174, rw_177_175, rw_177_176, rw_178_174, rw_178_175, rw_178_176, rw_178_177, rw_179_174, rw_179_175, rw_179_176, rw_179_177, rw_179_178, rw_180_174, rw_180_175, rw_180_176, rw_180_177, rw_180_178, rw_180_179, up_at, up_ne, Nat.zero_add, Nat.add_zero, bk_oM hB, bk_m0 hB, bk_m1 hB, bk_m2 hB, bk_m4 hB, bk_m6 hB, bk_m9 hB, md_a hB, md_p hB, md_s hB, md_t hB, md_r hB, md_v hB, ite_nt, ↓g_M_fits_0, ↓g_M_fits_6, ↓g_M_fits_12, ↓g_M_fits_18, ↓g_M_fits_22, ↓g_M_fits_29, ↓g_M_fits_36, ↓g_M_fits_39, ↓g_M_fits_46, ↓g_M_fits_54, ↓g_M_fits_67, ↓g_M_fits_71, ↓g_M_fits_72, ↓g_M_fits_79, h1, h2, hdo, hfr, hu, h3', h4']
          exact hx
        · have h4' : mI M 175 r < mI M 175 (320 + 5 * k + r) + usU (mI M 175) r (-1000003) := Int32.not_le.mp h4
          rw [bv_F (fun q => h4 ((ftU_s _ _ _).mp q).2.2)] at hx
          simp (maxSteps := 3000000) (disch := first | exact True.intro | assumption | omega) only [↓eq_self, Option.toList_some, Option.toList_none, List.nil_append, List.cons_append, wsum_0, wsum_1, wsum_2, wsum_3, wsum_4, lkill, ↓reduceIte, if_true, if_false, Bool.false_eq_true, and_true, true_and, and_self, or_self, true_or, or_true, not_true, not_false_iff, mR_stI, mN_stI, isO_stI, isA_stI, mI_stI, mR_mW, mN_mW, isO_mW, isA_mW, mI_mW, mW_mW, stI_mW, vp_0, nI_add, nI_ltI, nI_leI, nI_eq, vpi, nI_clamp, nI_toN, nI_geT, nI_lt4, pk_mul, pk_sub, bv_0n, bv_1n, ↓bv_01n, n01a, n01b, Nat.reduceSub, u2_rw, rw_rw, rw_at, rw_ne, rw_175_174, rw_176_174, rw_176_175, rw_177_174, rw_177_175, rw_177_176, rw_178_174, rw_178_175, rw_178_176, rw_178_177, rw_179_174, rw_179_175, rw_179_176, rw_179_177, rw_179_178, rw_180_174, rw_180_175, rw_180_176, rw_180_177, rw_180_178, rw_180_179, up_at, up_ne, Nat.zero_add, Nat.add_zero, bk_oM hB, bk_m0 hB, bk_m1 hB, bk_m2 hB, bk_m4 hB, bk_m6 hB, bk_m9 hB, md_a hB, md_p hB, md_s hB, md_t hB, md_r hB, md_v hB, ite_nt, ↓g_M_fits_0, ↓g_M_fits_6, ↓g_M_fits_12, ↓g_M_fits_18, ↓g_M_fits_22, ↓g_M_fits_29, ↓g_M_fits_36, ↓g_M_fits_39, ↓g_M_fits_46, ↓g_M_fits_54, ↓g_M_fits_67, ↓g_M_fits_71, ↓g_M_fits_72, ↓g_M_fits_79, h1, h2, hdo, hfr, hu, h3', h4']
          exact hx
      · have h3' : frU (mI M 175) (owU (mI M 175) k) r < mI M 175 (320 + 5 * k + r) := Int32.not_le.mp h3
        rw [bv_F (fun q => h3 ((ftU_s _ _ _).mp q).2.1)] at hx
        simp (maxSteps := 3000000) (disch := first | exact True.intro | assumption | omega) only [↓eq_self, Option.toList_some, Option.toList_none, List.nil_append, List.cons_append, wsum_0, wsum_1, wsum_2, wsum_3, wsum_4, lkill, ↓reduceIte, if_true, if_false, Bool.false_eq_true, and_true, true_and, and_self, or_self, true_or, or_true, not_true, not_false_iff, mR_stI, mN_stI, isO_stI, isA_stI, mI_stI, mR_mW, mN_mW, isO_mW, isA_mW, mI_mW, mW_mW, stI_mW, vp_0, nI_add, nI_ltI, nI_leI, nI_eq, vpi, nI_clamp, nI_toN, nI_geT, nI_lt4, pk_mul, pk_sub, bv_0n, bv_1n, ↓bv_01n, n01a, n01b, Nat.reduceSub, u2_rw, rw_rw, rw_at, rw_ne, rw_175_174, rw_176_174, rw_176_175, rw_177_174, rw_177_175, rw_177_176, rw_178_174, rw_178_175, rw_178_176, rw_178_177, rw_179_174, rw_179_175, rw_179_176, rw_179_177, rw_179_178, rw_180_174, rw_180_175, rw_180_176, rw_180_177, rw_180_178, rw_180_179, up_at, up_ne, Nat.zero_add, Nat.add_zero, bk_oM hB, bk_m0 hB, bk_m1 hB, bk_m2 hB, bk_m4 hB, bk_m6 hB, bk_m9 hB, md_a hB, md_p hB, md_s hB, md_t hB, md_r hB, md_v hB, ite_nt, ↓g_M_fits_0, ↓g_M_fits_6, ↓g_M_fits_12, ↓g_M_fits_18, ↓g_M_fits_22, ↓g_M_fits_29, ↓g_M_fits_36, ↓g_M_fits_39, ↓g_M_fits_46, ↓g_M_fits_54, ↓g_M_fits_67, ↓g_M_fits_71, ↓g_M_fits_72, ↓g_M_fits_79, h1, h2, hdo, hfr, h3']
        exact hx
    · rw [bv_F (fun q => h2 ((ftU_s _ _ _).mp q).1)] at hx
      simp (maxSteps := 3000000) (disch := first | exact True.intro | assumption | omega) only [↓eq_self, Option.toList_some, Option.toList_none, List.nil_append, List.cons_append, wsum_0, wsum_1, wsum_2, wsum_3, wsum_4, lkill, ↓reduceIte, if_true, if_false, Bool.false_eq_true, and_true, true_and, and_self, or_self, true_or, or_true, not_true, not_false_iff, mR_stI, mN_stI, isO_stI, isA_stI, mI_stI, mR_mW, mN_mW, isO_mW, isA_mW, mI_mW, mW_mW, stI_mW, vp_0, nI_add, nI_ltI, nI_leI, nI_eq, vpi, nI_clamp, nI_toN, nI_geT, nI_lt4, pk_mul, pk_sub, bv_0n, bv_1n, ↓bv_01n, n01a, n01b, Nat.reduceSub, u2_rw, rw_rw, rw_at, rw_ne, rw_175_174, rw_176_174, rw_176_175, rw_177_174, rw_177_175, rw_177_176, rw_178_174, rw_178_175, rw_178_176, rw_178_177, rw_179_174, rw_179_175, rw_179_176, rw_179_177, rw_179_178, rw_180_174, rw_180_175, rw_180_176, rw_180_177, rw_180_178, rw_180_179, up_at, up_ne, Nat.zero_add, Nat.add_zero, bk_oM hB, bk_m0 hB, bk_m1 hB, bk_m2 hB, bk_m4 hB, bk_m6 hB, bk_m9 hB, md_a hB, md_p hB, md_s hB, md_t hB, md_r hB, md_v hB, ite_nt, ↓g_M_fits_0, ↓g_M_fits_6, ↓g_M_fits_12, ↓g_M_fits_18, ↓g_M_fits_22, ↓g_M_fits_29, ↓g_M_fits_36, ↓g_M_fits_39, ↓g_M_fits_46, ↓g_M_fits_54, ↓g_M_fits_67, ↓g_M_fits_71, ↓g_M_fits_72, ↓g_M_fits_79, h1, h2]
      exact hx
set_option maxRecDepth 100000 in
set_option maxHeartbeats 4000000 in
theorem ok_M_fits (Z : Zt) (d : Nat) : okE Z (d + 4) i_M_fits e_M_fits := mk_M_fits fun o k M h1 hp => by
  obtain ⟨rfl, hM, hk, ht, ho⟩ := hp
  have hB := hM.1
  have hdo : ∀ {K : Option Value → Mem → Prop}, pcall e_M_demandOf [.ref 174, .int (nI k), .int (nI 4)] M K = K (some (.int (nI (owU (mI M 175) k)))) M := by
    intro K
    rw [← ho]
    exact pc_M_demandOf (o := 174) (k := k) (w := 4) (M := M) ⟨rfl, hB, hk, by omega⟩ (by omega) (by omega)
  refine Gm_run (C := C_M_fits) (S := S_M_fits) [some (.ref 174), some (.int (nI k)), none, none, none] 1000 kt_M_fits (okE_cons (ok_M_demandOf Z (d + 2)) (okE_cons (ok_M_free Z d) (okE_cons (ok_M_use Z (d + 1)) okE_nil))) (ex_n rfl) ?_
  simp (maxSteps := 3000000) (disch := first | exact True.intro | assumption | omega) only [↓eq_self, Option.toList_some, Option.toList_none, List.nil_append, List.cons_append, wsum_0, wsum_1, wsum_2, wsum_3, wsum_4, lkill, ↓reduceIte, if_true, if_false, Bool.false_eq_true, and_true, true_and, and_self, or_self, true_or, or_true, not_true, not_false_iff, mR_stI, mN_stI, isO_stI, isA_stI, mI_stI, mR_mW, mN_mW, isO_mW, isA_mW, mI_mW, mW_mW, stI_mW, vp_0, nI_add, nI_ltI, nI_leI, nI_eq, vpi, nI_clamp, nI_toN, nI_geT, nI_lt4, pk_mul, pk_sub, bv_0n, bv_1n, ↓bv_01n, n01a, n01b, Nat.reduceSub, u2_rw, rw_rw, rw_at, rw_ne, rw_175_174, rw_176_174, rw_176_175, rw_177_174, rw_177_175, rw_177_176, rw_178_174, rw_178_175, rw_178_176, rw_178_177, rw_179_174, rw_179_175, rw_179_176, rw_179_177, rw_179_178, rw_180_174, rw_180_175, rw_180_176, rw_180_177, rw_180_178, rw_180_179, up_at, up_ne, Nat.zero_add, Nat.add_zero, bk_oM hB, bk_m0 hB, bk_m1 hB, bk_m2 hB, bk_m4 hB, bk_m6 hB, bk_m9 hB, md_a hB, md_p hB, md_s hB, md_t hB, md_r hB, md_v hB, ite_nt, ↓g_M_fits_0, ↓g_M_fits_6, ↓g_M_fits_12, ↓g_M_fits_18, ↓g_M_fits_22, ↓g_M_fits_29, ↓g_M_fits_36, ↓g_M_fits_39, ↓g_M_fits_46, ↓g_M_fits_54, ↓g_M_fits_67, ↓g_M_fits_71, ↓g_M_fits_72, ↓g_M_fits_79, hdo]
  have := lp_M_fits Z d hM hk ht 4 0 rfl
  rw [bv_T (show ftU (mI M 175) k 0 from fun r hr => absurd hr (Nat.not_lt_zero _))] at this
  exact this
noncomputable def ndU (u : Nat → Int32) : Nat → Int32 × Int32
  | 0 => (-1000003, nI 0)
  | t + 1 => @ite _ (¬ foU u (nI t) = -1000003 ∧ ftU u (foU u (nI t)).toNatClampNeg 4 ∧ ((ndU u t).1 = -1000003 ∨ dsU u t 4 < (ndU u t).2)) (Classical.propDecidable _) (foU u (nI t), dsU u t 4) (ndU u t)
noncomputable def nxU (u : Nat → Int32) : Int32 := (ndU u (uT u)).1
theorem fiU_cases (p : Nat → Prop) [DecidablePred p] : ∀ n i, fiU p n i = -1000003 ∨ ∃ k, i ≤ k ∧ k < i + n ∧ p k ∧ (∀ j, i ≤ j → j < k → ¬ p j) ∧ fiU p n i = nI k
  | 0, i => Or.inl rfl
  | n + 1, i => by
    unfold fiU
    by_cases h : p i
    · rw [if_pos h]
      exact Or.inr ⟨i, Nat.le_refl _, by omega, h, fun j h1 h2 => by omega, rfl⟩
    · rw [if_neg h]
      rcases fiU_cases p n (i + 1) with e | ⟨k, h1, h2, h3, h4, e⟩
      · exact Or.inl e
      · refine Or.inr ⟨k, by omega, by omega, h3, fun j q1 q2 => ?_, e⟩
        by_cases z : j = i
        · rw [z]; exact h
        · exact h4 j (by omega) q2
theorem nI_neN {k : Nat} (h : k < 2 ^ 31) : ¬ nI k = -1000003 := by
  intro q
  have := congrArg Int32.toInt q
  rw [nI_toInt h] at this
  have e : (-1000003 : Int32).toInt = -1000003 := by decide
  omega
def DsAll (u : Nat → Int32) : Prop := ∀ t, t < uT u → DsOk u t
def e_M_nextDemand : Ent := (fun av M => ∃ (o : Nat), av = [.ref o] ∧ (o = 174 ∧ MO M ∧ DsAll (mI M 175)), fun av M r_ M_ => ∀ (o : Nat), av = [.ref o] → r_ = (some (.int (nxU (mI M 175)))) ∧ M_ = (M))
theorem pc_M_nextDemand {o : Nat} {M : Mem} {K : Option Value → Mem → Prop} (hp : o = 174 ∧ MO M ∧ DsAll (mI M 175)) : pcall e_M_nextDemand [.ref o] M K = K (some (.int (nxU (mI M 175)))) (M) := propext ⟨fun h => h.2 _ _ (fun o' e => by simp only [List.cons.injEq, Value.ref.injEq, Value.int.injEq, Value.long.injEq, and_true] at e; have q0 := e; obtain rfl := q0; exact ⟨rfl, rfl⟩), fun h => ⟨⟨o, rfl, hp⟩, fun r_ M_ q => by obtain ⟨rfl, rfl⟩ := q _ rfl; exact h⟩⟩
theorem mk_M_nextDemand {Z : Zt} {d : Nat} (h : ∀ (o : Nat) (M : Mem), (o = 174 ∧ MO M ∧ DsAll (mI M 175)) → Gm Z d s_M_nextDemand [.ref o] M (ex (some (.int (nxU (mI M 175)))) (M))) : okE Z d i_M_nextDemand e_M_nextDemand := by
  rintro av M ⟨o, rfl, hp⟩
  exact Gm.cons (h o M  hp) (fun r_ M_ q o' e => by simp only [List.cons.injEq, Value.ref.injEq, Value.int.injEq, Value.long.injEq, and_true] at e; have q0 := e; obtain rfl := q0; exact q)
def C_M_nextDemand : List (Nat × Ent) := [(i_M_firstOf, e_M_firstOf), (i_M_fits, e_M_fits), (i_M_share, e_M_share)]
abbrev S_M_nextDemand : List Nat := [7]
def t_M_nextDemand_72 : List PI := (72, 1, 0, 1, 0, 0, []) :: (73, 9, 0, 0, 0, 0, []) :: []
def t_M_nextDemand_66 : List PI := (66, 1, 6, 3, 0, 1, []) :: (69, 6, 0, 7, 0, 0, []) :: t_M_nextDemand_72
def t_M_nextDemand_65 : List PI := (65, 1, 3, 2, 0, 0, []) :: t_M_nextDemand_66
def t_M_nextDemand_57 : List PI := (57, 1, 0, 4, 0, 0, []) :: (59, 1, 3, 1, 0, 0, []) :: (60, 1, 1, 0, 0, 0, []) :: (61, 1, 0, 3, 0, 0, []) :: (62, 11, 0, 5, 125, 0, [113, 2]) :: t_M_nextDemand_65
def t_M_nextDemand_53 : List PI := (53, 1, 0, 2, 0, 0, []) :: (54, 4, 3, 66, 0, 0, []) :: t_M_nextDemand_57
def t_M_nextDemand_48 : List PI := (48, 1, 1, 0, 0, 0, []) :: (49, 1, 0, 3, 0, 0, []) :: (50, 11, 0, 5, 125, 0, [113, 2]) :: t_M_nextDemand_53
def t_M_nextDemand_42 : List PI := (42, 1, 0, 1, 0, 0, []) :: (43, 0, 0, 52, 3, -1000003, []) :: (45, 4, 0, 57, 0, 0, []) :: t_M_nextDemand_48
def t_M_nextDemand_39 : List PI := (39, 5, 0, 66, 0, 0, []) :: t_M_nextDemand_42
def t_M_nextDemand_33 : List PI := (33, 1, 1, 0, 0, 0, []) :: (34, 1, 0, 4, 0, 0, []) :: (36, 11, 0, 5, 137, 0, [110, 2]) :: t_M_nextDemand_39
def t_M_nextDemand_24 : List PI := (24, 1, 3, 4, 0, 0, []) :: (26, 1, 0, 4, 0, 0, []) :: (28, 0, 0, 52, 3, -1000003, []) :: (30, 4, 0, 66, 0, 0, []) :: t_M_nextDemand_33
def t_M_nextDemand_19 : List PI := (19, 1, 1, 0, 0, 0, []) :: (20, 1, 0, 3, 0, 0, []) :: (21, 11, 0, 5, 133, 0, [100, 2]) :: t_M_nextDemand_24
def t_M_nextDemand_7 : List PI := (7, 1, 0, 3, 0, 0, []) :: (8, 1, 1, 0, 0, 0, []) :: (9, 8, 1, 5, 0, 0, [7]) :: (12, 0, 0, 0, 2, 447, []) :: (15, 8, 4, 0, 0, 0, []) :: (16, 4, 3, 72, 0, 0, []) :: t_M_nextDemand_19
def t_M_nextDemand_0 : List PI := (0, 0, 0, 52, 3, -1000003, []) :: (2, 1, 3, 1, 0, 0, []) :: (3, 0, 0, 0, 0, 0, []) :: (4, 1, 3, 2, 0, 0, []) :: (5, 0, 0, 0, 0, 0, []) :: (6, 1, 3, 3, 0, 0, []) :: t_M_nextDemand_7
theorem kt_M_nextDemand : okP s_M_nextDemand t_M_nextDemand_0 := k_M_nextDemand
theorem g_M_nextDemand_0 {Z : Zt} {nF f : Nat} {Kx : Nat → Kt} {Q : Option Value → Mem → Prop} {M : Mem} {x1 : Nat} : run Z nF C_M_nextDemand S_M_nextDemand Kx Q (f + 6) t_M_nextDemand_0 [some (.ref (x1)), none, none, none, none] [] M = (Kx 7 [some (.ref (x1)), some (.int ((-1000003 : Int32))), some (.int ((nI 0))), some (.int ((nI 0))), none] [] (M)) := rfl
theorem g_M_nextDemand_7 {Z : Zt} {nF f : Nat} {Kx : Nat → Kt} {Q : Option Value → Mem → Prop} {M : Mem} {x1 : Nat} {x2 : Int32} {x3 : Int32} {x4 : Int32} {x5 : Option Value} : run Z nF C_M_nextDemand S_M_nextDemand Kx Q (f + 6) t_M_nextDemand_7 [some (.ref (x1)), some (.int (x2)), some (.int (x3)), some (.int (x4)), x5] [] M = (isO (M) (x1) 5 ∧ isA (M) (mR (M) (x1) 0) ((nI 447)) ∧ (if (mI (M) (mR (M) (x1) 0) (Int32.toNatClampNeg ((nI 447)))) ≤ (x4) then run Z nF C_M_nextDemand S_M_nextDemand Kx Q f t_M_nextDemand_72 [some (.ref (x1)), some (.int (x2)), some (.int (x3)), some (.int (x4)), x5] [] (M) else run Z nF C_M_nextDemand S_M_nextDemand Kx Q f t_M_nextDemand_19 [some (.ref (x1)), some (.int (x2)), some (.int (x3)), some (.int (x4)), x5] [] (M))) := rfl
theorem g_M_nextDemand_19 {Z : Zt} {nF f : Nat} {Kx : Nat → Kt} {Q : Option Value → Mem → Prop} {M : Mem} {x1 : Nat} {x2 : Int32} {x3 : Int32} {x4 : Int32} {x5 : Option Value} : run Z nF C_M_nextDemand S_M_nextDemand Kx Q (f + 3) t_M_nextDemand_19 [some (.ref (x1)), some (.int (x2)), some (.int (x3)), some (.int (x4)), x5] [] M = (((isO (M) (x1) 5) ∧ wsum [] ≤ 8) ∧ pcall e_M_firstOf [.ref (x1), .int (x4)] (M) (fun v M_ => run Z nF C_M_nextDemand S_M_nextDemand Kx Q f t_M_nextDemand_24 [some (.ref (x1)), some (.int (x2)), some (.int (x3)), some (.int (x4)), x5] (v.toList ++ []) M_)) := rfl
theorem g_M_nextDemand_24 {Z : Zt} {nF f : Nat} {Kx : Nat → Kt} {Q : Option Value → Mem → Prop} {M : Mem} {x1 : Nat} {x2 : Int32} {x3 : Int32} {x4 : Int32} {x5 : Option Value} {x6 : Int32} : run Z nF C_M_nextDemand S_M_nextDemand Kx Q (f + 4) t_M_nextDemand_24 [some (.ref (x1)), some (.int (x2)), some (.int (x3)), some (.int (x4)), x5] [.int (x6)] M = ((if (x6) = ((-1000003 : Int32)) then run Z nF C_M_nextDemand S_M_nextDemand Kx Q f t_M_nextDemand_66 [some (.ref (x1)), some (.int (x2)), some (.int (x3)), some (.int (x4)), some (.int (x6))] [] (M) else run Z nF C_M_nextDemand S_M_nextDemand Kx Q f t_M_nextDemand_33 [some (.ref (x1)), some (.int (x2)), some (.int (x3)), some (.int (x4)), some (.int (x6))] [] (M))) := rfl
theorem g_M_nextDemand_33 {Z : Zt} {nF f : Nat} {Kx : Nat → Kt} {Q : Option Value → Mem → Prop} {M : Mem} {x1 : Nat} {x2 : Int32} {x3 : Int32} {x4 : Int32} {x5 : Int32} : run Z nF C_M_nextDemand S_M_nextDemand Kx Q (f + 3) t_M_nextDemand_33 [some (.ref (x1)), some (.int (x2)), some (.int (x3)), some (.int (x4)), some (.int (x5))] [] M = (((isO (M) (x1) 5) ∧ wsum [] ≤ 8) ∧ pcall e_M_fits [.ref (x1), .int (x5)] (M) (fun v M_ => run Z nF C_M_nextDemand S_M_nextDemand Kx Q f t_M_nextDemand_39 [some (.ref (x1)), some (.int (x2)), some (.int (x3)), some (.int (x4)), some (.int (x5))] (v.toList ++ []) M_)) := rfl
theorem g_M_nextDemand_39 {Z : Zt} {nF f : Nat} {Kx : Nat → Kt} {Q : Option Value → Mem → Prop} {M : Mem} {x1 : Nat} {x2 : Int32} {x3 : Int32} {x4 : Int32} {x5 : Int32} {x6 : Int32} : run Z nF C_M_nextDemand S_M_nextDemand Kx Q (f + 1) t_M_nextDemand_39 [some (.ref (x1)), some (.int (x2)), some (.int (x3)), some (.int (x4)), some (.int (x5))] [.int (x6)] M = ((if (x6) = nI 0 then run Z nF C_M_nextDemand S_M_nextDemand Kx Q f t_M_nextDemand_66 [some (.ref (x1)), some (.int (x2)), some (.int (x3)), some (.int (x4)), some (.int (x5))] [] (M) else run Z nF C_M_nextDemand S_M_nextDemand Kx Q f t_M_nextDemand_42 [some (.ref (x1)), some (.int (x2)), some (.int (x3)), some (.int (x4)), some (.int (x5))] [] (M))) := rfl
theorem g_M_nextDemand_42 {Z : Zt} {nF f : Nat} {Kx : Nat → Kt} {Q : Option Value → Mem → Prop} {M : Mem} {x1 : Nat} {x2 : Int32} {x3 : Int32} {x4 : Int32} {x5 : Int32} : run Z nF C_M_nextDemand S_M_nextDemand Kx Q (f + 3) t_M_nextDemand_42 [some (.ref (x1)), some (.int (x2)), some (.int (x3)), some (.int (x4)), some (.int (x5))] [] M = ((if (x2) = ((-1000003 : Int32)) then run Z nF C_M_nextDemand S_M_nextDemand Kx Q f t_M_nextDemand_57 [some (.ref (x1)), some (.int (x2)), some (.int (x3)), some (.int (x4)), some (.int (x5))] [] (M) else run Z nF C_M_nextDemand S_M_nextDemand Kx Q f t_M_nextDemand_48 [some (.ref (x1)), some (.int (x2)), some (.int (x3)), some (.int (x4)), some (.int (x5))] [] (M))) := rfl
theorem g_M_nextDemand_48 {Z : Zt} {nF f : Nat} {Kx : Nat → Kt} {Q : Option Value → Mem → Prop} {M : Mem} {x1 : Nat} {x2 : Int32} {x3 : Int32} {x4 : Int32} {x5 : Int32} : run Z nF C_M_nextDemand S_M_nextDemand Kx Q (f + 3) t_M_nextDemand_48 [some (.ref (x1)), some (.int (x2)), some (.int (x3)), some (.int (x4)), some (.int (x5))] [] M = (((isO (M) (x1) 5) ∧ wsum [] ≤ 8) ∧ pcall e_M_share [.ref (x1), .int (x4)] (M) (fun v M_ => run Z nF C_M_nextDemand S_M_nextDemand Kx Q f t_M_nextDemand_53 [some (.ref (x1)), some (.int (x2)), some (.int (x3)), some (.int (x4)), some (.int (x5))] (v.toList ++ []) M_)) := rfl
theorem g_M_nextDemand_53 {Z : Zt} {nF f : Nat} {Kx : Nat → Kt} {Q : Option Value → Mem → Prop} {M : Mem} {x1 : Nat} {x2 : Int32} {x3 : Int32} {x4 : Int32} {x5 : Int32} {x6 : Int32} : run Z nF C_M_nextDemand S_M_nextDemand Kx Q (f + 2) t_M_nextDemand_53 [some (.ref (x1)), some (.int (x2)), some (.int (x3)), some (.int (x4)), some (.int (x5))] [.int (x6)] M = ((if (x3) ≤ (x6) then run Z nF C_M_nextDemand S_M_nextDemand Kx Q f t_M_nextDemand_66 [some (.ref (x1)), some (.int (x2)), some (.int (x3)), some (.int (x4)), some (.int (x5))] [] (M) else run Z nF C_M_nextDemand S_M_nextDemand Kx Q f t_M_nextDemand_57 [some (.ref (x1)), some (.int (x2)), some (.int (x3)), some (.int (x4)), some (.int (x5))] [] (M))) := rfl
theorem g_M_nextDemand_57 {Z : Zt} {nF f : Nat} {Kx : Nat → Kt} {Q : Option Value → Mem → Prop} {M : Mem} {x1 : Nat} {x2 : Int32} {x3 : Int32} {x4 : Int32} {x5 : Int32} : run Z nF C_M_nextDemand S_M_nextDemand Kx Q (f + 5) t_M_nextDemand_57 [some (.ref (x1)), some (.int (x2)), some (.int (x3)), some (.int (x4)), some (.int (x5))] [] M = (((isO (M) (x1) 5) ∧ wsum [] ≤ 8) ∧ pcall e_M_share [.ref (x1), .int (x4)] (M) (fun v M_ => run Z nF C_M_nextDemand S_M_nextDemand Kx Q f t_M_nextDemand_65 [some (.ref (x1)), some (.int (x5)), some (.int (x3)), some (.int (x4)), some (.int (x5))] (v.toList ++ []) M_)) := rfl
theorem g_M_nextDemand_65 {Z : Zt} {nF f : Nat} {Kx : Nat → Kt} {Q : Option Value → Mem → Prop} {M : Mem} {x1 : Nat} {x2 : Int32} {x3 : Int32} {x4 : Int32} {x5 : Int32} {x6 : Int32} : run Z nF C_M_nextDemand S_M_nextDemand Kx Q (f + 1) t_M_nextDemand_65 [some (.ref (x1)), some (.int (x2)), some (.int (x3)), some (.int (x4)), some (.int (x5))] [.int (x6)] M = (run Z nF C_M_nextDemand S_M_nextDemand Kx Q f t_M_nextDemand_66 [some (.ref (x1)), some (.int (x2)), some (.int (x6)), some (.int (x4)), some (.int (x5))] [] (M)) := rfl
theorem g_M_nextDemand_66 {Z : Zt} {nF f : Nat} {Kx : Nat → Kt} {Q : Option Value → Mem → Prop} {M : Mem} {x1 : Nat} {x2 : Int32} {x3 : Int32} {x4 : Int32} {x5 : Int32} : run Z nF C_M_nextDemand S_M_nextDemand Kx Q (f + 2) t_M_nextDemand_66 [some (.ref (x1)), some (.int (x2)), some (.int (x3)), some (.int (x4)), some (.int (x5))] [] M = (Kx 7 [some (.ref (x1)), some (.int (x2)), some (.int (x3)), some (.int (x4 + (nI 1))), some (.int (x5))] [] (M)) := rfl
theorem g_M_nextDemand_72 {Z : Zt} {nF f : Nat} {Kx : Nat → Kt} {Q : Option Value → Mem → Prop} {M : Mem} {x1 : Nat} {x2 : Int32} {x3 : Int32} {x4 : Int32} {x5 : Option Value} : run Z nF C_M_nextDemand S_M_nextDemand Kx Q (f + 2) t_M_nextDemand_72 [some (.ref (x1)), some (.int (x2)), some (.int (x3)), some (.int (x4)), x5] [] M = (Q (some (.int (x2))) (M)) := rfl
set_option maxRecDepth 100000 in
set_option maxHeartbeats 4000000 in
theorem lp_M_nextDemand (Z : Zt) (d : Nat) {M : Mem} (hM : MO M) (hd : DsAll (mI M 175)) : ∀ n t w, t + n = uT (mI M 175) → X Z (d + 5) s_M_nextDemand (mN M) (mN M) (ex (some (.int (nxU (mI M 175)))) M) 7 [some (.ref 174), some (.int (ndU (mI M 175) t).1), some (.int (ndU (mI M 175) t).2), some (.int (nI t)), w] [] M := by
  obtain ⟨hB, hU⟩ := id hM
  have hT := hU.1.1
  have h6 := hU.1.2
  have h24 := hU.2.2.1.2
  intro n
  induction n with
  | zero =>
    intro t w ht
    obtain rfl : t = uT (mI M 175) := by omega
    refine X_runT (C := C_M_nextDemand) (S := S_M_nextDemand) (T := t_M_nextDemand_7) 1000 kt_M_nextDemand (okE_cons (ok_M_firstOf Z (d + 2)) (okE_cons (ok_M_fits Z d) (okE_cons (ok_M_share Z (d + 1)) okE_nil))) ?_
    simp (maxSteps := 3000000) (disch := first | exact True.intro | assumption | omega) only [↓eq_self, Option.toList_some, Option.toList_none, List.nil_append, List.cons_append, wsum_0, wsum_1, wsum_2, wsum_3, wsum_4, lkill, ↓reduceIte, if_true, if_false, Bool.false_eq_true, and_true, true_and, and_self, or_self, true_or, or_true, not_true, not_false_iff, mR_stI, mN_stI, isO_stI, isA_stI, mI_stI, mR_mW, mN_mW, isO_mW, isA_mW, mI_mW, mW_mW, stI_mW, vp_0, nI_add, nI_ltI, nI_leI, nI_eq, vpi, nI_clamp, nI_toN, nI_geT, nI_lt4, pk_mul, pk_sub, bv_0n, bv_1n, ↓bv_01n, n01a, n01b, Nat.reduceSub, u2_rw, rw_rw, rw_at, rw_ne, rw_175_174, rw_176_174, rw_176_175, rw_177_174, rw_177_175, rw_177_176, rw_178_174, rw_178_175, rw_178_176, rw_178_177, rw_179_174, rw_179_175, rw_179_176, rw_179_177, rw_179_178, rw_180_174, rw_180_175, rw_180_176, rw_180_177, rw_180_178, rw_180_179, up_at, up_ne, Nat.zero_add, Nat.add_zero, bk_oM hB, bk_m0 hB, bk_m1 hB, bk_m2 hB, bk_m4 hB, bk_m6 hB, bk_m9 hB, md_a hB, md_p hB, md_s hB, md_t hB, md_r hB, md_v hB, ite_nt, ↓g_M_nextDemand_0, ↓g_M_nextDemand_7, ↓g_M_nextDemand_19, ↓g_M_nextDemand_24, ↓g_M_nextDemand_33, ↓g_M_nextDemand_39, ↓g_M_nextDemand_42, ↓g_M_nextDemand_48, ↓g_M_nextDemand_53, ↓g_M_nextDemand_57, ↓g_M_nextDemand_65, ↓g_M_nextDemand_66, ↓g_M_nextDemand_72, hT, Nat.le_refl]
    exact ⟨rfl, rfl⟩
  | succ n ih =>
    intro t w ht
    have h1 : ¬ uT (mI M 175) ≤ t := by omega
    have hfo : ∀ {K : Option Value → Mem → Prop}, pcall e_M_firstOf [.ref 174, .int (nI t)] M K = K (some (.int (foU (mI M 175) (nI t)))) M := pc_M_firstOf (o := 174) (t := nI t) (M := M) ⟨rfl, hM⟩
    have hsh : ∀ {K : Option Value → Mem → Prop}, pcall e_M_share [.ref 174, .int (nI t)] M K = K (some (.int (dsU (mI M 175) t 4))) M := pc_M_share (o := 174) (t := t) (M := M) ⟨rfl, hM, by omega, hd t (by omega)⟩ (by omega)
    have hx := fun w => ih (t + 1) w (by omega)
    refine X_runT (C := C_M_nextDemand) (S := S_M_nextDemand) (T := t_M_nextDemand_7) 1000 kt_M_nextDemand (okE_cons (ok_M_firstOf Z (d + 2)) (okE_cons (ok_M_fits Z d) (okE_cons (ok_M_share Z (d + 1)) okE_nil))) ?_
    simp (maxSteps := 3000000) (disch := first | exact True.intro | assumption | omega) only [↓eq_self, Option.toList_some, Option.toList_none, List.nil_append, List.cons_append, wsum_0, wsum_1, wsum_2, wsum_3, wsum_4, lkill, ↓reduceIte, if_true, if_false, Bool.false_eq_true, and_true, true_and, and_self, or_self, true_or, or_true, not_true, not_false_iff, mR_stI, mN_stI, isO_stI, isA_stI, mI_stI, mR_mW, mN_mW, isO_mW, isA_mW, mI_mW, mW_mW, stI_mW, vp_0, nI_add, nI_ltI, nI_leI, nI_eq, vpi, nI_clamp, nI_toN, nI_geT, nI_lt4, pk_mul, pk_sub, bv_0n, bv_1n, ↓bv_01n, n01a, n01b, Nat.reduceSub, u2_rw, rw_rw, rw_at, rw_ne, rw_175_174, rw_176_174, rw_176_175, rw_177_174, rw_177_175, rw_177_176, rw_178_174, rw_178_175, rw_178_176, rw_178_177, rw_179_174, rw_179_175, rw_179_176, rw_179_177, rw_179_178, rw_180_174, rw_180_175, rw_180_176, rw_180_177, rw_180_178, rw_180_179, up_at, up_ne, Nat.zero_add, Nat.add_zero, bk_oM hB, bk_m0 hB, bk_m1 hB, bk_m2 hB, bk_m4 hB, bk_m6 hB, bk_m9 hB, md_a hB, md_p hB, md_s hB, md_t hB, md_r hB, md_v hB, ite_nt, ↓g_M_nextDemand_0, ↓g_M_nextDemand_7, ↓g_M_nextDemand_19, ↓g_M_nextDemand_24, hT, h1, hfo]
    rcases fiU_cases (fun k => mI M 175 (320 + 5 * k + 4) = nI t) (uD (mI M 175)) 0 with e | ⟨k, -, h2, h3, -, e⟩
    · have e : foU (mI M 175) (nI t) = -1000003 := e
      have en : ndU (mI M 175) (t + 1) = ndU (mI M 175) t := by
        rw [ndU]
        exact if_neg (fun q => q.1 e)
      rw [en] at hx
      rw [if_pos e]
      simp (maxSteps := 3000000) (disch := first | exact True.intro | assumption | omega) only [↓eq_self, Option.toList_some, Option.toList_none, List.nil_append, List.cons_append, wsum_0, wsum_1, wsum_2, wsum_3, wsum_4, lkill, ↓reduceIte, if_true, if_false, Bool.false_eq_true, and_true, true_and, and_self, or_self, true_or, or_true, not_true, not_false_iff, mR_stI, mN_stI, isO_stI, isA_stI, mI_stI, mR_mW, mN_mW, isO_mW, isA_mW, mI_mW, mW_mW, stI_mW, vp_0, nI_add, nI_ltI, nI_leI, nI_eq, vpi, nI_clamp, nI_toN, nI_geT, nI_lt4, pk_mul, pk_sub, bv_0n, bv_1n, ↓bv_01n, n01a, n01b, Nat.reduceSub, u2_rw, rw_rw, rw_at, rw_ne, rw_175_174, rw_176_174, rw_176_175, rw_177_174, rw_177_175, rw_177_176, rw_178_174, rw_178_175, rw_178_176, rw_178_177, rw_179_174, rw_179_175, rw_179_176, rw_179_177, rw_179_178, rw_180_174, rw_180_175, rw_180_176, rw_180_177, rw_180_178, rw_180_179, up_at, up_ne, Nat.zero_add, Nat.add_zero, bk_oM hB, bk_m0 hB, bk_m1 hB, bk_m2 hB, bk_m4 hB, bk_m6 hB, bk_m9 hB, md_a hB, md_p hB, md_s hB, md_t hB, md_r hB, md_v hB, ite_nt, ↓g_M_nextDemand_66]
      exact hx _
    · have e : foU (mI M 175) (nI t) = nI k := e
      have hne : ¬ nI k = -1000003 := nI_neN (by omega)
      have how : owU (mI M 175) k = t := tN_of h3 (by omega)
      have hft : ∀ {K : Option Value → Mem → Prop}, pcall e_M_fits [.ref 174, .int (nI k)] M K = K (some (.int (bv (ftU (mI M 175) k 4)))) M := pc_M_fits (o := 174) (k := k) (M := M) ⟨rfl, hM, by omega, by rw [how]; omega, by rw [how]; exact h3⟩ (by omega)
      have hck : (nI k).toNatClampNeg = k := nI_clamp (by omega)
      have en : ndU (mI M 175) (t + 1) = @ite _ (ftU (mI M 175) k 4 ∧ ((ndU (mI M 175) t).1 = -1000003 ∨ dsU (mI M 175) t 4 < (ndU (mI M 175) t).2)) (Classical.propDecidable _) (nI k, dsU (mI M 175) t 4) (ndU (mI M 175) t) := by
        rw [ndU, e, hck]
        by_cases q : ftU (mI M 175) k 4 ∧ ((ndU (mI M 175) t).1 = -1000003 ∨ dsU (mI M 175) t 4 < (ndU (mI M 175) t).2)
        · rw [if_pos q, if_pos ⟨hne, q⟩]
        · rw [if_neg q, if_neg (fun z => q z.2)]
      rw [e, if_neg hne]
      rw [en] at hx
      generalize hN : ndU (mI M 175) t = N at *
      obtain ⟨b0, l0⟩ := N
      by_cases g1 : ftU (mI M 175) k 4
      · by_cases g2 : b0 = -1000003
        · rw [if_pos ⟨g1, Or.inl g2⟩] at hx
          simp (maxSteps := 3000000) (disch := first | exact True.intro | assumption | omega) only [↓eq_self, Option.toList_some, Option.toList_none, List.nil_append, List.cons_append, wsum_0, wsum_1, wsum_2, wsum_3, wsum_4, lkill, ↓reduceIte, if_true, if_false, Bool.false_eq_true, and_true, true_and, and_self, or_self, true_or, or_true, not_true, not_false_iff, mR_stI, mN_stI, isO_stI, isA_stI, mI_stI, mR_mW, mN_mW, isO_mW, isA_mW, mI_mW, mW_mW, stI_mW, vp_0, nI_add, nI_ltI, nI_leI, nI_eq, vpi, nI_clamp, nI_toN, nI_geT, nI_lt4, pk_mul, pk_sub, bv_0n, bv_1n, ↓bv_01n, n01a, n01b, Nat.reduceSub, u2_rw, rw_rw, rw_at, rw_ne, rw_175_174, rw_176_174, rw_176_175, rw_177_174, rw_177_175, rw_177_176, rw_178_174, rw_178_175, rw_178_176, rw_178_177, rw_179_174, rw_179_175, rw_179_176, rw_179_177, rw_179_178, rw_180_174, rw_180_175, rw_180_176, rw_180_177, rw_180_178, rw_180_179, up_at, up_ne, Nat.zero_add, Nat.add_zero, bk_oM hB, bk_m0 hB, bk_m1 hB, bk_m2 hB, bk_m4 hB, bk_m6 hB, bk_m9 hB, md_a hB, md_p hB, md_s hB, md_t hB, md_r hB, md_v hB, ite_nt, ↓g_M_nextDemand_33, ↓g_M_nextDemand_39, ↓g_M_nextDemand_42, hft, g1]
          rw [if_pos g2]
          simp (maxSteps := 3000000) (disch := first | exact True.intro | assumption | omega) only [↓eq_self, Option.toList_some, Option.toList_none, List.nil_append, List.cons_append, wsum_0, wsum_1, wsum_2, wsum_3, wsum_4, lkill, ↓reduceIte, if_true, if_false, Bool.false_eq_true, and_true, true_and, and_self, or_self, true_or, or_true, not_true, not_false_iff, mR_stI, mN_stI, isO_stI, isA_stI, mI_stI, mR_mW, mN_mW, isO_mW, isA_mW, mI_mW, mW_mW, stI_mW, vp_0, nI_add, nI_ltI, nI_leI, nI_eq, vpi, nI_clamp, nI_toN, nI_geT, nI_lt4, pk_mul, pk_sub, bv_0n, bv_1n, ↓bv_01n, n01a, n01b, Nat.reduceSub, u2_rw, rw_rw, rw_at, rw_ne, rw_175_174, rw_176_174, rw_176_175, rw_177_174, rw_177_175, rw_177_176, rw_178_174, rw_178_175, rw_178_176, rw_178_177, rw_179_174, rw_179_175, rw_179_176, rw_179_177, rw_179_178, rw_180_174, rw_180_175, rw_180_176, rw_180_177, rw_180_178, rw_180_179, up_at, up_ne, Nat.zero_add, Nat.add_zero, bk_oM hB, bk_m0 hB, bk_m1 hB, bk_m2 hB, bk_m4 hB, bk_m6 hB, bk_m9 hB, md_a hB, md_p hB, md_s hB, md_t hB, md_r hB, md_v hB, ite_nt, ↓g_M_nextDemand_57, ↓g_M_nextDemand_65, ↓g_M_nextDemand_66, hsh]
          exact hx _
        · by_cases g3 : dsU (mI M 175) t 4 < l0
          · have g3' : ¬ l0 ≤ dsU (mI M 175) t 4 := Int32.not_le.mpr g3
            rw [if_pos ⟨g1, Or.inr g3⟩] at hx
            simp (maxSteps := 3000000) (disch := first | exact True.intro | assumption | omega) only [↓eq_self, Option.toList_some, Option.toList_none, List.nil_append, List.cons_append, wsum_0, wsum_1, wsum_2, wsum_3, wsum_4, lkill, ↓reduceIte, if_true, if_false, Bool.false_eq_true, and_true, true_and, and_self, or_self, true_or, or_true, not_true, not_false_iff, mR_stI, mN_stI, isO_stI, isA_stI, mI_stI, mR_mW, mN_mW, isO_mW, isA_mW, mI_mW, mW_mW, stI_mW, vp_0, nI_add, nI_ltI, nI_leI, nI_eq, vpi, nI_clamp, nI_toN, nI_geT, nI_lt4, pk_mul, pk_sub, bv_0n, bv_1n, ↓bv_01n, n01a, n01b, Nat.reduceSub, u2_rw, rw_rw, rw_at, rw_ne, rw_175_174, rw_176_174, rw_176_175, rw_177_174, rw_177_175, rw_177_176, rw_178_174, rw_178_175, rw_178_176, rw_178_177, rw_179_174, rw_179_175, rw_179_176, rw_179_177, rw_179_178, rw_180_174, rw_180_175, rw_180_176, rw_180_177, rw_180_178, rw_180_179, up_at, up_ne, Nat.zero_add, Nat.add_zero, bk_oM hB, bk_m0 hB, bk_m1 hB, bk_m2 hB, bk_m4 hB, bk_m6 hB, bk_m9 hB, md_a hB, md_p hB, md_s hB, md_t hB, md_r hB, md_v hB, ite_nt, ↓g_M_nextDemand_33, ↓g_M_nextDemand_39, ↓g_M_nextDemand_42, hft, g1]
            rw [if_neg g2]
            simp (maxSteps := 3000000) (disch := first | exact True.intro | assumption | omega) only [↓eq_self, Option.toList_some, Option.toList_none, List.nil_append, List.cons_append, wsum_0, wsum_1, wsum_2, wsum_3, wsum_4, lkill, ↓reduceIte, if_true, if_false, Bool.false_eq_true, and_true, true_and, and_self, or_self, true_or, or_true, not_true, not_false_iff, mR_stI, mN_stI, isO_stI, isA_stI, mI_stI, mR_mW, mN_mW, isO_mW, isA_mW, mI_mW, mW_mW, stI_mW, vp_0, nI_add, nI_ltI, nI_leI, nI_eq, vpi, nI_clamp, nI_toN, nI_geT, nI_lt4, pk_mul, pk_sub, bv_0n, bv_1n, ↓bv_01n, n01a, n01b, Nat.reduceSub, u2_rw, rw_rw, rw_at, rw_ne, rw_175_174, rw_176_174, rw_176_175, rw_177_174, rw_177_175, rw_177_176, rw_178_174, rw_178_175, rw_178_176, rw_178_177, rw_179_174, rw_179_175, rw_179_176, rw_179_177, rw_179_178, rw_180_174, rw_180_175, rw_180_176, rw_180_177, rw_180_178, rw_180_179, up_at, up_ne, Nat.zero_add, Nat.add_zero, bk_oM hB, bk_m0 hB, bk_m1 hB, bk_m2 hB, bk_m4 hB, bk_m6 hB, bk_m9 hB, md_a hB, md_p hB, md_s hB, md_t hB, md_r hB, md_v hB, ite_nt, ↓g_M_nextDemand_48, ↓g_M_nextDemand_53, ↓g_M_nextDemand_57, ↓g_M_nextDemand_65, ↓g_M_nextDemand_66, hsh, g3']
            exact hx _
          · have g3' : l0 ≤ dsU (mI M 175) t 4 := Int32.not_lt.mp g3
            rw [if_neg (fun q => q.2.elim g2 g3)] at hx
            simp (maxSteps := 3000000) (disch := first | exact True.intro | assumption | omega) only [↓eq_self, Option.toList_some, Option.toList_none, List.nil_append, List.cons_append, wsum_0, wsum_1, wsum_2, wsum_3, wsum_4, lkill, ↓reduceIte, if_true, if_false, Bool.false_eq_true, and_true, true_and, and_self, or_self, true_or, or_true, not_true, not_false_iff, mR_stI, mN_stI, isO_stI, isA_stI, mI_stI, mR_mW, mN_mW, isO_mW, isA_mW, mI_mW, mW_mW, stI_mW, vp_0, nI_add, nI_ltI, nI_leI, nI_eq, vpi, nI_clamp, nI_toN, nI_geT, nI_lt4, pk_mul, pk_sub, bv_0n, bv_1n, ↓bv_01n, n01a, n01b, Nat.reduceSub, u2_rw, rw_rw, rw_at, rw_ne, rw_175_174, rw_176_174, rw_176_175, rw_177_174, rw_177_175, rw_177_176, rw_178_174, rw_178_175, rw_178_176, rw_178_177, rw_179_174, rw_179_175, rw_179_176, rw_179_177, rw_179_178, rw_180_174, rw_180_175, rw_180_176, rw_180_177, rw_180_178, rw_180_179, up_at, up_ne, Nat.zero_add, Nat.add_zero, bk_oM hB, bk_m0 hB, bk_m1 hB, bk_m2 hB, bk_m4 hB, bk_m6 hB, bk_m9 hB, md_a hB, md_p hB, md_s hB, md_t hB, md_r hB, md_v hB, ite_nt, ↓g_M_nextDemand_33, ↓g_M_nextDemand_39, ↓g_M_nextDemand_42, hft, g1]
            rw [if_neg g2]
            simp (maxSteps := 3000000) (disch := first | exact True.intro | assumption | omega) only [↓eq_self, Option.toList_some, Option.toList_none, List.nil_append, List.cons_append, wsum_0, wsum_1, wsum_2, wsum_3, wsum_4, lkill, ↓reduceIte, if_true, if_false, Bool.false_eq_true, and_true, true_and, and_self, or_self, true_or, or_true, not_true, not_false_iff, mR_stI, mN_stI, isO_stI, isA_stI, mI_stI, mR_mW, mN_mW, isO_mW, isA_mW, mI_mW, mW_mW, stI_mW, vp_0, nI_add, nI_ltI, nI_leI, nI_eq, vpi, nI_clamp, nI_toN, nI_geT, nI_lt4, pk_mul, pk_sub, bv_0n, bv_1n, ↓bv_01n, n01a, n01b, Nat.reduceSub, u2_rw, rw_rw, rw_at, rw_ne, rw_175_174, rw_176_174, rw_176_175, rw_177_174, rw_177_175, rw_177_176, rw_178_174, rw_178_175, rw_178_176, rw_178_177, rw_179_174, rw_179_175, rw_179_176, rw_179_177, rw_179_178, rw_180_174, rw_180_175, rw_180_176, rw_180_177, rw_180_178, rw_180_179, up_at, up_ne, Nat.zero_add, Nat.add_zero, bk_oM hB, bk_m0 hB, bk_m1 hB, bk_m2 hB, bk_m4 hB, bk_m6 hB, bk_m9 hB, md_a hB, md_p hB, md_s hB, md_t hB, md_r hB, md_v hB, ite_nt, ↓g_M_nextDemand_48, ↓g_M_nextDemand_53, ↓g_M_nextDemand_57, ↓g_M_nextDemand_65, ↓g_M_nextDemand_66, hsh, g3']
            exact hx _
      · rw [if_neg (fun q => g1 q.1)] at hx
        simp (maxSteps := 3000000) (disch := first | exact True.intro | assumption | omega) only [↓eq_self, Option.toList_some, Option.toList_none, List.nil_append, List.cons_append, wsum_0, wsum_1, wsum_2, wsum_3, wsum_4, lkill, ↓reduceIte, if_true, if_false, Bool.false_eq_true, and_true, true_and, and_self, or_self, true_or, or_true, not_true, not_false_iff, mR_stI, mN_stI, isO_stI, isA_stI, mI_stI, mR_mW, mN_mW, isO_mW, isA_mW, mI_mW, mW_mW, stI_mW, vp_0, nI_add, nI_ltI, nI_leI, nI_eq, vpi, nI_clamp, nI_toN, nI_geT, nI_lt4, pk_mul, pk_sub, bv_0n, bv_1n, ↓bv_01n, n01a, n01b, Nat.reduceSub, u2_rw, rw_rw, rw_at, rw_ne, rw_175_174, rw_176_174, rw_176_175, rw_177_174, rw_177_175, rw_177_176, rw_178_174, rw_178_175, rw_178_176, rw_178_177, rw_179_174, rw_179_175, rw_179_176, rw_179_177, rw_179_178, rw_180_174, rw_180_175, rw_180_176, rw_180_177, rw_180_178, rw_180_179, up_at, up_ne, Nat.zero_add, Nat.add_zero, bk_oM hB, bk_m0 hB, bk_m1 hB, bk_m2 hB, bk_m4 hB, bk_m6 hB, bk_m9 hB, md_a hB, md_p hB, md_s hB, md_t hB, md_r hB, md_v hB, ite_nt, ↓g_M_nextDemand_33, ↓g_M_nextDemand_39, ↓g_M_nextDemand_42, ↓g_M_nextDemand_48, ↓g_M_nextDemand_53, ↓g_M_nextDemand_57, ↓g_M_nextDemand_65, ↓g_M_nextDemand_66, hft, g1]
        exact hx _
set_option maxRecDepth 100000 in
set_option maxHeartbeats 4000000 in
theorem ok_M_nextDemand (Z : Zt) (d : Nat) : okE Z (d + 5) i_M_nextDemand e_M_nextDemand := mk_M_nextDemand fun o M hp => by
  obtain ⟨rfl, hM, hd⟩ := hp
  refine Gm_run (C := C_M_nextDemand) (S := S_M_nextDemand) [some (.ref 174), none, none, none, none] 1000 kt_M_nextDemand (okE_cons (ok_M_firstOf Z (d + 2)) (okE_cons (ok_M_fits Z d) (okE_cons (ok_M_share Z (d + 1)) okE_nil))) (ex_n rfl) ?_
  simp (maxSteps := 3000000) (disch := first | exact True.intro | assumption | omega) only [↓eq_self, Option.toList_some, Option.toList_none, List.nil_append, List.cons_append, wsum_0, wsum_1, wsum_2, wsum_3, wsum_4, lkill, ↓reduceIte, if_true, if_false, Bool.false_eq_true, and_true, true_and, and_self, or_self, true_or, or_true, not_true, not_false_iff, mR_stI, mN_stI, isO_stI, isA_stI, mI_stI, mR_mW, mN_mW, isO_mW, isA_mW, mI_mW, mW_mW, stI_mW, vp_0, nI_addL, nI_mulL, nI_subL, nI_ltL, nI_leL, nI_Llt, nI_Lle, nI_eqL, nI_Leq, nI_add, pk_mul, nI_ltI, nI_leI, nI_eq, vpi, nI_clamp, nI_toN, ↓g_M_nextDemand_0]
  have := lp_M_nextDemand Z d hM hd (uT (mI M 175)) 0 none (Nat.zero_add _)
  rw [show ndU (mI M 175) 0 = (-1000003, nI 0) from rfl] at this
  exact this
