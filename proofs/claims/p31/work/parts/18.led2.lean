theorem fwR_cases (p : Nat → Prop) [DecidablePred p] : ∀ n i, fwR p n i = -1 ∨ ∃ k, i ≤ k ∧ k < i + n ∧ p k ∧ fwR p n i = nI k
  | 0, i => Or.inl rfl
  | n + 1, i => by
    unfold fwR
    by_cases h : p i
    · rw [if_pos h]
      exact Or.inr ⟨i, Nat.le_refl _, by omega, h, rfl⟩
    · rw [if_neg h]
      rcases fwR_cases p n (i + 1) with e | ⟨k, h1, h2, h3, h4⟩
      · exact Or.inl e
      · exact Or.inr ⟨k, by omega, by omega, h3, h4⟩
theorem m1_neg : ((-1 : Int32) < 0) = True := by decide
theorem m1_nn : ((0 : Int32) ≤ -1) = False := by decide
def e_L_isBankrupt : Ent := (fun av M => ∃ (b : Nat) (t : Int32), av = [.ref b, .int t] ∧ (LedOk M b), fun av M r_ M_ => ∀ (b : Nat) (t : Int32), av = [.ref b, .int t] → r_ = (some (.int (bv (isB (mI M) b t)))) ∧ M_ = (M))
theorem pc_L_isBankrupt {b : Nat} {t : Int32} {M : Mem} {K : Option Value → Mem → Prop} (hp : LedOk M b) : pcall e_L_isBankrupt [.ref b, .int t] M K = K (some (.int (bv (isB (mI M) b t)))) (M) := propext ⟨fun h => h.2 _ _ (fun b' t' e => by simp only [List.cons.injEq, Value.ref.injEq, Value.int.injEq, Value.long.injEq, and_true] at e; obtain ⟨q0, q1⟩ := e; obtain rfl := q0; obtain rfl := q1; exact ⟨rfl, rfl⟩), fun h => ⟨⟨b, t, rfl, hp⟩, fun r_ M_ q => by obtain ⟨rfl, rfl⟩ := q _ _ rfl; exact h⟩⟩
theorem mk_L_isBankrupt {Z : Zt} {d : Nat} (h : ∀ (b : Nat) (t : Int32) (M : Mem), (LedOk M b) → Gm Z d s_L_isBankrupt [.ref b, .int t] M (ex (some (.int (bv (isB (mI M) b t)))) (M))) : okE Z d i_L_isBankrupt e_L_isBankrupt := by
  rintro av M ⟨b, t, rfl, hp⟩
  exact Gm.cons (h b t M  hp) (fun r_ M_ q b' t' e => by simp only [List.cons.injEq, Value.ref.injEq, Value.int.injEq, Value.long.injEq, and_true] at e; obtain ⟨q0, q1⟩ := e; obtain rfl := q0; obtain rfl := q1; exact q)
set_option maxRecDepth 100000 in
set_option maxHeartbeats 4000000 in
theorem ok_L_isBankrupt (Z : Zt) (d : Nat) : okE Z (d + 2) i_L_isBankrupt e_L_isBankrupt := mk_L_isBankrupt fun b t M hp => by
  have hL := hp.1
  refine Gm_run (C := [(i_L_placeOf, e_L_placeOf)]) (S := []) [some (.ref b), some (.int t)] 100 k_L_isBankrupt (okE_cons (ok_L_placeOf Z d) okE_nil) (ex_n rfl) ?_
  simp (disch := first | trivial | assumption | omega) only [run, go, jmp, seek, inS, e0, e1, e2, e3, e4, e5, tsw, e7, e8, e9, e10, e11, e12, splitA, rcv, clook, lget, lset, lset2, lkill, Option.toList, List.nil_append, List.cons_append, wsum, List.map_cons, List.map_nil, List.sum_cons, List.sum_nil, Value.category, Nat.reduceAdd, List.getD_cons_zero, List.getD_cons_succ, ↓reduceIte, if_true, if_false, Bool.false_eq_true, Nat.reduceLeDiff, Nat.reduceEqDiff, true_or, or_true, true_and, and_true, and_self, or_self, not_true, not_false_iff, mR_stI, mN_stI, isO_stI, isA_stI, mI_stI, mR_mW, mN_mW, isO_mW, isA_mW, mI_mW, mW_mW, stI_mW, nI_addL, nI_mulL, nI_subL, nI_ltL, nI_leL, nI_Llt, nI_Lle, nI_eqL, nI_Leq, nI_add, pk_mul, nI_ltI, nI_leI, nI_eq, vpi, nI_clamp, nI_toN, p_L_isBankrupt, ld_o hL, ld_og hL, ld_od hL, ld_r0 hL, ld_r1 hL, ld_r2 hL, ld_r3 hL, ld_r4 hL, ld_r5 hL, ld_r6 hL, ld_r7 hL, ld_r8 hL, ld_r9 hL, ld_r10 hL, ld_r11 hL, ld_a1 hL, ld_a2 hL, ld_a3 hL, ld_a4 hL, ld_a5 hL, ld_a6 hL, ld_a7 hL, ld_a8 hL, ld_a9 hL, ld_a11 hL, ld_a13 hL, ld_a14 hL, pc_L_placeOf, i_L_placeOf]
  split
  · next h => exact ⟨by rw [bv_F (fun q => absurd q (Int32.not_le.mpr h))], rfl⟩
  · next h => exact ⟨by rw [bv_T (Int32.not_lt.mp h)], rfl⟩
/-- a tenant, and not in the queue -/
abbrev isS (f : Nat → Nat → Int32) (b : Nat) (t : Int32) : Prop := (0 ≤ t ∧ t < nI (lnT f b)) ∧ ¬ isB f b t
/-- interest -/
def itF (x : Int32) : Int32 := if x ≤ 0 then 0 else (x + 9) / 10
/-- the rent of a tenant, of the first n resources -/
def rnP (f : Nat → Nat → Int32) (b t : Nat) : Nat → Int32
  | 0 => 0
  | r + 1 => rnP f b t r + f (b + 8) (t * 4 + r) * prF f b r
theorem LedD_congr {f g : Nat → Nat → Int32} {b : Nat} (h : LedD f b) (h1 : g b 12 = f b 12) (h2 : g b 13 = f b 13) (h3 : g (b + 10) 2 = f (b + 10) 2) (h4 : g (b + 12) 2 = f (b + 12) 2) : LedD g b := by
  unfold LedD lnT lnB csz at *
  rw [h1, h2, h3, h4]
  exact h
theorem lnT_congr {f g : Nat → Nat → Int32} {b : Nat} (h2 : g b 13 = f b 13) : lnT g b = lnT f b := by unfold lnT; rw [h2]
theorem lnB_congr {f g : Nat → Nat → Int32} {b : Nat} (h2 : g b 12 = f b 12) : lnB g b = lnB f b := by unfold lnB; rw [h2]
/-- units of a loan go back to the fund -/
def gbF (f : Nat → Nat → Int32) (b t r : Nat) (n : Int32) : Nat → Nat → Int32 := afF (u2 (u2 f (b + 8) (t * 4 + r) (f (b + 8) (t * 4 + r) - n)) (b + 7) (t * 4 + r) (f (b + 7) (t * 4 + r) - n)) b r n
/-- one resource of a demand fits -/
abbrev fitR (f : Nat → Nat → Int32) (b k t r : Nat) : Prop := f (b + 9) (t * 4 + r) + f (b + 13) (k * 6 + r) ≤ f (b + 7) (t * 4 + r) ∧ f (b + 3) r + f (b + 13) (k * 6 + r) ≤ f (b + 1) r
abbrev fitF (f : Nat → Nat → Int32) (b k : Nat) : Prop := (0 ≤ f (b + 13) (k * 6 + 4) ∧ f (b + 13) (k * 6 + 4) < nI (lnT f b)) ∧ ∀ r, r < 4 → fitR f b k (f (b + 13) (k * 6 + 4)).toNatClampNeg r
def e_L_fits : Ent := (fun av M => ∃ (b : Nat) (k : Nat), av = [.ref b, .int (nI k)] ∧ k < 2 ^ 31 ∧ (LedOk M b ∧ k < csz (mI M) (b + 12)), fun av M r_ M_ => ∀ (b : Nat) (k : Nat), k < 2 ^ 31 → av = [.ref b, .int (nI k)] → r_ = (some (.int (bv (fitF (mI M) b k)))) ∧ M_ = (M))
theorem pc_L_fits {b : Nat} {k : Nat} {M : Mem} {K : Option Value → Mem → Prop} (hp : LedOk M b ∧ k < csz (mI M) (b + 12)) (h_k : k < 2 ^ 31) : pcall e_L_fits [.ref b, .int (nI k)] M K = K (some (.int (bv (fitF (mI M) b k)))) (M) := propext ⟨fun h => h.2 _ _ (fun b' k' h_k' e => by simp only [List.cons.injEq, Value.ref.injEq, Value.int.injEq, Value.long.injEq, and_true] at e; obtain ⟨q0, q1⟩ := e; obtain rfl := q0; obtain rfl := (nI_eq h_k h_k').mp q1; exact ⟨rfl, rfl⟩), fun h => ⟨⟨b, k, rfl, h_k, hp⟩, fun r_ M_ q => by obtain ⟨rfl, rfl⟩ := q _ _ h_k rfl; exact h⟩⟩
theorem mk_L_fits {Z : Zt} {d : Nat} (h : ∀ (b : Nat) (k : Nat) (M : Mem), k < 2 ^ 31 → (LedOk M b ∧ k < csz (mI M) (b + 12)) → Gm Z d s_L_fits [.ref b, .int (nI k)] M (ex (some (.int (bv (fitF (mI M) b k)))) (M))) : okE Z d i_L_fits e_L_fits := by
  rintro av M ⟨b, k, rfl, h_k, hp⟩
  exact Gm.cons (h b k M h_k hp) (fun r_ M_ q b' k' h_k' e => by simp only [List.cons.injEq, Value.ref.injEq, Value.int.injEq, Value.long.injEq, and_true] at e; obtain ⟨q0, q1⟩ := e; obtain rfl := q0; obtain rfl := (nI_eq h_k h_k').mp q1; exact q)
set_option maxRecDepth 100000 in
set_option maxHeartbeats 4000000 in
theorem lp_L_fits (Z : Zt) (d : Nat) {b k t : Nat} {M : Mem} (hp : LedOk M b) (hk : k < csz (mI M) (b + 12)) (ho : mI M (b + 13) (k * 6 + 4) = nI t) (ht : t < lnT (mI M) b) : ∀ n i w4 w5, i + n = 4 → (∀ r, r < i → fitR (mI M) b k t r) → X Z (d + 3) s_L_fits (mN M) (mN M) (ex (some (.int (bv (fitF (mI M) b k)))) M) 22 [some (.ref b), some (.int (nI k)), some (.int (nI t)), some (.int (nI i)), w4, w5] [] M := by
  have hL := hp.1
  have hD := hp.2
  have h6 := ld_t6 hD
  have hc := ld_cd hL hD
  have h24 := hD.2.2.2.1
  have e : (nI t).toNatClampNeg = t := nI_clamp (by omega)
  intro n
  induction n with
  | zero =>
    intro i w4 w5 hi hall
    obtain rfl : i = 4 := by omega
    refine X_run (C := []) (S := [22]) 100 k_L_fits okE_nil ?_
    simp (disch := first | trivial | assumption | omega) only [run, go, jmp, seek, inS, e0, e1, e2, e3, e4, e5, tsw, e7, e8, e9, e10, e11, e12, splitA, rcv, clook, lget, lset, lset2, lkill, Option.toList, List.nil_append, List.cons_append, wsum, List.map_cons, List.map_nil, List.sum_cons, List.sum_nil, Value.category, Nat.reduceAdd, List.getD_cons_zero, List.getD_cons_succ, ↓reduceIte, if_true, if_false, Bool.false_eq_true, Nat.reduceLeDiff, Nat.reduceEqDiff, true_or, or_true, true_and, and_true, and_self, or_self, not_true, not_false_iff, mR_stI, mN_stI, isO_stI, isA_stI, mI_stI, mR_mW, mN_mW, isO_mW, isA_mW, mI_mW, mW_mW, stI_mW, nI_addL, nI_mulL, nI_subL, nI_ltL, nI_leL, nI_Llt, nI_Lle, nI_eqL, nI_Leq, nI_add, pk_mul, nI_ltI, nI_leI, nI_eq, vpi, nI_clamp, nI_toN, p_L_fits]
    refine ⟨?_, rfl⟩
    rw [bv_T]
    refine ⟨by rw [ho]; exact ⟨nI_pos' (by omega), nI_lt ht (by omega)⟩, ?_⟩
    rw [ho, e]
    exact hall
  | succ n ih =>
    intro i w4 w5 hi hall
    have hcell := cellF_at (j := i) hc hk (by omega)
    rw [Nat.add_assoc] at hcell
    refine X_run (C := [(i_C_cell, e_C_cell), (i_B_slot, e_B_slot)]) (S := [22]) 100 k_L_fits (okE_cons (ok_C_cell Z d) (okE_cons (ok_B_slot Z (d + 1)) okE_nil)) ?_
    simp (disch := first | trivial | assumption | omega) only [run, go, jmp, seek, inS, e0, e1, e2, e3, e4, e5, tsw, e7, e8, e9, e10, e11, e12, splitA, rcv, clook, lget, lset, lset2, lkill, Option.toList, List.nil_append, List.cons_append, wsum, List.map_cons, List.map_nil, List.sum_cons, List.sum_nil, Value.category, Nat.reduceAdd, List.getD_cons_zero, List.getD_cons_succ, ↓reduceIte, if_true, if_false, Bool.false_eq_true, Nat.reduceLeDiff, Nat.reduceEqDiff, true_or, or_true, true_and, and_true, and_self, or_self, not_true, not_false_iff, mR_stI, mN_stI, isO_stI, isA_stI, mI_stI, mR_mW, mN_mW, isO_mW, isA_mW, mI_mW, mW_mW, stI_mW, nI_addL, nI_mulL, nI_subL, nI_ltL, nI_leL, nI_Llt, nI_Lle, nI_eqL, nI_Leq, nI_add, pk_mul, nI_ltI, nI_leI, nI_eq, vpi, nI_clamp, nI_toN, p_L_fits, ld_o hL, ld_og hL, ld_od hL, ld_r0 hL, ld_r1 hL, ld_r2 hL, ld_r3 hL, ld_r4 hL, ld_r5 hL, ld_r6 hL, ld_r7 hL, ld_r8 hL, ld_r9 hL, ld_r10 hL, ld_r11 hL, ld_a1 hL, ld_a2 hL, ld_a3 hL, ld_a4 hL, ld_a5 hL, ld_a6 hL, ld_a7 hL, ld_a8 hL, ld_a9 hL, ld_a11 hL, ld_a13 hL, ld_a14 hL, ld_t hD, ld_b hD, pc_C_cell, i_C_cell, hcell, pc_B_slot, i_B_slot]
    rw [if_neg (by omega)]
    have hno : ¬ fitR (mI M) b k t i → ¬ fitF (mI M) b k := by
      intro h q
      have := q.2 i (by omega)
      rw [ho, e] at this
      exact h this
    split
    · next h => exact ⟨by rw [bv_F (hno (fun q => absurd q.1 (Int32.not_le.mpr h)))], rfl⟩
    · next h =>
      split
      · next h2 =>
        refine ih (i + 1) _ _ (by omega) fun r hr => ?_
        rcases Nat.lt_or_ge r i with q | q
        · exact hall r q
        · obtain rfl : r = i := by omega
          exact ⟨Int32.not_lt.mp h, h2⟩
      · next h2 => exact ⟨by rw [bv_F (hno (fun q => h2 q.2))], rfl⟩
set_option maxRecDepth 100000 in
set_option maxHeartbeats 4000000 in
theorem ok_L_fits (Z : Zt) (d : Nat) : okE Z (d + 3) i_L_fits e_L_fits := mk_L_fits fun b k M hk0 hp => by
  obtain ⟨hp, hk⟩ := hp
  have hL := hp.1
  have hD := hp.2
  have h6 := ld_t6 hD
  have hc := ld_cd hL hD
  have hcell := cellF_at (j := 4) hc hk (by omega)
  rw [Nat.add_assoc] at hcell
  refine Gm_run (C := [(i_C_cell, e_C_cell), (i_L_hasTenant, e_L_hasTenant)]) (S := [22]) [some (.ref b), some (.int (nI k)), none, none, none, none] 100 k_L_fits (okE_cons (ok_C_cell Z d) (okE_cons (ok_L_hasTenant Z (d + 1)) okE_nil)) (ex_n rfl) ?_
  simp only [run, go, jmp, seek, inS, e0, e1, e2, e3, e4, e5, tsw, e7, e8, e9, e10, e11, e12, splitA, rcv, clook, lget, lset, lset2, lkill, Option.toList, List.nil_append, List.cons_append, wsum, List.map_cons, List.map_nil, List.sum_cons, List.sum_nil, Value.category, Nat.reduceAdd, List.getD_cons_zero, List.getD_cons_succ, ↓reduceIte, if_true, if_false, Bool.false_eq_true, Nat.reduceLeDiff, Nat.reduceEqDiff, true_or, or_true, true_and, and_true, and_self, or_self, not_true, not_false_iff, mR_stI, mN_stI, isO_stI, isA_stI, mI_stI, mR_mW, mN_mW, isO_mW, isA_mW, mI_mW, mW_mW, stI_mW, p_L_fits, ld_o hL, ld_og hL, ld_od hL, ld_r0 hL, ld_r1 hL, ld_r2 hL, ld_r3 hL, ld_r4 hL, ld_r5 hL, ld_r6 hL, ld_r7 hL, ld_r8 hL, ld_r9 hL, ld_r10 hL, ld_r11 hL, ld_a1 hL, ld_a2 hL, ld_a3 hL, ld_a4 hL, ld_a5 hL, ld_a6 hL, ld_a7 hL, ld_a8 hL, ld_a9 hL, ld_a11 hL, ld_a13 hL, ld_a14 hL, pc_C_cell hc, i_C_cell, pc_L_hasTenant hp, i_L_hasTenant, bv_0, (show (4 : Int32) = nI 4 from rfl), hcell]
  split
  · next h => exact ⟨by rw [bv_F (fun q => h q.1)], rfl⟩
  · next h =>
    have h := Decidable.not_not.mp h
    obtain ⟨t, ht0, ht⟩ := nI_of (Int32.not_lt.mpr h.1)
    rw [ht] at h ⊢
    exact lp_L_fits Z d hp hk ht ((nI_ltI ht0 (by omega)).mp h.2) 4 0 _ _ rfl (fun r hr => by omega)
