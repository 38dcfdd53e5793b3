theorem bv_of {p : Prop} {v : Int32} (h : v = 1 ∧ p ∨ v = 0 ∧ ¬ p) : v = bv p := by
  rcases h with ⟨rfl, h⟩ | ⟨rfl, h⟩
  · rw [bv_T h]
  · rw [bv_F h]
def e_L_hasTenant : Ent := (fun av M => ∃ (b : Nat) (t : Int32), av = [.ref b, .int t] ∧ (LedOk M b), fun av M r_ M_ => ∀ (b : Nat) (t : Int32), av = [.ref b, .int t] → r_ = (some (.int (bv (0 ≤ t ∧ t < nI (lnT (mI M) b))))) ∧ M_ = (M))
theorem pc_L_hasTenant {b : Nat} {t : Int32} {M : Mem} {K : Option Value → Mem → Prop} (hp : LedOk M b) : pcall e_L_hasTenant [.ref b, .int t] M K = K (some (.int (bv (0 ≤ t ∧ t < nI (lnT (mI M) b))))) (M) := propext ⟨fun h => h.2 _ _ (fun b' t' e => by simp only [List.cons.injEq, Value.ref.injEq, Value.int.injEq, Value.long.injEq, and_true] at e; obtain ⟨q0, q1⟩ := e; obtain rfl := q0; obtain rfl := q1; exact ⟨rfl, rfl⟩), fun h => ⟨⟨b, t, rfl, hp⟩, fun r_ M_ q => by obtain ⟨rfl, rfl⟩ := q _ _ rfl; exact h⟩⟩
theorem mk_L_hasTenant {Z : Zt} {d : Nat} (h : ∀ (b : Nat) (t : Int32) (M : Mem), (LedOk M b) → Gm Z d s_L_hasTenant [.ref b, .int t] M (ex (some (.int (bv (0 ≤ t ∧ t < nI (lnT (mI M) b))))) (M))) : okE Z d i_L_hasTenant e_L_hasTenant := by
  rintro av M ⟨b, t, rfl, hp⟩
  exact Gm.cons (h b t M  hp) (fun r_ M_ q b' t' e => by simp only [List.cons.injEq, Value.ref.injEq, Value.int.injEq, Value.long.injEq, and_true] at e; obtain ⟨q0, q1⟩ := e; obtain rfl := q0; obtain rfl := q1; exact q)
set_option maxRecDepth 100000 in
set_option maxHeartbeats 4000000 in
theorem ok_L_hasTenant (Z : Zt) (d : Nat) : okE Z (d + 1) i_L_hasTenant e_L_hasTenant := mk_L_hasTenant fun b t M hp => by
  obtain ⟨hL, hD⟩ := hp
  have h6 := ld_t6 hD
  refine Gm_run (C := []) (S := []) [some (.ref b), some (.int t)] 100 k_L_hasTenant okE_nil (ex_n rfl) ?_
  simp only [run, go, jmp, seek, inS, e0, e1, e2, e3, e4, e5, tsw, e7, e8, e9, e10, e11, e12, splitA, rcv, clook, lget, lset, lset2, lkill, Option.toList, List.nil_append, List.cons_append, wsum, List.map_cons, List.map_nil, List.sum_cons, List.sum_nil, Value.category, Nat.reduceAdd, List.getD_cons_zero, List.getD_cons_succ, ↓reduceIte, if_true, if_false, Bool.false_eq_true, Nat.reduceLeDiff, Nat.reduceEqDiff, true_or, or_true, true_and, and_true, and_self, or_self, not_true, not_false_iff, mR_stI, mN_stI, isO_stI, isA_stI, mI_stI, mR_mW, mN_mW, isO_mW, isA_mW, mI_mW, mW_mW, stI_mW, p_L_hasTenant, ld_o hL, ld_t hD]
  split
  · next h => exact ⟨by rw [bv_F (fun q => absurd q.1 (Int32.not_le.mpr h))], rfl⟩
  · next h =>
    split
    · next h2 => exact ⟨by rw [bv_F (fun q => absurd q.2 (Int32.not_lt.mpr h2))], rfl⟩
    · next h2 =>
      split
      · next h3 =>
        exfalso
        obtain ⟨k, hk, rfl⟩ := nI_of h
        have g1 := (nI_ltI hk (by omega)).mp (Int32.not_le.mp h2)
        have g2 := (nI_leI (a := 6) (by omega) hk).mp h3
        omega
      · next h3 => exact ⟨by rw [bv_T ⟨Int32.not_lt.mp h, Int32.not_le.mp h2⟩], rfl⟩
/-- the price of a resource -/
def prF (f : Nat → Nat → Int32) (b r : Nat) : Int32 := if f (b + 1) r < 1 then 10 else 1 + 9 * f (b + 3) r / f (b + 1) r
theorem ne0_of_1le {x : Int32} (h : 1 ≤ x) : ¬ x = 0 := by
  rintro rfl
  revert h
  decide
def e_L_priceOf : Ent := (fun av M => ∃ (b : Nat) (r : Nat), av = [.ref b, .int (nI r)] ∧ r < 2 ^ 31 ∧ (LedOk M b ∧ r < 4), fun av M r_ M_ => ∀ (b : Nat) (r : Nat), r < 2 ^ 31 → av = [.ref b, .int (nI r)] → r_ = (some (.int (prF (mI M) b r))) ∧ M_ = (M))
theorem pc_L_priceOf {b : Nat} {r : Nat} {M : Mem} {K : Option Value → Mem → Prop} (hp : LedOk M b ∧ r < 4) (h_r : r < 2 ^ 31) : pcall e_L_priceOf [.ref b, .int (nI r)] M K = K (some (.int (prF (mI M) b r))) (M) := propext ⟨fun h => h.2 _ _ (fun b' r' h_r' e => by simp only [List.cons.injEq, Value.ref.injEq, Value.int.injEq, Value.long.injEq, and_true] at e; obtain ⟨q0, q1⟩ := e; obtain rfl := q0; obtain rfl := (nI_eq h_r h_r').mp q1; exact ⟨rfl, rfl⟩), fun h => ⟨⟨b, r, rfl, h_r, hp⟩, fun r_ M_ q => by obtain ⟨rfl, rfl⟩ := q _ _ h_r rfl; exact h⟩⟩
theorem mk_L_priceOf {Z : Zt} {d : Nat} (h : ∀ (b : Nat) (r : Nat) (M : Mem), r < 2 ^ 31 → (LedOk M b ∧ r < 4) → Gm Z d s_L_priceOf [.ref b, .int (nI r)] M (ex (some (.int (prF (mI M) b r))) (M))) : okE Z d i_L_priceOf e_L_priceOf := by
  rintro av M ⟨b, r, rfl, h_r, hp⟩
  exact Gm.cons (h b r M h_r hp) (fun r_ M_ q b' r' h_r' e => by simp only [List.cons.injEq, Value.ref.injEq, Value.int.injEq, Value.long.injEq, and_true] at e; obtain ⟨q0, q1⟩ := e; obtain rfl := q0; obtain rfl := (nI_eq h_r h_r').mp q1; exact q)
set_option maxRecDepth 100000 in
set_option maxHeartbeats 4000000 in
theorem ok_L_priceOf (Z : Zt) (d : Nat) : okE Z (d + 2) i_L_priceOf e_L_priceOf := mk_L_priceOf fun b r M hr0 hp => by
  obtain ⟨⟨hL, hD⟩, hr⟩ := hp
  refine Gm_run (C := [(i_B_isResource, e_B_isResource)]) (S := []) [some (.ref b), some (.int (nI r))] 100 k_L_priceOf (okE_cons (ok_B_isResource Z d) okE_nil) (ex_n rfl) ?_
  simp (disch := first | trivial | assumption | omega) only [run, go, jmp, seek, inS, e0, e1, e2, e3, e4, e5, tsw, e7, e8, e9, e10, e11, e12, splitA, rcv, clook, lget, lset, lset2, lkill, Option.toList, List.nil_append, List.cons_append, wsum, List.map_cons, List.map_nil, List.sum_cons, List.sum_nil, Value.category, Nat.reduceAdd, List.getD_cons_zero, List.getD_cons_succ, ↓reduceIte, if_true, if_false, Bool.false_eq_true, Nat.reduceLeDiff, Nat.reduceEqDiff, true_or, or_true, true_and, and_true, and_self, or_self, not_true, not_false_iff, mR_stI, mN_stI, isO_stI, isA_stI, mI_stI, mR_mW, mN_mW, isO_mW, isA_mW, mI_mW, mW_mW, stI_mW, nI_addL, nI_mulL, nI_subL, nI_ltL, nI_leL, nI_Llt, nI_Lle, nI_eqL, nI_Leq, nI_add, pk_mul, nI_ltI, nI_leI, nI_eq, vpi, nI_clamp, nI_toN, p_L_priceOf, ld_o hL, ld_og hL, ld_od hL, ld_r0 hL, ld_r1 hL, ld_r2 hL, ld_r3 hL, ld_r4 hL, ld_r5 hL, ld_r6 hL, ld_r7 hL, ld_r8 hL, ld_r9 hL, ld_r10 hL, ld_r11 hL, ld_a1 hL, ld_a2 hL, ld_a3 hL, ld_a4 hL, ld_a5 hL, ld_a6 hL, ld_a7 hL, ld_a8 hL, ld_a9 hL, ld_a11 hL, ld_a13 hL, ld_a14 hL, ld_t hD, ld_b hD, pc_B_isResource, i_B_isResource, bv_0]
  rw [if_neg (by omega)]
  split
  · next h => exact ⟨ne0_of_1le h, by rw [prF, if_neg (Int32.not_lt.mpr h)], rfl⟩
  · next h => exact ⟨by rw [prF, if_pos (Int32.not_le.mp h)], rfl⟩
/-- the dominant share, of the first n resources -/
def shP (f : Nat → Nat → Int32) (b t : Nat) : Nat → Int32
  | 0 => 0
  | r + 1 => if 0 < f (b + 1) r * f (b + 4) t then (if shP f b t r < 10000 * f (b + 9) (t * 4 + r) / (f (b + 1) r * f (b + 4) t) then 10000 * f (b + 9) (t * 4 + r) / (f (b + 1) r * f (b + 4) t) else shP f b t r) else shP f b t r
def e_L_shareOf : Ent := (fun av M => ∃ (b : Nat) (t : Nat), av = [.ref b, .int (nI t)] ∧ t < 2 ^ 31 ∧ (LedOk M b ∧ t < lnT (mI M) b), fun av M r_ M_ => ∀ (b : Nat) (t : Nat), t < 2 ^ 31 → av = [.ref b, .int (nI t)] → r_ = (some (.int (shP (mI M) b t 4))) ∧ M_ = (M))
theorem pc_L_shareOf {b : Nat} {t : Nat} {M : Mem} {K : Option Value → Mem → Prop} (hp : LedOk M b ∧ t < lnT (mI M) b) (h_t : t < 2 ^ 31) : pcall e_L_shareOf [.ref b, .int (nI t)] M K = K (some (.int (shP (mI M) b t 4))) (M) := propext ⟨fun h => h.2 _ _ (fun b' t' h_t' e => by simp only [List.cons.injEq, Value.ref.injEq, Value.int.injEq, Value.long.injEq, and_true] at e; obtain ⟨q0, q1⟩ := e; obtain rfl := q0; obtain rfl := (nI_eq h_t h_t').mp q1; exact ⟨rfl, rfl⟩), fun h => ⟨⟨b, t, rfl, h_t, hp⟩, fun r_ M_ q => by obtain ⟨rfl, rfl⟩ := q _ _ h_t rfl; exact h⟩⟩
theorem mk_L_shareOf {Z : Zt} {d : Nat} (h : ∀ (b : Nat) (t : Nat) (M : Mem), t < 2 ^ 31 → (LedOk M b ∧ t < lnT (mI M) b) → Gm Z d s_L_shareOf [.ref b, .int (nI t)] M (ex (some (.int (shP (mI M) b t 4))) (M))) : okE Z d i_L_shareOf e_L_shareOf := by
  rintro av M ⟨b, t, rfl, h_t, hp⟩
  exact Gm.cons (h b t M h_t hp) (fun r_ M_ q b' t' h_t' e => by simp only [List.cons.injEq, Value.ref.injEq, Value.int.injEq, Value.long.injEq, and_true] at e; obtain ⟨q0, q1⟩ := e; obtain rfl := q0; obtain rfl := (nI_eq h_t h_t').mp q1; exact q)
theorem ne0_of_pos {x : Int32} (h : 0 < x) : ¬ x = 0 := by
  rintro rfl
  revert h
  decide
set_option maxRecDepth 100000 in
set_option maxHeartbeats 4000000 in
theorem lp_L_shareOf (Z : Zt) (d : Nat) {b t : Nat} {w : Option Value} {M : Mem} (hL : LedS M b) (hD : LedD (mI M) b) (ht : t < lnT (mI M) b) : ∀ n i w, i + n = 4 → X Z (d + 2) s_L_shareOf (mN M) (mN M) (ex (some (.int (shP (mI M) b t 4))) M) 14 [some (.ref b), some (.int (nI t)), some (.int (shP (mI M) b t i)), some (.int (nI i)), w] [] M := by
  have h6 := ld_t6 hD
  intro n
  induction n with
  | zero =>
    intro i w hi
    obtain rfl : i = 4 := by omega
    refine X_run (C := []) (S := [14]) 100 k_L_shareOf okE_nil ?_
    simp (disch := first | trivial | assumption | omega) only [run, go, jmp, seek, inS, e0, e1, e2, e3, e4, e5, tsw, e7, e8, e9, e10, e11, e12, splitA, rcv, clook, lget, lset, lset2, lkill, Option.toList, List.nil_append, List.cons_append, wsum, List.map_cons, List.map_nil, List.sum_cons, List.sum_nil, Value.category, Nat.reduceAdd, List.getD_cons_zero, List.getD_cons_succ, ↓reduceIte, if_true, if_false, Bool.false_eq_true, Nat.reduceLeDiff, Nat.reduceEqDiff, true_or, or_true, true_and, and_true, and_self, or_self, not_true, not_false_iff, mR_stI, mN_stI, isO_stI, isA_stI, mI_stI, mR_mW, mN_mW, isO_mW, isA_mW, mI_mW, mW_mW, stI_mW, nI_addL, nI_mulL, nI_subL, nI_ltL, nI_leL, nI_Llt, nI_Lle, nI_eqL, nI_Leq, nI_add, pk_mul, nI_ltI, nI_leI, nI_eq, vpi, nI_clamp, nI_toN, p_L_shareOf]
    exact ⟨rfl, rfl⟩
  | succ n ih =>
    intro i w hi
    have := fun w => ih (i + 1) w (by omega)
    refine X_run (C := [(i_B_slot, e_B_slot)]) (S := [14]) 100 k_L_shareOf (okE_cons (ok_B_slot Z d) okE_nil) ?_
    simp (disch := first | trivial | assumption | omega) only [run, go, jmp, seek, inS, e0, e1, e2, e3, e4, e5, tsw, e7, e8, e9, e10, e11, e12, splitA, rcv, clook, lget, lset, lset2, lkill, Option.toList, List.nil_append, List.cons_append, wsum, List.map_cons, List.map_nil, List.sum_cons, List.sum_nil, Value.category, Nat.reduceAdd, List.getD_cons_zero, List.getD_cons_succ, ↓reduceIte, if_true, if_false, Bool.false_eq_true, Nat.reduceLeDiff, Nat.reduceEqDiff, true_or, or_true, true_and, and_true, and_self, or_self, not_true, not_false_iff, mR_stI, mN_stI, isO_stI, isA_stI, mI_stI, mR_mW, mN_mW, isO_mW, isA_mW, mI_mW, mW_mW, stI_mW, nI_addL, nI_mulL, nI_subL, nI_ltL, nI_leL, nI_Llt, nI_Lle, nI_eqL, nI_Leq, nI_add, pk_mul, nI_ltI, nI_leI, nI_eq, vpi, nI_clamp, nI_toN, p_L_shareOf, ld_o hL, ld_og hL, ld_od hL, ld_r0 hL, ld_r1 hL, ld_r2 hL, ld_r3 hL, ld_r4 hL, ld_r5 hL, ld_r6 hL, ld_r7 hL, ld_r8 hL, ld_r9 hL, ld_r10 hL, ld_r11 hL, ld_a1 hL, ld_a2 hL, ld_a3 hL, ld_a4 hL, ld_a5 hL, ld_a6 hL, ld_a7 hL, ld_a8 hL, ld_a9 hL, ld_a11 hL, ld_a13 hL, ld_a14 hL, ld_t hD, ld_b hD, pc_B_slot, i_B_slot]
    rw [if_neg (by omega)]
    simp only [shP] at this
    split
    · next h =>
      rw [if_neg (Int32.not_lt.mpr h)] at this
      exact this _
    · next h =>
      rw [if_pos (Int32.not_le.mp h)] at this
      exact ⟨ne0_of_pos (Int32.not_le.mp h), this _⟩
set_option maxRecDepth 100000 in
set_option maxHeartbeats 4000000 in
theorem ok_L_shareOf (Z : Zt) (d : Nat) : okE Z (d + 2) i_L_shareOf e_L_shareOf := mk_L_shareOf fun b t M ht0 hp => by
  obtain ⟨hp, ht⟩ := hp
  have hL := hp.1
  have hD := hp.2
  have h6 := ld_t6 hD
  refine Gm_run (C := [(i_L_hasTenant, e_L_hasTenant)]) (S := [14]) [some (.ref b), some (.int (nI t)), none, none, none] 100 k_L_shareOf (okE_cons (ok_L_hasTenant Z d) okE_nil) (ex_n rfl) ?_
  simp (disch := first | trivial | assumption | omega) only [run, go, jmp, seek, inS, e0, e1, e2, e3, e4, e5, tsw, e7, e8, e9, e10, e11, e12, splitA, rcv, clook, lget, lset, lset2, lkill, Option.toList, List.nil_append, List.cons_append, wsum, List.map_cons, List.map_nil, List.sum_cons, List.sum_nil, Value.category, Nat.reduceAdd, List.getD_cons_zero, List.getD_cons_succ, ↓reduceIte, if_true, if_false, Bool.false_eq_true, Nat.reduceLeDiff, Nat.reduceEqDiff, true_or, or_true, true_and, and_true, and_self, or_self, not_true, not_false_iff, mR_stI, mN_stI, isO_stI, isA_stI, mI_stI, mR_mW, mN_mW, isO_mW, isA_mW, mI_mW, mW_mW, stI_mW, nI_addL, nI_mulL, nI_subL, nI_ltL, nI_leL, nI_Llt, nI_Lle, nI_eqL, nI_Leq, nI_add, pk_mul, nI_ltI, nI_leI, nI_eq, vpi, nI_clamp, nI_toN, p_L_shareOf, ld_o hL, ld_og hL, ld_od hL, ld_r0 hL, ld_r1 hL, ld_r2 hL, ld_r3 hL, ld_r4 hL, ld_r5 hL, ld_r6 hL, ld_r7 hL, ld_r8 hL, ld_r9 hL, ld_r10 hL, ld_r11 hL, ld_a1 hL, ld_a2 hL, ld_a3 hL, ld_a4 hL, ld_a5 hL, ld_a6 hL, ld_a7 hL, ld_a8 hL, ld_a9 hL, ld_a11 hL, ld_a13 hL, ld_a14 hL, ld_t hD, ld_b hD, pc_L_hasTenant, i_L_hasTenant, bv_0]
  rw [if_neg (by omega)]
  exact lp_L_shareOf Z d (w := none) hL hD ht 4 0 _ rfl
/-- a sum over the six tenants' numbers of a resource -/
def smP (f : Nat → Nat → Int32) (a r : Nat) : Nat → Int32
  | 0 => 0
  | t + 1 => smP f a r t + f a (t * 4 + r)
def e_L_sumOverTenants : Ent := (fun av M => ∃ (b : Nat) (a : Nat) (r : Nat), av = [.ref b, .ref a, .int (nI r)] ∧ r < 2 ^ 31 ∧ (a < mN M ∧ kd a = (1, 24) ∧ r < 4), fun av M r_ M_ => ∀ (b : Nat) (a : Nat) (r : Nat), r < 2 ^ 31 → av = [.ref b, .ref a, .int (nI r)] → r_ = (some (.int (smP (mI M) a r 6))) ∧ M_ = (M))
theorem pc_L_sumOverTenants {b : Nat} {a : Nat} {r : Nat} {M : Mem} {K : Option Value → Mem → Prop} (hp : a < mN M ∧ kd a = (1, 24) ∧ r < 4) (h_r : r < 2 ^ 31) : pcall e_L_sumOverTenants [.ref b, .ref a, .int (nI r)] M K = K (some (.int (smP (mI M) a r 6))) (M) := propext ⟨fun h => h.2 _ _ (fun b' a' r' h_r' e => by simp only [List.cons.injEq, Value.ref.injEq, Value.int.injEq, Value.long.injEq, and_true] at e; obtain ⟨q0, q1, q2⟩ := e; obtain rfl := q0; obtain rfl := q1; obtain rfl := (nI_eq h_r h_r').mp q2; exact ⟨rfl, rfl⟩), fun h => ⟨⟨b, a, r, rfl, h_r, hp⟩, fun r_ M_ q => by obtain ⟨rfl, rfl⟩ := q _ _ _ h_r rfl; exact h⟩⟩
theorem mk_L_sumOverTenants {Z : Zt} {d : Nat} (h : ∀ (b : Nat) (a : Nat) (r : Nat) (M : Mem), r < 2 ^ 31 → (a < mN M ∧ kd a = (1, 24) ∧ r < 4) → Gm Z d s_L_sumOverTenants [.ref b, .ref a, .int (nI r)] M (ex (some (.int (smP (mI M) a r 6))) (M))) : okE Z d i_L_sumOverTenants e_L_sumOverTenants := by
  rintro av M ⟨b, a, r, rfl, h_r, hp⟩
  exact Gm.cons (h b a r M h_r hp) (fun r_ M_ q b' a' r' h_r' e => by simp only [List.cons.injEq, Value.ref.injEq, Value.int.injEq, Value.long.injEq, and_true] at e; obtain ⟨q0, q1, q2⟩ := e; obtain rfl := q0; obtain rfl := q1; obtain rfl := (nI_eq h_r h_r').mp q2; exact q)
set_option maxRecDepth 100000 in
set_option maxHeartbeats 4000000 in
theorem lp_L_sumOverTenants (Z : Zt) (d : Nat) {b a r : Nat} {M : Mem} (ha : a < mN M) (hk : kd a = (1, 24)) (hr : r < 4) : ∀ n i, i + n = 6 → X Z (d + 1) s_L_sumOverTenants (mN M) (mN M) (ex (some (.int (smP (mI M) a r 6))) M) 9 [some (.ref b), some (.ref a), some (.int (nI r)), some (.int (smP (mI M) a r i)), some (.int (nI (i * 4 + r)))] [] M := by
  have hA : ∀ {k}, k < 24 → isA M a (nI k) = True := fun {k} h => eq_true ⟨ha, by rw [hk], by rw [hk]; exact vp_in_nI h (by decide)⟩
  intro n
  induction n with
  | zero =>
    intro i hi
    obtain rfl : i = 6 := by omega
    refine X_run (C := []) (S := [9]) 100 k_L_sumOverTenants okE_nil ?_
    simp (disch := first | trivial | assumption | omega) only [run, go, jmp, seek, inS, e0, e1, e2, e3, e4, e5, tsw, e7, e8, e9, e10, e11, e12, splitA, rcv, clook, lget, lset, lset2, lkill, Option.toList, List.nil_append, List.cons_append, wsum, List.map_cons, List.map_nil, List.sum_cons, List.sum_nil, Value.category, Nat.reduceAdd, List.getD_cons_zero, List.getD_cons_succ, ↓reduceIte, if_true, if_false, Bool.false_eq_true, Nat.reduceLeDiff, Nat.reduceEqDiff, true_or, or_true, true_and, and_true, and_self, or_self, not_true, not_false_iff, mR_stI, mN_stI, isO_stI, isA_stI, mI_stI, mR_mW, mN_mW, isO_mW, isA_mW, mI_mW, mW_mW, stI_mW, nI_addL, nI_mulL, nI_subL, nI_ltL, nI_leL, nI_Llt, nI_Lle, nI_eqL, nI_Leq, nI_add, pk_mul, nI_ltI, nI_leI, nI_eq, vpi, nI_clamp, nI_toN, p_L_sumOverTenants, hk, ha]
    rw [if_pos (by omega)]
    exact ⟨rfl, rfl⟩
  | succ n ih =>
    intro i hi
    have := ih (i + 1) (by omega)
    refine X_run (C := []) (S := [9]) 100 k_L_sumOverTenants okE_nil ?_
    simp (disch := first | trivial | assumption | omega) only [run, go, jmp, seek, inS, e0, e1, e2, e3, e4, e5, tsw, e7, e8, e9, e10, e11, e12, splitA, rcv, clook, lget, lset, lset2, lkill, Option.toList, List.nil_append, List.cons_append, wsum, List.map_cons, List.map_nil, List.sum_cons, List.sum_nil, Value.category, Nat.reduceAdd, List.getD_cons_zero, List.getD_cons_succ, ↓reduceIte, if_true, if_false, Bool.false_eq_true, Nat.reduceLeDiff, Nat.reduceEqDiff, true_or, or_true, true_and, and_true, and_self, or_self, not_true, not_false_iff, mR_stI, mN_stI, isO_stI, isA_stI, mI_stI, mR_mW, mN_mW, isO_mW, isA_mW, mI_mW, mW_mW, stI_mW, nI_addL, nI_mulL, nI_subL, nI_ltL, nI_leL, nI_Llt, nI_Lle, nI_eqL, nI_Leq, nI_add, pk_mul, nI_ltI, nI_leI, nI_eq, vpi, nI_clamp, nI_toN, p_L_sumOverTenants, hk, ha, hA]
    rw [if_neg (by omega)]
    rw [show i * 4 + r + 4 = (i + 1) * 4 + r by omega]
    exact this
set_option maxRecDepth 100000 in
set_option maxHeartbeats 4000000 in
theorem ok_L_sumOverTenants (Z : Zt) (d : Nat) : okE Z (d + 1) i_L_sumOverTenants e_L_sumOverTenants := mk_L_sumOverTenants fun b a r M hr0 hp => by
  obtain ⟨ha, hk, hr⟩ := hp
  refine Gm_run (C := []) (S := [9]) [some (.ref b), some (.ref a), some (.int (nI r)), none, none] 100 k_L_sumOverTenants okE_nil (ex_n rfl) ?_
  simp (disch := first | trivial | assumption | omega) only [run, go, jmp, seek, inS, e0, e1, e2, e3, e4, e5, tsw, e7, e8, e9, e10, e11, e12, splitA, rcv, clook, lget, lset, lset2, lkill, Option.toList, List.nil_append, List.cons_append, wsum, List.map_cons, List.map_nil, List.sum_cons, List.sum_nil, Value.category, Nat.reduceAdd, List.getD_cons_zero, List.getD_cons_succ, ↓reduceIte, if_true, if_false, Bool.false_eq_true, Nat.reduceLeDiff, Nat.reduceEqDiff, true_or, or_true, true_and, and_true, and_self, or_self, not_true, not_false_iff, mR_stI, mN_stI, isO_stI, isA_stI, mI_stI, mR_mW, mN_mW, isO_mW, isA_mW, mI_mW, mW_mW, stI_mW, nI_addL, nI_mulL, nI_subL, nI_ltL, nI_leL, nI_Llt, nI_Lle, nI_eqL, nI_Leq, nI_add, pk_mul, nI_ltI, nI_leI, nI_eq, vpi, nI_clamp, nI_toN, p_L_sumOverTenants, Nat.not_lt_zero]
  have := lp_L_sumOverTenants Z d (b := b) ha hk hr 6 0 rfl
  rw [Nat.zero_mul, Nat.zero_add] at this
  exact this
/-- the loans of a tenant, of the first n resources -/
def lnP (f : Nat → Nat → Int32) (b t : Nat) : Nat → Int32
  | 0 => 0
  | r + 1 => lnP f b t r + f (b + 8) (t * 4 + r)
def e_L_freePart : Ent := (fun av M => ∃ (b : Nat) (t : Nat) (r : Nat), av = [.ref b, .int (nI t), .int (nI r)] ∧ t < 2 ^ 31 ∧ r < 2 ^ 31 ∧ (LedOk M b ∧ t < lnT (mI M) b ∧ r < 4), fun av M r_ M_ => ∀ (b : Nat) (t : Nat) (r : Nat), t < 2 ^ 31 → r < 2 ^ 31 → av = [.ref b, .int (nI t), .int (nI r)] → r_ = (some (.int (mI M (b + 7) (t * 4 + r) - mI M (b + 9) (t * 4 + r)))) ∧ M_ = (M))
theorem pc_L_freePart {b : Nat} {t : Nat} {r : Nat} {M : Mem} {K : Option Value → Mem → Prop} (hp : LedOk M b ∧ t < lnT (mI M) b ∧ r < 4) (h_t : t < 2 ^ 31) (h_r : r < 2 ^ 31) : pcall e_L_freePart [.ref b, .int (nI t), .int (nI r)] M K = K (some (.int (mI M (b + 7) (t * 4 + r) - mI M (b + 9) (t * 4 + r)))) (M) := propext ⟨fun h => h.2 _ _ (fun b' t' r' h_t' h_r' e => by simp only [List.cons.injEq, Value.ref.injEq, Value.int.injEq, Value.long.injEq, and_true] at e; obtain ⟨q0, q1, q2⟩ := e; obtain rfl := q0; obtain rfl := (nI_eq h_t h_t').mp q1; obtain rfl := (nI_eq h_r h_r').mp q2; exact ⟨rfl, rfl⟩), fun h => ⟨⟨b, t, r, rfl, h_t, h_r, hp⟩, fun r_ M_ q => by obtain ⟨rfl, rfl⟩ := q _ _ _ h_t h_r rfl; exact h⟩⟩
theorem mk_L_freePart {Z : Zt} {d : Nat} (h : ∀ (b : Nat) (t : Nat) (r : Nat) (M : Mem), t < 2 ^ 31 → r < 2 ^ 31 → (LedOk M b ∧ t < lnT (mI M) b ∧ r < 4) → Gm Z d s_L_freePart [.ref b, .int (nI t), .int (nI r)] M (ex (some (.int (mI M (b + 7) (t * 4 + r) - mI M (b + 9) (t * 4 + r)))) (M))) : okE Z d i_L_freePart e_L_freePart := by
  rintro av M ⟨b, t, r, rfl, h_t, h_r, hp⟩
  exact Gm.cons (h b t r M h_t h_r hp) (fun r_ M_ q b' t' r' h_t' h_r' e => by simp only [List.cons.injEq, Value.ref.injEq, Value.int.injEq, Value.long.injEq, and_true] at e; obtain ⟨q0, q1, q2⟩ := e; obtain rfl := q0; obtain rfl := (nI_eq h_t h_t').mp q1; obtain rfl := (nI_eq h_r h_r').mp q2; exact q)
set_option maxRecDepth 100000 in
set_option maxHeartbeats 4000000 in
theorem ok_L_freePart (Z : Zt) (d : Nat) : okE Z (d + 2) i_L_freePart e_L_freePart := mk_L_freePart fun b t r M ht0 hr0 hp => by
  obtain ⟨hp, ht, hr⟩ := hp
  have hL := hp.1
  have hD := hp.2
  have h6 := ld_t6 hD
  refine Gm_run (C := [(i_L_hasTenant, e_L_hasTenant), (i_B_isResource, e_B_isResource), (i_B_slot, e_B_slot)]) (S := []) [some (.ref b), some (.int (nI t)), some (.int (nI r)), none] 100 k_L_freePart (okE_cons (ok_L_hasTenant Z d) (okE_cons (ok_B_isResource Z d) (okE_cons (ok_B_slot Z d) okE_nil))) (ex_n rfl) ?_
  simp (disch := first | trivial | assumption | omega) only [run, go, jmp, seek, inS, e0, e1, e2, e3, e4, e5, tsw, e7, e8, e9, e10, e11, e12, splitA, rcv, clook, lget, lset, lset2, lkill, Option.toList, List.nil_append, List.cons_append, wsum, List.map_cons, List.map_nil, List.sum_cons, List.sum_nil, Value.category, Nat.reduceAdd, List.getD_cons_zero, List.getD_cons_succ, ↓reduceIte, if_true, if_false, Bool.false_eq_true, Nat.reduceLeDiff, Nat.reduceEqDiff, true_or, or_true, true_and, and_true, and_self, or_self, not_true, not_false_iff, mR_stI, mN_stI, isO_stI, isA_stI, mI_stI, mR_mW, mN_mW, isO_mW, isA_mW, mI_mW, mW_mW, stI_mW, nI_addL, nI_mulL, nI_subL, nI_ltL, nI_leL, nI_Llt, nI_Lle, nI_eqL, nI_Leq, nI_add, pk_mul, nI_ltI, nI_leI, nI_eq, vpi, nI_clamp, nI_toN, p_L_freePart, ld_o hL, ld_og hL, ld_od hL, ld_r0 hL, ld_r1 hL, ld_r2 hL, ld_r3 hL, ld_r4 hL, ld_r5 hL, ld_r6 hL, ld_r7 hL, ld_r8 hL, ld_r9 hL, ld_r10 hL, ld_r11 hL, ld_a1 hL, ld_a2 hL, ld_a3 hL, ld_a4 hL, ld_a5 hL, ld_a6 hL, ld_a7 hL, ld_a8 hL, ld_a9 hL, ld_a11 hL, ld_a13 hL, ld_a14 hL, ld_t hD, ld_b hD, pc_L_hasTenant, i_L_hasTenant, pc_B_slot, i_B_slot, pc_B_isResource, i_B_isResource, bv_0]
  rw [if_neg (by omega), if_neg (by omega)]
  exact ⟨rfl, rfl⟩
def minJ (x y : Int32) : Int32 := if y < x then y else x
def afF (f : Nat → Nat → Int32) (b r : Nat) (n : Int32) : Nat → Nat → Int32 := u2 f (b + 2) r (minJ (f (b + 2) r + n) 999)
def plF (f : Nat → Nat → Int32) (b : Nat) (t : Int32) : Int32 := fwR (fun k => f (b + 14) k = t) (lnB f b) 0
def e_L_placeOf : Ent := (fun av M => ∃ (b : Nat) (t : Int32), av = [.ref b, .int t] ∧ (LedOk M b), fun av M r_ M_ => ∀ (b : Nat) (t : Int32), av = [.ref b, .int t] → r_ = (some (.int (plF (mI M) b t))) ∧ M_ = (M))
theorem pc_L_placeOf {b : Nat} {t : Int32} {M : Mem} {K : Option Value → Mem → Prop} (hp : LedOk M b) : pcall e_L_placeOf [.ref b, .int t] M K = K (some (.int (plF (mI M) b t))) (M) := propext ⟨fun h => h.2 _ _ (fun b' t' e => by simp only [List.cons.injEq, Value.ref.injEq, Value.int.injEq, Value.long.injEq, and_true] at e; obtain ⟨q0, q1⟩ := e; obtain rfl := q0; obtain rfl := q1; exact ⟨rfl, rfl⟩), fun h => ⟨⟨b, t, rfl, hp⟩, fun r_ M_ q => by obtain ⟨rfl, rfl⟩ := q _ _ rfl; exact h⟩⟩
theorem mk_L_placeOf {Z : Zt} {d : Nat} (h : ∀ (b : Nat) (t : Int32) (M : Mem), (LedOk M b) → Gm Z d s_L_placeOf [.ref b, .int t] M (ex (some (.int (plF (mI M) b t))) (M))) : okE Z d i_L_placeOf e_L_placeOf := by
  rintro av M ⟨b, t, rfl, hp⟩
  exact Gm.cons (h b t M  hp) (fun r_ M_ q b' t' e => by simp only [List.cons.injEq, Value.ref.injEq, Value.int.injEq, Value.long.injEq, and_true] at e; obtain ⟨q0, q1⟩ := e; obtain rfl := q0; obtain rfl := q1; exact q)
set_option maxRecDepth 100000 in
set_option maxHeartbeats 4000000 in
theorem lp_L_placeOf (Z : Zt) (d : Nat) {b : Nat} {t R0 : Int32} {M : Mem} (hp : LedOk M b) : ∀ n i, i + n = lnB (mI M) b → fwR (fun k => mI M (b + 14) k = t) n i = R0 → X Z (d + 1) s_L_placeOf (mN M) (mN M) (ex (some (.int R0)) M) 2 [some (.ref b), some (.int t), some (.int (nI i))] [] M := by
  have hL := hp.1
  have hD := hp.2
  have h6 := ld_b6 hD
  intro n
  induction n with
  | zero =>
    intro i hi hr
    refine X_run (C := []) (S := [2]) 100 k_L_placeOf okE_nil ?_
    simp (disch := first | trivial | assumption | omega) only [run, go, jmp, seek, inS, e0, e1, e2, e3, e4, e5, tsw, e7, e8, e9, e10, e11, e12, splitA, rcv, clook, lget, lset, lset2, lkill, Option.toList, List.nil_append, List.cons_append, wsum, List.map_cons, List.map_nil, List.sum_cons, List.sum_nil, Value.category, Nat.reduceAdd, List.getD_cons_zero, List.getD_cons_succ, ↓reduceIte, if_true, if_false, Bool.false_eq_true, Nat.reduceLeDiff, Nat.reduceEqDiff, true_or, or_true, true_and, and_true, and_self, or_self, not_true, not_false_iff, mR_stI, mN_stI, isO_stI, isA_stI, mI_stI, mR_mW, mN_mW, isO_mW, isA_mW, mI_mW, mW_mW, stI_mW, nI_addL, nI_mulL, nI_subL, nI_ltL, nI_leL, nI_Llt, nI_Lle, nI_eqL, nI_Leq, nI_add, pk_mul, nI_ltI, nI_leI, nI_eq, vpi, nI_clamp, nI_toN, p_L_placeOf, ld_o hL, ld_og hL, ld_od hL, ld_r0 hL, ld_r1 hL, ld_r2 hL, ld_r3 hL, ld_r4 hL, ld_r5 hL, ld_r6 hL, ld_r7 hL, ld_r8 hL, ld_r9 hL, ld_r10 hL, ld_r11 hL, ld_a1 hL, ld_a2 hL, ld_a3 hL, ld_a4 hL, ld_a5 hL, ld_a6 hL, ld_a7 hL, ld_a8 hL, ld_a9 hL, ld_a11 hL, ld_a13 hL, ld_a14 hL, ld_t hD, ld_b hD]
    rw [if_pos (by omega)]
    exact ⟨by rw [← hr]; rfl, rfl⟩
  | succ n ih =>
    intro i hi hr
    refine X_run (C := []) (S := [2]) 100 k_L_placeOf okE_nil ?_
    simp (disch := first | trivial | assumption | omega) only [run, go, jmp, seek, inS, e0, e1, e2, e3, e4, e5, tsw, e7, e8, e9, e10, e11, e12, splitA, rcv, clook, lget, lset, lset2, lkill, Option.toList, List.nil_append, List.cons_append, wsum, List.map_cons, List.map_nil, List.sum_cons, List.sum_nil, Value.category, Nat.reduceAdd, List.getD_cons_zero, List.getD_cons_succ, ↓reduceIte, if_true, if_false, Bool.false_eq_true, Nat.reduceLeDiff, Nat.reduceEqDiff, true_or, or_true, true_and, and_true, and_self, or_self, not_true, not_false_iff, mR_stI, mN_stI, isO_stI, isA_stI, mI_stI, mR_mW, mN_mW, isO_mW, isA_mW, mI_mW, mW_mW, stI_mW, nI_addL, nI_mulL, nI_subL, nI_ltL, nI_leL, nI_Llt, nI_Lle, nI_eqL, nI_Leq, nI_add, pk_mul, nI_ltI, nI_leI, nI_eq, vpi, nI_clamp, nI_toN, p_L_placeOf, ld_o hL, ld_og hL, ld_od hL, ld_r0 hL, ld_r1 hL, ld_r2 hL, ld_r3 hL, ld_r4 hL, ld_r5 hL, ld_r6 hL, ld_r7 hL, ld_r8 hL, ld_r9 hL, ld_r10 hL, ld_r11 hL, ld_a1 hL, ld_a2 hL, ld_a3 hL, ld_a4 hL, ld_a5 hL, ld_a6 hL, ld_a7 hL, ld_a8 hL, ld_a9 hL, ld_a11 hL, ld_a13 hL, ld_a14 hL, ld_t hD, ld_b hD]
    rw [if_neg (by omega), if_neg (by omega)]
    rw [fwR] at hr
    split
    · next h =>
      rw [if_pos h] at hr
      exact ⟨by rw [← hr], rfl⟩
    · next h =>
      rw [if_neg h] at hr
      exact ih (i + 1) (by omega) hr
set_option maxRecDepth 100000 in
set_option maxHeartbeats 4000000 in
theorem ok_L_placeOf (Z : Zt) (d : Nat) : okE Z (d + 1) i_L_placeOf e_L_placeOf := mk_L_placeOf fun b t M hp => by
  refine Gm_run (C := []) (S := [2]) [some (.ref b), some (.int t), none] 100 k_L_placeOf okE_nil (ex_n rfl) ?_
  simp only [run, go, jmp, seek, inS, e0, e1, e2, e3, e4, e5, tsw, e7, e8, e9, e10, e11, e12, splitA, rcv, clook, lget, lset, lset2, lkill, Option.toList, List.nil_append, List.cons_append, wsum, List.map_cons, List.map_nil, List.sum_cons, List.sum_nil, Value.category, Nat.reduceAdd, List.getD_cons_zero, List.getD_cons_succ, ↓reduceIte, if_true, if_false, Bool.false_eq_true, Nat.reduceLeDiff, Nat.reduceEqDiff, true_or, or_true, true_and, and_true, and_self, or_self, not_true, not_false_iff, mR_stI, mN_stI, isO_stI, isA_stI, mI_stI, mR_mW, mN_mW, isO_mW, isA_mW, mI_mW, mW_mW, stI_mW, p_L_placeOf]
  exact lp_L_placeOf Z d hp (lnB (mI M) b) 0 (by omega) rfl
/-- in the queue of bankrupts -/
abbrev isB (f : Nat → Nat → Int32) (b : Nat) (t : Int32) : Prop := 0 ≤ plF f b t
