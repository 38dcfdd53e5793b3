/-- next and least of the first n tenants -/
def ndP (f : Nat → Nat → Int32) (b : Nat) : Nat → Int32 × Int32
  | 0 => (-1, 0)
  | t + 1 => if 0 ≤ fwF f (b + 12) 4 (nI t) ∧ fitF f b (fwF f (b + 12) 4 (nI t)).toNatClampNeg ∧ ((ndP f b t).1 < 0 ∨ shP f b t 4 < (ndP f b t).2) then (fwF f (b + 12) 4 (nI t), shP f b t 4) else ndP f b t
def ndF (f : Nat → Nat → Int32) (b : Nat) : Int32 := (ndP f b (lnT f b)).1
def e_L_nextDemand : Ent := (fun av M => ∃ (b : Nat), av = [.ref b] ∧ (LedOk M b), fun av M r_ M_ => ∀ (b : Nat), av = [.ref b] → r_ = (some (.int (ndF (mI M) b))) ∧ M_ = (M))
theorem pc_L_nextDemand {b : Nat} {M : Mem} {K : Option Value → Mem → Prop} (hp : LedOk M b) : pcall e_L_nextDemand [.ref b] M K = K (some (.int (ndF (mI M) b))) (M) := propext ⟨fun h => h.2 _ _ (fun b' e => by simp only [List.cons.injEq, Value.ref.injEq, Value.int.injEq, Value.long.injEq, and_true] at e; have q0 := e; obtain rfl := q0; exact ⟨rfl, rfl⟩), fun h => ⟨⟨b, rfl, hp⟩, fun r_ M_ q => by obtain ⟨rfl, rfl⟩ := q _ rfl; exact h⟩⟩
theorem mk_L_nextDemand {Z : Zt} {d : Nat} (h : ∀ (b : Nat) (M : Mem), (LedOk M b) → Gm Z d s_L_nextDemand [.ref b] M (ex (some (.int (ndF (mI M) b))) (M))) : okE Z d i_L_nextDemand e_L_nextDemand := by
  rintro av M ⟨b, rfl, hp⟩
  exact Gm.cons (h b M  hp) (fun r_ M_ q b' e => by simp only [List.cons.injEq, Value.ref.injEq, Value.int.injEq, Value.long.injEq, and_true] at e; have q0 := e; obtain rfl := q0; exact q)
set_option maxRecDepth 100000 in
set_option maxHeartbeats 4000000 in
theorem lp_L_nextDemand (Z : Zt) (d : Nat) {b : Nat} {M : Mem} (hp : LedOk M b) : ∀ n i w4 w5, i + n = lnT (mI M) b → X Z (d + 4) s_L_nextDemand (mN M) (mN M) (ex (some (.int (ndF (mI M) b))) M) 6 [some (.ref b), some (.int (ndP (mI M) b i).1), some (.int (ndP (mI M) b i).2), some (.int (nI i)), w4, w5] [] M := by
  have hL := hp.1
  have hD := hp.2
  have h6 := ld_t6 hD
  have hc := ld_cd hL hD
  have h24 := hD.2.2.2.1
  intro n
  induction n with
  | zero =>
    intro i w4 w5 hi
    obtain rfl : i = lnT (mI M) b := by omega
    refine X_run (C := []) (S := [6]) 100 k_L_nextDemand okE_nil ?_
    simp (disch := first | trivial | assumption | omega) only [run, go, jmp, seek, inS, e0, e1, e2, e3, e4, e5, tsw, e7, e8, e9, e10, e11, e12, splitA, rcv, clook, lget, lset, lset2, lkill, Option.toList, List.nil_append, List.cons_append, wsum, List.map_cons, List.map_nil, List.sum_cons, List.sum_nil, Value.category, Nat.reduceAdd, List.getD_cons_zero, List.getD_cons_succ, ↓reduceIte, if_true, if_false, Bool.false_eq_true, Nat.reduceLeDiff, Nat.reduceEqDiff, true_or, or_true, true_and, and_true, and_self, or_self, not_true, not_false_iff, mR_stI, mN_stI, isO_stI, isA_stI, mI_stI, mR_mW, mN_mW, isO_mW, isA_mW, mI_mW, mW_mW, stI_mW, nI_addL, nI_mulL, nI_subL, nI_ltL, nI_leL, nI_Llt, nI_Lle, nI_eqL, nI_Leq, nI_add, pk_mul, nI_ltI, nI_leI, nI_eq, vpi, nI_clamp, nI_toN, p_L_nextDemand, ld_o hL, ld_og hL, ld_od hL, ld_r0 hL, ld_r1 hL, ld_r2 hL, ld_r3 hL, ld_r4 hL, ld_r5 hL, ld_r6 hL, ld_r7 hL, ld_r8 hL, ld_r9 hL, ld_r10 hL, ld_r11 hL, ld_a1 hL, ld_a2 hL, ld_a3 hL, ld_a4 hL, ld_a5 hL, ld_a6 hL, ld_a7 hL, ld_a8 hL, ld_a9 hL, ld_a11 hL, ld_a13 hL, ld_a14 hL, ld_t hD, ld_b hD]
    rw [if_pos (by omega)]
    exact ⟨rfl, rfl⟩
  | succ n ih =>
    intro i w4 w5 hi
    have this := fun w4 w5 => ih (i + 1) w4 w5 (by omega)
    have hsh : LedOk M b ∧ i < lnT (mI M) b := ⟨hp, by omega⟩
    refine X_run (C := [(i_C_firstWith, e_C_firstWith), (i_L_fits, e_L_fits), (i_L_shareOf, e_L_shareOf)]) (S := [6]) 100 k_L_nextDemand (okE_cons (ok_C_firstWith Z d) (okE_cons (ok_L_fits Z d) (okE_cons (ok_L_shareOf Z (d + 1)) okE_nil))) ?_
    simp only [ndP] at this
    rcases fwR_cases (fun k => cellF (mI M) (b + 12) (nI k) 4 = nI i) (csz (mI M) (b + 12)) 0 with e | ⟨k, -, h2, h3, e⟩
    · have e : fwF (mI M) (b + 12) 4 (nI i) = -1 := e
      simp only [e, m1_nn, false_and, if_false] at this
      simp (disch := first | trivial | assumption | omega) only [run, go, jmp, seek, inS, e0, e1, e2, e3, e4, e5, tsw, e7, e8, e9, e10, e11, e12, splitA, rcv, clook, lget, lset, lset2, lkill, Option.toList, List.nil_append, List.cons_append, wsum, List.map_cons, List.map_nil, List.sum_cons, List.sum_nil, Value.category, Nat.reduceAdd, List.getD_cons_zero, List.getD_cons_succ, ↓reduceIte, if_true, if_false, Bool.false_eq_true, Nat.reduceLeDiff, Nat.reduceEqDiff, true_or, or_true, true_and, and_true, and_self, or_self, not_true, not_false_iff, mR_stI, mN_stI, isO_stI, isA_stI, mI_stI, mR_mW, mN_mW, isO_mW, isA_mW, mI_mW, mW_mW, stI_mW, nI_addL, nI_mulL, nI_subL, nI_ltL, nI_leL, nI_Llt, nI_Lle, nI_eqL, nI_Leq, nI_add, pk_mul, nI_ltI, nI_leI, nI_eq, vpi, nI_clamp, nI_toN, p_L_nextDemand, ld_o hL, ld_og hL, ld_od hL, ld_r0 hL, ld_r1 hL, ld_r2 hL, ld_r3 hL, ld_r4 hL, ld_r5 hL, ld_r6 hL, ld_r7 hL, ld_r8 hL, ld_r9 hL, ld_r10 hL, ld_r11 hL, ld_a1 hL, ld_a2 hL, ld_a3 hL, ld_a4 hL, ld_a5 hL, ld_a6 hL, ld_a7 hL, ld_a8 hL, ld_a9 hL, ld_a11 hL, ld_a13 hL, ld_a14 hL, ld_t hD, ld_b hD, pc_C_firstWith, i_C_firstWith, e, m1_neg]
      rw [if_neg (by omega)]
      exact this _ _
    · have e : fwF (mI M) (b + 12) 4 (nI i) = nI k := e
      have hk0 : (0 : Int32) ≤ nI k := nI_pos' (by omega)
      have hfit : LedOk M b ∧ k < csz (mI M) (b + 12) := ⟨hp, by omega⟩
      have hck : (nI k).toNatClampNeg = k := nI_clamp (by omega)
      rw [e, hck] at this
      simp (disch := first | trivial | assumption | omega) only [run, go, jmp, seek, inS, e0, e1, e2, e3, e4, e5, tsw, e7, e8, e9, e10, e11, e12, splitA, rcv, clook, lget, lset, lset2, lkill, Option.toList, List.nil_append, List.cons_append, wsum, List.map_cons, List.map_nil, List.sum_cons, List.sum_nil, Value.category, Nat.reduceAdd, List.getD_cons_zero, List.getD_cons_succ, ↓reduceIte, if_true, if_false, Bool.false_eq_true, Nat.reduceLeDiff, Nat.reduceEqDiff, true_or, or_true, true_and, and_true, and_self, or_self, not_true, not_false_iff, mR_stI, mN_stI, isO_stI, isA_stI, mI_stI, mR_mW, mN_mW, isO_mW, isA_mW, mI_mW, mW_mW, stI_mW, nI_addL, nI_mulL, nI_subL, nI_ltL, nI_leL, nI_Llt, nI_Lle, nI_eqL, nI_Leq, nI_add, pk_mul, nI_ltI, nI_leI, nI_eq, vpi, nI_clamp, nI_toN, p_L_nextDemand, ld_o hL, ld_og hL, ld_od hL, ld_r0 hL, ld_r1 hL, ld_r2 hL, ld_r3 hL, ld_r4 hL, ld_r5 hL, ld_r6 hL, ld_r7 hL, ld_r8 hL, ld_r9 hL, ld_r10 hL, ld_r11 hL, ld_a1 hL, ld_a2 hL, ld_a3 hL, ld_a4 hL, ld_a5 hL, ld_a6 hL, ld_a7 hL, ld_a8 hL, ld_a9 hL, ld_a11 hL, ld_a13 hL, ld_a14 hL, ld_t hD, ld_b hD, pc_C_firstWith, i_C_firstWith, e, pc_L_fits hfit, i_L_fits, pc_L_shareOf hsh, i_L_shareOf, bv_0, Nat.not_lt_zero]
      rw [if_neg (by omega)]
      split
      · next h =>
        rw [if_neg (fun q => h q.2.1)] at this
        exact this _ _
      · next h =>
        have h := Decidable.not_not.mp h
        split
        · next h2 =>
          rw [if_pos ⟨hk0, h, Or.inl h2⟩] at this
          exact this _ _
        · next h2 =>
          split
          · next h3 =>
            rw [if_neg (fun q => by rcases q.2.2 with z | z; exact h2 z; exact absurd z (Int32.not_lt.mpr h3))] at this
            exact this _ _
          · next h3 =>
            rw [if_pos ⟨hk0, h, Or.inr (Int32.not_le.mp h3)⟩] at this
            exact this _ _
set_option maxRecDepth 100000 in
set_option maxHeartbeats 4000000 in
theorem ok_L_nextDemand (Z : Zt) (d : Nat) : okE Z (d + 4) i_L_nextDemand e_L_nextDemand := mk_L_nextDemand fun b M hp => by
  refine Gm_run (C := []) (S := [6]) [some (.ref b), none, none, none, none, none] 100 k_L_nextDemand okE_nil (ex_n rfl) ?_
  simp (disch := first | trivial | assumption | omega) only [run, go, jmp, seek, inS, e0, e1, e2, e3, e4, e5, tsw, e7, e8, e9, e10, e11, e12, splitA, rcv, clook, lget, lset, lset2, lkill, Option.toList, List.nil_append, List.cons_append, wsum, List.map_cons, List.map_nil, List.sum_cons, List.sum_nil, Value.category, Nat.reduceAdd, List.getD_cons_zero, List.getD_cons_succ, ↓reduceIte, if_true, if_false, Bool.false_eq_true, Nat.reduceLeDiff, Nat.reduceEqDiff, true_or, or_true, true_and, and_true, and_self, or_self, not_true, not_false_iff, mR_stI, mN_stI, isO_stI, isA_stI, mI_stI, mR_mW, mN_mW, isO_mW, isA_mW, mI_mW, mW_mW, stI_mW, nI_addL, nI_mulL, nI_subL, nI_ltL, nI_leL, nI_Llt, nI_Lle, nI_eqL, nI_Leq, nI_add, pk_mul, nI_ltI, nI_leI, nI_eq, vpi, nI_clamp, nI_toN, p_L_nextDemand]
  exact lp_L_nextDemand Z d hp (lnT (mI M) b) 0 _ _ (by omega)
/-- uses grow by s times a row, of the first n resources -/
def auP (f : Nat → Nat → Int32) (b c k t : Nat) (s : Int32) (n : Nat) : Nat → Nat → Int32 := fun x y => if x = b + 9 ∧ t * 4 ≤ y ∧ y < t * 4 + n then f x y + s * f (c + 1) (k * 6 + (y - t * 4)) else if x = b + 3 ∧ y < n then f x y + s * f (c + 1) (k * 6 + y) else f x y
def auF (f : Nat → Nat → Int32) (b c k : Nat) (s : Int32) : Nat → Nat → Int32 := if 0 ≤ f (c + 1) (k * 6 + 4) ∧ f (c + 1) (k * 6 + 4) < nI (lnT f b) then auP f b c k (f (c + 1) (k * 6 + 4)).toNatClampNeg s 4 else f
theorem auP_0 (f : Nat → Nat → Int32) (b c k t : Nat) (s : Int32) : auP f b c k t s 0 = f := by
  funext x y
  simp only [auP]
  rw [if_neg (by omega), if_neg (by omega)]
theorem auP_ne {f : Nat → Nat → Int32} {b c k t n x y : Nat} {s : Int32} (h1 : x ≠ b + 9) (h2 : x ≠ b + 3) : auP f b c k t s n x y = f x y := by
  unfold auP
  rw [if_neg (fun q => h1 q.1), if_neg (fun q => h2 q.1)]
theorem auP_1 {f : Nat → Nat → Int32} {b c k t n : Nat} {s : Int32} : u2 (u2 (auP f b c k t s n) (b + 9) (t * 4 + n) (auP f b c k t s n (b + 9) (t * 4 + n) + s * f (c + 1) (k * 6 + n))) (b + 3) n (auP f b c k t s n (b + 3) n + s * f (c + 1) (k * 6 + n)) = auP f b c k t s (n + 1) := by
  have a1 : auP f b c k t s n (b + 9) (t * 4 + n) = f (b + 9) (t * 4 + n) := by
    unfold auP
    rw [if_neg (by omega), if_neg (by omega)]
  have a2 : auP f b c k t s n (b + 3) n = f (b + 3) n := by
    unfold auP
    rw [if_neg (by omega), if_neg (by omega)]
  rw [a1, a2]
  funext x y
  simp only [auP, u2_at]
  by_cases h1 : x = b + 3 ∧ y = n
  · rw [if_pos h1, if_neg (by omega), if_pos (by omega), h1.1, h1.2]
  · rw [if_neg h1]
    by_cases h2 : x = b + 9 ∧ y = t * 4 + n
    · rw [if_pos h2, if_pos (by omega), h2.1, h2.2, Nat.add_sub_cancel_left]
    · rw [if_neg h2]
      by_cases h3 : x = b + 9 ∧ t * 4 ≤ y ∧ y < t * 4 + n
      · rw [if_pos h3, if_pos (by omega)]
      · rw [if_neg h3]
        by_cases h4 : x = b + 3 ∧ y < n
        · rw [if_pos h4, if_neg (by omega), if_pos (by omega)]
        · rw [if_neg h4, if_neg (by omega), if_neg (by omega)]
theorem ld_ofc {M : Mem} {b c : Nat} (hL : LedS M b) (hD : LedD (mI M) b) (hc : c = b + 10 ∨ c = b + 12) : ClOk M c := by
  rcases hc with rfl | rfl
  · exact ld_cg hL hD
  · exact ld_cd hL hD
def e_L_addUse : Ent := (fun av M => ∃ (b : Nat) (c : Nat) (k : Nat) (s : Int32), av = [.ref b, .ref c, .int (nI k), .int s] ∧ k < 2 ^ 31 ∧ (LedOk M b ∧ (c = b + 10 ∨ c = b + 12) ∧ k < csz (mI M) c), fun av M r_ M_ => ∀ (b : Nat) (c : Nat) (k : Nat) (s : Int32), k < 2 ^ 31 → av = [.ref b, .ref c, .int (nI k), .int s] → r_ = (none) ∧ M_ = (mW M (auF (mI M) b c k s)))
theorem pc_L_addUse {b : Nat} {c : Nat} {k : Nat} {s : Int32} {M : Mem} {K : Option Value → Mem → Prop} (hp : LedOk M b ∧ (c = b + 10 ∨ c = b + 12) ∧ k < csz (mI M) c) (h_k : k < 2 ^ 31) : pcall e_L_addUse [.ref b, .ref c, .int (nI k), .int s] M K = K (none) (mW M (auF (mI M) b c k s)) := propext ⟨fun h => h.2 _ _ (fun b' c' k' s' h_k' e => by simp only [List.cons.injEq, Value.ref.injEq, Value.int.injEq, Value.long.injEq, and_true] at e; obtain ⟨q0, q1, q2, q3⟩ := e; obtain rfl := q0; obtain rfl := q1; obtain rfl := (nI_eq h_k h_k').mp q2; obtain rfl := q3; exact ⟨rfl, rfl⟩), fun h => ⟨⟨b, c, k, s, rfl, h_k, hp⟩, fun r_ M_ q => by obtain ⟨rfl, rfl⟩ := q _ _ _ _ h_k rfl; exact h⟩⟩
theorem mk_L_addUse {Z : Zt} {d : Nat} (h : ∀ (b : Nat) (c : Nat) (k : Nat) (s : Int32) (M : Mem), k < 2 ^ 31 → (LedOk M b ∧ (c = b + 10 ∨ c = b + 12) ∧ k < csz (mI M) c) → Gm Z d s_L_addUse [.ref b, .ref c, .int (nI k), .int s] M (ex (none) (mW M (auF (mI M) b c k s)))) : okE Z d i_L_addUse e_L_addUse := by
  rintro av M ⟨b, c, k, s, rfl, h_k, hp⟩
  exact Gm.cons (h b c k s M h_k hp) (fun r_ M_ q b' c' k' s' h_k' e => by simp only [List.cons.injEq, Value.ref.injEq, Value.int.injEq, Value.long.injEq, and_true] at e; obtain ⟨q0, q1, q2, q3⟩ := e; obtain rfl := q0; obtain rfl := q1; obtain rfl := (nI_eq h_k h_k').mp q2; obtain rfl := q3; exact q)
set_option maxRecDepth 100000 in
set_option maxHeartbeats 4000000 in
theorem lp_L_addUse (Z : Zt) (d : Nat) {b c k t : Nat} {s : Int32} {M : Mem} (hp : LedOk M b) (hbc : c = b + 10 ∨ c = b + 12) (hk : k < csz (mI M) c) (ht : t < lnT (mI M) b) : ∀ n i w6, i + n = 4 → X Z (d + 3) s_L_addUse (mN M) (mN M) (ex none (mW M (auP (mI M) b c k t s 4))) 11 [some (.ref b), some (.ref c), some (.int (nI k)), some (.int s), some (.int (nI t)), some (.int (nI i)), w6] [] (mW M (auP (mI M) b c k t s i)) := by
  have hL := hp.1
  have hD := hp.2
  have h6 := ld_t6 hD
  have hc := ld_ofc hL hD hbc
  have hc40 := cl_40 hc
  have hcl := cl_le hc
  intro n
  induction n with
  | zero =>
    intro i w6 hi
    obtain rfl : i = 4 := by omega
    refine X_run (C := []) (S := [11]) 100 k_L_addUse okE_nil ?_
    simp (disch := first | trivial | assumption | omega) only [run, go, jmp, seek, inS, e0, e1, e2, e3, e4, e5, tsw, e7, e8, e9, e10, e11, e12, splitA, rcv, clook, lget, lset, lset2, lkill, Option.toList, List.nil_append, List.cons_append, wsum, List.map_cons, List.map_nil, List.sum_cons, List.sum_nil, Value.category, Nat.reduceAdd, List.getD_cons_zero, List.getD_cons_succ, ↓reduceIte, if_true, if_false, Bool.false_eq_true, Nat.reduceLeDiff, Nat.reduceEqDiff, true_or, or_true, true_and, and_true, and_self, or_self, not_true, not_false_iff, mR_stI, mN_stI, isO_stI, isA_stI, mI_stI, mR_mW, mN_mW, isO_mW, isA_mW, mI_mW, mW_mW, stI_mW, nI_addL, nI_mulL, nI_subL, nI_ltL, nI_leL, nI_Llt, nI_Lle, nI_eqL, nI_Leq, nI_add, pk_mul, nI_ltI, nI_leI, nI_eq, vpi, nI_clamp, nI_toN, p_L_addUse]
    exact ⟨rfl, rfl⟩
  | succ n ih =>
    intro i w6 hi
    have hD' : LedD (auP (mI M) b c k t s i) b := LedD_congr hD (auP_ne (by omega) (by omega)) (auP_ne (by omega) (by omega)) (auP_ne (by omega) (by omega)) (auP_ne (by omega) (by omega))
    have hp' : LedOk (mW M (auP (mI M) b c k t s i)) b := ⟨hL, hD'⟩
    have hc' : ClOk (mW M (auP (mI M) b c k t s i)) c := ld_ofc (M := mW M (auP (mI M) b c k t s i)) hL hD' hbc
    have hT : lnT (auP (mI M) b c k t s i) b = lnT (mI M) b := lnT_congr (auP_ne (by omega) (by omega))
    have hcs : csz (auP (mI M) b c k t s i) c = csz (mI M) c := by
      unfold csz
      rw [auP_ne (by omega) (by omega)]
    have hcell : cellF (auP (mI M) b c k t s i) c (nI k) (nI i) = mI M (c + 1) (k * 6 + i) := by
      have := cellF_at (j := i) hc' (k := k) (by show k < csz (auP (mI M) b c k t s i) c; rw [hcs]; exact hk) (by omega)
      rw [mI_mW] at this
      rw [this, auP_ne (by omega) (by omega)]
    have hu9 : ∀ v, u2 (auP (mI M) b c k t s i) (b + 9) (t * 4 + i) v (b + 3) i = auP (mI M) b c k t s i (b + 3) i := fun v => u2_ne (by omega)
    refine X_run (C := [(i_C_cell, e_C_cell), (i_L_hasTenant, e_L_hasTenant), (i_B_slot, e_B_slot)]) (S := [11]) 100 k_L_addUse (okE_cons (ok_C_cell Z d) (okE_cons (ok_L_hasTenant Z (d + 1)) (okE_cons (ok_B_slot Z (d + 1)) okE_nil))) ?_
    simp (disch := first | trivial | assumption | omega) only [run, go, jmp, seek, inS, e0, e1, e2, e3, e4, e5, tsw, e7, e8, e9, e10, e11, e12, splitA, rcv, clook, lget, lset, lset2, lkill, Option.toList, List.nil_append, List.cons_append, wsum, List.map_cons, List.map_nil, List.sum_cons, List.sum_nil, Value.category, Nat.reduceAdd, List.getD_cons_zero, List.getD_cons_succ, ↓reduceIte, if_true, if_false, Bool.false_eq_true, Nat.reduceLeDiff, Nat.reduceEqDiff, true_or, or_true, true_and, and_true, and_self, or_self, not_true, not_false_iff, mR_stI, mN_stI, isO_stI, isA_stI, mI_stI, mR_mW, mN_mW, isO_mW, isA_mW, mI_mW, mW_mW, stI_mW, nI_addL, nI_mulL, nI_subL, nI_ltL, nI_leL, nI_Llt, nI_Lle, nI_eqL, nI_Leq, nI_add, pk_mul, nI_ltI, nI_leI, nI_eq, vpi, nI_clamp, nI_toN, p_L_addUse, ld_o hL, ld_og hL, ld_od hL, ld_r0 hL, ld_r1 hL, ld_r2 hL, ld_r3 hL, ld_r4 hL, ld_r5 hL, ld_r6 hL, ld_r7 hL, ld_r8 hL, ld_r9 hL, ld_r10 hL, ld_r11 hL, ld_a1 hL, ld_a2 hL, ld_a3 hL, ld_a4 hL, ld_a5 hL, ld_a6 hL, ld_a7 hL, ld_a8 hL, ld_a9 hL, ld_a11 hL, ld_a13 hL, ld_a14 hL, (cl_o hc : isO M c 0 = True), pc_C_cell hc', i_C_cell, pc_L_hasTenant hp', i_L_hasTenant, pc_B_slot, i_B_slot, bv_0, hT, hcell, hu9, auP_1]
    rw [if_neg (by omega), if_neg (by omega)]
    exact ih (i + 1) _ (by omega)
set_option maxRecDepth 100000 in
set_option maxHeartbeats 4000000 in
theorem ok_L_addUse (Z : Zt) (d : Nat) : okE Z (d + 3) i_L_addUse e_L_addUse := mk_L_addUse fun b c k s M hk0 hp => by
  obtain ⟨hp, hbc, hk⟩ := hp
  have hL := hp.1
  have hD := hp.2
  have h6 := ld_t6 hD
  have hc := ld_ofc hL hD hbc
  have hcell := cellF_at (j := 4) hc hk (by omega)
  by_cases hv : 0 ≤ mI M (c + 1) (k * 6 + 4) ∧ mI M (c + 1) (k * 6 + 4) < nI (lnT (mI M) b)
  · obtain ⟨t, ht0, ht⟩ := nI_of (Int32.not_lt.mpr hv.1)
    refine Gm_run (C := [(i_C_cell, e_C_cell)]) (S := [11]) [some (.ref b), some (.ref c), some (.int (nI k)), some (.int s), none, none, none] 100 k_L_addUse (okE_cons (ok_C_cell Z d) okE_nil) (ex_n rfl) ?_
    simp only [run, go, jmp, seek, inS, e0, e1, e2, e3, e4, e5, tsw, e7, e8, e9, e10, e11, e12, splitA, rcv, clook, lget, lset, lset2, lkill, Option.toList, List.nil_append, List.cons_append, wsum, List.map_cons, List.map_nil, List.sum_cons, List.sum_nil, Value.category, Nat.reduceAdd, List.getD_cons_zero, List.getD_cons_succ, ↓reduceIte, if_true, if_false, Bool.false_eq_true, Nat.reduceLeDiff, Nat.reduceEqDiff, true_or, or_true, true_and, and_true, and_self, or_self, not_true, not_false_iff, mR_stI, mN_stI, isO_stI, isA_stI, mI_stI, mR_mW, mN_mW, isO_mW, isA_mW, mI_mW, mW_mW, stI_mW, p_L_addUse, cl_o hc, pc_C_cell hc, i_C_cell, (show (4 : Int32) = nI 4 from rfl), hcell]
    have e : auF (mI M) b c k s = auP (mI M) b c k t s 4 := by
      unfold auF
      rw [if_pos hv, ht, nI_clamp ht0]
    rw [e, ht]
    rw [ht] at hv
    have := lp_L_addUse Z d (s := s) hp hbc hk ((nI_ltI ht0 (by omega)).mp hv.2) 4 0 none rfl
    rw [auP_0] at this
    exact this
  · have e : auF (mI M) b c k s = mI M := by
      unfold auF
      rw [if_neg hv]
    refine Gm_run (C := [(i_C_cell, e_C_cell), (i_L_hasTenant, e_L_hasTenant)]) (S := []) [some (.ref b), some (.ref c), some (.int (nI k)), some (.int s), none, none, none] 100 k_L_addUse (okE_cons (ok_C_cell Z d) (okE_cons (ok_L_hasTenant Z (d + 1)) okE_nil)) (ex_n rfl) ?_
    rw [e]
    simp only [run, go, jmp, seek, inS, e0, e1, e2, e3, e4, e5, tsw, e7, e8, e9, e10, e11, e12, splitA, rcv, clook, lget, lset, lset2, lkill, Option.toList, List.nil_append, List.cons_append, wsum, List.map_cons, List.map_nil, List.sum_cons, List.sum_nil, Value.category, Nat.reduceAdd, List.getD_cons_zero, List.getD_cons_succ, ↓reduceIte, if_true, if_false, Bool.false_eq_true, Nat.reduceLeDiff, Nat.reduceEqDiff, true_or, or_true, true_and, and_true, and_self, or_self, not_true, not_false_iff, mR_stI, mN_stI, isO_stI, isA_stI, mI_stI, mR_mW, mN_mW, isO_mW, isA_mW, mI_mW, mW_mW, stI_mW, p_L_addUse, ld_o hL, ld_og hL, ld_od hL, ld_r0 hL, ld_r1 hL, ld_r2 hL, ld_r3 hL, ld_r4 hL, ld_r5 hL, ld_r6 hL, ld_r7 hL, ld_r8 hL, ld_r9 hL, ld_r10 hL, ld_r11 hL, ld_a1 hL, ld_a2 hL, ld_a3 hL, ld_a4 hL, ld_a5 hL, ld_a6 hL, ld_a7 hL, ld_a8 hL, ld_a9 hL, ld_a11 hL, ld_a13 hL, ld_a14 hL, cl_o hc, pc_C_cell hc, i_C_cell, pc_L_hasTenant hp, i_L_hasTenant, bv_0, (show (4 : Int32) = nI 4 from rfl), hcell, hv]
    exact ⟨rfl, rfl⟩
