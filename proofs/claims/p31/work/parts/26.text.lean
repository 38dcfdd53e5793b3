theorem bv_n0 {p : Prop} (h : p) : ¬ bv p = 0 := by rw [bv_T h]; decide
/-- whether the bytes from a to e are the text s -/
def isW (f : Nat → Nat → Int32) (s a e : Nat) : Prop := e - a = slen s ∧ ∀ i, i < slen s → byF f (a + i) = chF s i
def e_V_isBetween : Ent := (fun av M => ∃ (o : Nat) (s : Nat) (a : Nat) (e : Nat), av = [.ref o, .ref s, .int (nI a), .int (nI e)] ∧ a < 2 ^ 31 ∧ e < 2 ^ 31 ∧ (o = 17 ∧ BkS M ∧ TxD (mI M) ∧ (2 ≤ s ∧ s < 6) ∧ a ≤ e ∧ e < 1000), fun av M r_ M_ => ∀ (o : Nat) (s : Nat) (a : Nat) (e : Nat), a < 2 ^ 31 → e < 2 ^ 31 → av = [.ref o, .ref s, .int (nI a), .int (nI e)] → r_ = (some (.int (bv (isW (mI M) s a e)))) ∧ M_ = (M))
theorem pc_V_isBetween {o : Nat} {s : Nat} {a : Nat} {e : Nat} {M : Mem} {K : Option Value → Mem → Prop} (hp : o = 17 ∧ BkS M ∧ TxD (mI M) ∧ (2 ≤ s ∧ s < 6) ∧ a ≤ e ∧ e < 1000) (h_a : a < 2 ^ 31) (h_e : e < 2 ^ 31) : pcall e_V_isBetween [.ref o, .ref s, .int (nI a), .int (nI e)] M K = K (some (.int (bv (isW (mI M) s a e)))) (M) := propext ⟨fun h => h.2 _ _ (fun o' s' a' e' h_a' h_e' e => by simp only [List.cons.injEq, Value.ref.injEq, Value.int.injEq, Value.long.injEq, and_true] at e; obtain ⟨q0, q1, q2, q3⟩ := e; obtain rfl := q0; obtain rfl := q1; obtain rfl := (nI_eq h_a h_a').mp q2; obtain rfl := (nI_eq h_e h_e').mp q3; exact ⟨rfl, rfl⟩), fun h => ⟨⟨o, s, a, e, rfl, h_a, h_e, hp⟩, fun r_ M_ q => by obtain ⟨rfl, rfl⟩ := q _ _ _ _ h_a h_e rfl; exact h⟩⟩
theorem mk_V_isBetween {Z : Zt} {d : Nat} (h : ∀ (o : Nat) (s : Nat) (a : Nat) (e : Nat) (M : Mem), a < 2 ^ 31 → e < 2 ^ 31 → (o = 17 ∧ BkS M ∧ TxD (mI M) ∧ (2 ≤ s ∧ s < 6) ∧ a ≤ e ∧ e < 1000) → Gm Z d s_V_isBetween [.ref o, .ref s, .int (nI a), .int (nI e)] M (ex (some (.int (bv (isW (mI M) s a e)))) (M))) : okE Z d i_V_isBetween e_V_isBetween := by
  rintro av M ⟨o, s, a, e, rfl, h_a, h_e, hp⟩
  exact Gm.cons (h o s a e M h_a h_e hp) (fun r_ M_ q o' s' a' e' h_a' h_e' e => by simp only [List.cons.injEq, Value.ref.injEq, Value.int.injEq, Value.long.injEq, and_true] at e; obtain ⟨q0, q1, q2, q3⟩ := e; obtain rfl := q0; obtain rfl := q1; obtain rfl := (nI_eq h_a h_a').mp q2; obtain rfl := (nI_eq h_e h_e').mp q3; exact q)
set_option maxRecDepth 100000 in
set_option maxHeartbeats 4000000 in
theorem lp_V_isBetween (Z : Zt) (d : Nat) {M : Mem} {s a e : Nat} (hB : BkS M) (hT : TxD (mI M)) (hs : 2 ≤ s ∧ s < 6) (hx : e - a = slen s) (ha : a ≤ e) (he : e < 1000) : ∀ n i, i + n = slen s → (∀ j, j < i → byF (mI M) (a + j) = chF s j) → X Z (d + 5) s_V_isBetween (mN M) (mN M) (ex (some (.int (bv (isW (mI M) s a e)))) M) 15 [some (.ref 17), some (.ref s), some (.int (nI a)), some (.int (nI e)), some (.int (nI i))] [] M := by
  have h4 := slen_4 hs
  intro n
  induction n with
  | zero =>
    intro i hi hj
    refine X_run (C := [(i_S_length, e_S_length)]) (S := [15]) 100 k_V_isBetween (okE_cons (ok_S_length Z (d + 2)) okE_nil) ?_
    simp (disch := first | trivial | assumption | omega) only [run, go, jmp, seek, inS, e0, e1, e2, e3, e4, e5, tsw, e7, e8, e9, e10, e11, e12, splitA, rcv, clook, lget, lset, lset2, lkill, Option.toList, List.nil_append, List.cons_append, wsum, List.map_cons, List.map_nil, List.sum_cons, List.sum_nil, Value.category, Nat.reduceAdd, List.getD_cons_zero, List.getD_cons_succ, ↓reduceIte, if_true, if_false, Bool.false_eq_true, Nat.reduceLeDiff, Nat.reduceEqDiff, true_or, or_true, true_and, and_true, and_self, or_self, not_true, not_false_iff, mR_stI, mN_stI, isO_stI, isA_stI, mI_stI, mR_mW, mN_mW, isO_mW, isA_mW, mI_mW, mW_mW, stI_mW, nI_addL, nI_mulL, nI_subL, nI_ltL, nI_leL, nI_Llt, nI_Lle, nI_eqL, nI_Leq, nI_add, pk_mul, nI_ltI, nI_leI, nI_eq, vpi, nI_clamp, nI_toN, p_V_isBetween, hs, i_S_length, pc_S_length]
    rw [if_pos (by omega)]
    exact ⟨by rw [bv_T ⟨hx, fun j q => hj j (by omega)⟩], rfl⟩
  | succ n ih =>
    intro i hi hj
    refine X_run (C := [(i_S_length, e_S_length), (i_V_byteAt, e_V_byteAt), (i_S_charAt, e_S_charAt)]) (S := [15]) 100 k_V_isBetween (okE_cons (ok_S_length Z (d + 2)) (okE_cons (ok_V_byteAt Z (d + 3)) (okE_cons (ok_S_charAt Z d) okE_nil))) ?_
    simp (disch := first | trivial | assumption | omega) only [run, go, jmp, seek, inS, e0, e1, e2, e3, e4, e5, tsw, e7, e8, e9, e10, e11, e12, splitA, rcv, clook, lget, lset, lset2, lkill, Option.toList, List.nil_append, List.cons_append, wsum, List.map_cons, List.map_nil, List.sum_cons, List.sum_nil, Value.category, Nat.reduceAdd, List.getD_cons_zero, List.getD_cons_succ, ↓reduceIte, if_true, if_false, Bool.false_eq_true, Nat.reduceLeDiff, Nat.reduceEqDiff, true_or, or_true, true_and, and_true, and_self, or_self, not_true, not_false_iff, mR_stI, mN_stI, isO_stI, isA_stI, mI_stI, mR_mW, mN_mW, isO_mW, isA_mW, mI_mW, mW_mW, stI_mW, nI_addL, nI_mulL, nI_subL, nI_ltL, nI_leL, nI_Llt, nI_Lle, nI_eqL, nI_Leq, nI_add, pk_mul, nI_ltI, nI_leI, nI_eq, vpi, nI_clamp, nI_toN, p_V_isBetween, hs, bk_oV hB, i_S_length, pc_S_length, i_V_byteAt, pc_V_byteAt (o := 17) (i := a + i) (M := M) ⟨rfl, hB, hT⟩, i_S_charAt, pc_S_charAt (s := s) (i := i) (M := M) ⟨hs, by omega⟩]
    rw [if_neg (show ¬ slen s ≤ i by omega)]
    by_cases h : byF (mI M) (a + i) = chF s i
    · rw [if_pos h]
      refine ih (i + 1) (by omega) fun j q => ?_
      by_cases z : j = i
      · rw [z]; exact h
      · exact hj j (by omega)
    · rw [if_neg h]
      exact ⟨by rw [bv_F (fun q => h (q.2 i (by omega)))], rfl⟩
set_option maxRecDepth 100000 in
set_option maxHeartbeats 4000000 in
theorem ok_V_isBetween (Z : Zt) (d : Nat) : okE Z (d + 5) i_V_isBetween e_V_isBetween := mk_V_isBetween fun o s a e M h1 h2 hp => by
  obtain ⟨rfl, hB, hT, hs, ha, he⟩ := hp
  have h4 := slen_4 hs
  refine Gm_run (C := [(i_S_length, e_S_length)]) (S := [15]) [some (.ref 17), some (.ref s), some (.int (nI a)), some (.int (nI e)), none] 100 k_V_isBetween (okE_cons (ok_S_length Z (d + 2)) okE_nil) (ex_n rfl) ?_
  simp (disch := first | trivial | assumption | omega) only [run, go, jmp, seek, inS, e0, e1, e2, e3, e4, e5, tsw, e7, e8, e9, e10, e11, e12, splitA, rcv, clook, lget, lset, lset2, lkill, Option.toList, List.nil_append, List.cons_append, wsum, List.map_cons, List.map_nil, List.sum_cons, List.sum_nil, Value.category, Nat.reduceAdd, List.getD_cons_zero, List.getD_cons_succ, ↓reduceIte, if_true, if_false, Bool.false_eq_true, Nat.reduceLeDiff, Nat.reduceEqDiff, true_or, or_true, true_and, and_true, and_self, or_self, not_true, not_false_iff, mR_stI, mN_stI, isO_stI, isA_stI, mI_stI, mR_mW, mN_mW, isO_mW, isA_mW, mI_mW, mW_mW, stI_mW, nI_addL, nI_mulL, nI_subL, nI_ltL, nI_leL, nI_Llt, nI_Lle, nI_eqL, nI_Leq, nI_add, pk_mul, nI_ltI, nI_leI, nI_eq, vpi, nI_clamp, nI_toN, p_V_isBetween, hs, i_S_length, pc_S_length, pk_sub]
  by_cases h : e - a = slen s
  · rw [if_pos h]
    exact lp_V_isBetween Z d hB hT hs h ha he (slen s) 0 (by omega) (fun j q => absurd q (by omega))
  · rw [if_neg h]
    exact ⟨by rw [bv_F (fun q => h q.1)], rfl⟩
noncomputable def nmN (f : Nat → Nat → Int32) (a e : Nat) : Nat := @ite _ (isW f 2 a e) (Classical.propDecidable _) 0 (@ite _ (isW f 3 a e) (Classical.propDecidable _) 1 (@ite _ (isW f 4 a e) (Classical.propDecidable _) 2 (@ite _ (isW f 5 a e) (Classical.propDecidable _) 3 4)))
noncomputable def nmI (f : Nat → Nat → Int32) (a e : Nat) : Int32 := if nmN f a e = 4 then -1 else nI (nmN f a e)
theorem nmN_no {f : Nat → Nat → Int32} {a e : Nat} (h : ∀ k, k < 4 → ¬ isW f (k + 2) a e) : nmN f a e = 4 := by
  unfold nmN
  rw [if_neg (h 0 (by omega)), if_neg (h 1 (by omega)), if_neg (h 2 (by omega)), if_neg (h 3 (by omega))]
theorem nmN_at {f : Nat → Nat → Int32} {a e r : Nat} (hr : r < 4) (h : ∀ k, k < r → ¬ isW f (k + 2) a e) (h2 : isW f (r + 2) a e) : nmN f a e = r := by
  unfold nmN
  have : r = 0 ∨ r = 1 ∨ r = 2 ∨ r = 3 := by omega
  rcases this with q | q | q | q <;> subst q
  · rw [if_pos h2]
  · rw [if_neg (h 0 (by omega)), if_pos h2]
  · rw [if_neg (h 0 (by omega)), if_neg (h 1 (by omega)), if_pos h2]
  · rw [if_neg (h 0 (by omega)), if_neg (h 1 (by omega)), if_neg (h 2 (by omega)), if_pos h2]
theorem nmN_le (f : Nat → Nat → Int32) (a e : Nat) : nmN f a e ≤ 4 := by
  unfold nmN
  split
  · omega
  · split
    · omega
    · split
      · omega
      · split <;> omega
def e_V_nameBetween : Ent := (fun av M => ∃ (o : Nat) (a : Nat) (e : Nat), av = [.ref o, .int (nI a), .int (nI e)] ∧ a < 2 ^ 31 ∧ e < 2 ^ 31 ∧ (o = 17 ∧ BkS M ∧ TxD (mI M) ∧ a ≤ e ∧ e < 1000), fun av M r_ M_ => ∀ (o : Nat) (a : Nat) (e : Nat), a < 2 ^ 31 → e < 2 ^ 31 → av = [.ref o, .int (nI a), .int (nI e)] → r_ = (some (.int (nmI (mI M) a e))) ∧ M_ = (M))
theorem pc_V_nameBetween {o : Nat} {a : Nat} {e : Nat} {M : Mem} {K : Option Value → Mem → Prop} (hp : o = 17 ∧ BkS M ∧ TxD (mI M) ∧ a ≤ e ∧ e < 1000) (h_a : a < 2 ^ 31) (h_e : e < 2 ^ 31) : pcall e_V_nameBetween [.ref o, .int (nI a), .int (nI e)] M K = K (some (.int (nmI (mI M) a e))) (M) := propext ⟨fun h => h.2 _ _ (fun o' a' e' h_a' h_e' e => by simp only [List.cons.injEq, Value.ref.injEq, Value.int.injEq, Value.long.injEq, and_true] at e; obtain ⟨q0, q1, q2⟩ := e; obtain rfl := q0; obtain rfl := (nI_eq h_a h_a').mp q1; obtain rfl := (nI_eq h_e h_e').mp q2; exact ⟨rfl, rfl⟩), fun h => ⟨⟨o, a, e, rfl, h_a, h_e, hp⟩, fun r_ M_ q => by obtain ⟨rfl, rfl⟩ := q _ _ _ h_a h_e rfl; exact h⟩⟩
theorem mk_V_nameBetween {Z : Zt} {d : Nat} (h : ∀ (o : Nat) (a : Nat) (e : Nat) (M : Mem), a < 2 ^ 31 → e < 2 ^ 31 → (o = 17 ∧ BkS M ∧ TxD (mI M) ∧ a ≤ e ∧ e < 1000) → Gm Z d s_V_nameBetween [.ref o, .int (nI a), .int (nI e)] M (ex (some (.int (nmI (mI M) a e))) (M))) : okE Z d i_V_nameBetween e_V_nameBetween := by
  rintro av M ⟨o, a, e, rfl, h_a, h_e, hp⟩
  exact Gm.cons (h o a e M h_a h_e hp) (fun r_ M_ q o' a' e' h_a' h_e' e => by simp only [List.cons.injEq, Value.ref.injEq, Value.int.injEq, Value.long.injEq, and_true] at e; obtain ⟨q0, q1, q2⟩ := e; obtain rfl := q0; obtain rfl := (nI_eq h_a h_a').mp q1; obtain rfl := (nI_eq h_e h_e').mp q2; exact q)
set_option maxRecDepth 100000 in
set_option maxHeartbeats 4000000 in
theorem lp_V_nameBetween (Z : Zt) (d : Nat) {M : Mem} {a e : Nat} (hB : BkS M) (hT : TxD (mI M)) (ha : a ≤ e) (he : e < 1000) : ∀ n r, r + n = 4 → (∀ j, j < r → ¬ isW (mI M) (j + 2) a e) → X Z (d + 6) s_V_nameBetween (mN M) (mN M) (ex (some (.int (nmI (mI M) a e))) M) 2 [some (.ref 17), some (.int (nI a)), some (.int (nI e)), some (.int (nI r))] [] M := by
  intro n
  induction n with
  | zero =>
    intro r hr hj
    obtain rfl : r = 4 := by omega
    refine X_run (C := []) (S := [2]) 100 k_V_nameBetween okE_nil ?_
    simp (disch := first | trivial | assumption | omega) only [run, go, jmp, seek, inS, e0, e1, e2, e3, e4, e5, tsw, e7, e8, e9, e10, e11, e12, splitA, rcv, clook, lget, lset, lset2, lkill, Option.toList, List.nil_append, List.cons_append, wsum, List.map_cons, List.map_nil, List.sum_cons, List.sum_nil, Value.category, Nat.reduceAdd, List.getD_cons_zero, List.getD_cons_succ, ↓reduceIte, if_true, if_false, Bool.false_eq_true, Nat.reduceLeDiff, Nat.reduceEqDiff, true_or, or_true, true_and, and_true, and_self, or_self, not_true, not_false_iff, mR_stI, mN_stI, isO_stI, isA_stI, mI_stI, mR_mW, mN_mW, isO_mW, isA_mW, mI_mW, mW_mW, stI_mW, nI_addL, nI_mulL, nI_subL, nI_ltL, nI_leL, nI_Llt, nI_Lle, nI_eqL, nI_Leq, nI_add, pk_mul, nI_ltI, nI_leI, nI_eq, vpi, nI_clamp, nI_toN, p_V_nameBetween]
    exact ⟨by rw [nmI, if_pos (nmN_no hj)], rfl⟩
  | succ n ih =>
    intro r hr hj
    have hs : (if r < 3 then r + 2 else 5) = r + 2 := by
      by_cases q : r < 3
      · rw [if_pos q]
      · rw [if_neg q]; omega
    refine X_run (C := [(i_V_nameOf, e_V_nameOf), (i_V_isBetween, e_V_isBetween)]) (S := [2]) 100 k_V_nameBetween (okE_cons (ok_V_nameOf Z (d + 4)) (okE_cons (ok_V_isBetween Z d) okE_nil)) ?_
    simp (disch := first | trivial | assumption | omega) only [run, go, jmp, seek, inS, e0, e1, e2, e3, e4, e5, tsw, e7, e8, e9, e10, e11, e12, splitA, rcv, clook, lget, lset, lset2, lkill, Option.toList, List.nil_append, List.cons_append, wsum, List.map_cons, List.map_nil, List.sum_cons, List.sum_nil, Value.category, Nat.reduceAdd, List.getD_cons_zero, List.getD_cons_succ, ↓reduceIte, if_true, if_false, Bool.false_eq_true, Nat.reduceLeDiff, Nat.reduceEqDiff, true_or, or_true, true_and, and_true, and_self, or_self, not_true, not_false_iff, mR_stI, mN_stI, isO_stI, isA_stI, mI_stI, mR_mW, mN_mW, isO_mW, isA_mW, mI_mW, mW_mW, stI_mW, nI_addL, nI_mulL, nI_subL, nI_ltL, nI_leL, nI_Llt, nI_Lle, nI_eqL, nI_Leq, nI_add, pk_mul, nI_ltI, nI_leI, nI_eq, vpi, nI_clamp, nI_toN, p_V_nameBetween, bk_oV hB, i_V_nameOf, pc_V_nameOf, hs, i_V_isBetween, pc_V_isBetween (o := 17) (s := r + 2) (a := a) (e := e) (M := M) ⟨rfl, hB, hT, by omega, ha, he⟩, bv_0]
    rw [if_neg (show ¬ 4 ≤ r by omega)]
    by_cases h : isW (mI M) (r + 2) a e
    · rw [if_neg (bv_n0 h)]
      refine ⟨?_, rfl⟩
      have := nmN_at (by omega) hj h
      rw [nmI, this, if_neg (by omega)]
    · rw [if_pos (bv_F h)]
      refine ih (r + 1) (by omega) fun j q => ?_
      by_cases z : j = r
      · rw [z]; exact h
      · exact hj j (by omega)
set_option maxRecDepth 100000 in
set_option maxHeartbeats 4000000 in
theorem ok_V_nameBetween (Z : Zt) (d : Nat) : okE Z (d + 6) i_V_nameBetween e_V_nameBetween := mk_V_nameBetween fun o a e M h1 h2 hp => by
  obtain ⟨rfl, hB, hT, ha, he⟩ := hp
  refine Gm_run (C := []) (S := [2]) [some (.ref 17), some (.int (nI a)), some (.int (nI e)), none] 100 k_V_nameBetween okE_nil (ex_n rfl) ?_
  simp (disch := first | trivial | assumption | omega) only [run, go, jmp, seek, inS, e0, e1, e2, e3, e4, e5, tsw, e7, e8, e9, e10, e11, e12, splitA, rcv, clook, lget, lset, lset2, lkill, Option.toList, List.nil_append, List.cons_append, wsum, List.map_cons, List.map_nil, List.sum_cons, List.sum_nil, Value.category, Nat.reduceAdd, List.getD_cons_zero, List.getD_cons_succ, ↓reduceIte, if_true, if_false, Bool.false_eq_true, Nat.reduceLeDiff, Nat.reduceEqDiff, true_or, or_true, true_and, and_true, and_self, or_self, not_true, not_false_iff, mR_stI, mN_stI, isO_stI, isA_stI, mI_stI, mR_mW, mN_mW, isO_mW, isA_mW, mI_mW, mW_mW, stI_mW, nI_addL, nI_mulL, nI_subL, nI_ltL, nI_leL, nI_Llt, nI_Lle, nI_eqL, nI_Leq, nI_add, pk_mul, nI_ltI, nI_leI, nI_eq, vpi, nI_clamp, nI_toN, p_V_nameBetween]
  exact lp_V_nameBetween Z d hB hT ha he 4 0 rfl (fun j q => absurd q (by omega))
/-- a byte put behind the text -/
def apF (f : Nat → Nat → Int32) (v : Int32) : Nat → Nat → Int32 := if tl f < 60 then u2 (u2 f 18 (tl f) v) 17 2 (nI (tl f + 1)) else f
def e_V_append : Ent := (fun av M => ∃ (o : Nat) (v : Int32), av = [.ref o, .int v] ∧ (o = 17 ∧ BkS M ∧ TxD (mI M)), fun av M r_ M_ => ∀ (o : Nat) (v : Int32), av = [.ref o, .int v] → r_ = (some (.int (bv (tl (mI M) < 60)))) ∧ M_ = (mW M (apF (mI M) v)))
theorem pc_V_append {o : Nat} {v : Int32} {M : Mem} {K : Option Value → Mem → Prop} (hp : o = 17 ∧ BkS M ∧ TxD (mI M)) : pcall e_V_append [.ref o, .int v] M K = K (some (.int (bv (tl (mI M) < 60)))) (mW M (apF (mI M) v)) := propext ⟨fun h => h.2 _ _ (fun o' v' e => by simp only [List.cons.injEq, Value.ref.injEq, Value.int.injEq, Value.long.injEq, and_true] at e; obtain ⟨q0, q1⟩ := e; obtain rfl := q0; obtain rfl := q1; exact ⟨rfl, rfl⟩), fun h => ⟨⟨o, v, rfl, hp⟩, fun r_ M_ q => by obtain ⟨rfl, rfl⟩ := q _ _ rfl; exact h⟩⟩
theorem mk_V_append {Z : Zt} {d : Nat} (h : ∀ (o : Nat) (v : Int32) (M : Mem), (o = 17 ∧ BkS M ∧ TxD (mI M)) → Gm Z d s_V_append [.ref o, .int v] M (ex (some (.int (bv (tl (mI M) < 60)))) (mW M (apF (mI M) v)))) : okE Z d i_V_append e_V_append := by
  rintro av M ⟨o, v, rfl, hp⟩
  exact Gm.cons (h o v M  hp) (fun r_ M_ q o' v' e => by simp only [List.cons.injEq, Value.ref.injEq, Value.int.injEq, Value.long.injEq, and_true] at e; obtain ⟨q0, q1⟩ := e; obtain rfl := q0; obtain rfl := q1; exact q)
set_option maxRecDepth 100000 in
set_option maxHeartbeats 4000000 in
theorem ok_V_append (Z : Zt) (d : Nat) : okE Z (d + 1) i_V_append e_V_append := mk_V_append fun o v M hp => by
  obtain ⟨rfl, hB, hT⟩ := hp
  have hl := hT.2
  refine Gm_run (C := []) (S := []) [some (.ref 17), some (.int v)] 100 k_V_append okE_nil (ex_n rfl) ?_
  simp (disch := first | trivial | assumption | omega) only [run, go, jmp, seek, inS, e0, e1, e2, e3, e4, e5, tsw, e7, e8, e9, e10, e11, e12, splitA, rcv, clook, lget, lset, lset2, lkill, Option.toList, List.nil_append, List.cons_append, wsum, List.map_cons, List.map_nil, List.sum_cons, List.sum_nil, Value.category, Nat.reduceAdd, List.getD_cons_zero, List.getD_cons_succ, ↓reduceIte, if_true, if_false, Bool.false_eq_true, Nat.reduceLeDiff, Nat.reduceEqDiff, true_or, or_true, true_and, and_true, and_self, or_self, not_true, not_false_iff, mR_stI, mN_stI, isO_stI, isA_stI, mI_stI, mR_mW, mN_mW, isO_mW, isA_mW, mI_mW, mW_mW, stI_mW, nI_addL, nI_mulL, nI_subL, nI_ltL, nI_leL, nI_Llt, nI_Lle, nI_eqL, nI_Leq, nI_add, pk_mul, nI_ltI, nI_leI, nI_eq, vpi, nI_clamp, nI_toN, p_V_append, bk_oV hB, bk_v0 hB, hT.1]
  by_cases h : tl (mI M) < 60
  · have hA : isA M 18 (nI (tl (mI M))) = True := bk_A hB (n := 60) rfl (by omega) (by omega) (by omega)
    have hu : u2 (mI M) 18 (tl (mI M)) v 17 2 = nI (tl (mI M)) := by rw [u2_ne (by omega), hT.1]
    rw [if_pos h]
    simp (disch := first | trivial | assumption | omega) only [run, go, jmp, seek, inS, e0, e1, e2, e3, e4, e5, tsw, e7, e8, e9, e10, e11, e12, splitA, rcv, clook, lget, lset, lset2, lkill, Option.toList, List.nil_append, List.cons_append, wsum, List.map_cons, List.map_nil, List.sum_cons, List.sum_nil, Value.category, Nat.reduceAdd, List.getD_cons_zero, List.getD_cons_succ, ↓reduceIte, if_true, if_false, Bool.false_eq_true, Nat.reduceLeDiff, Nat.reduceEqDiff, true_or, or_true, true_and, and_true, and_self, or_self, not_true, not_false_iff, mR_stI, mN_stI, isO_stI, isA_stI, mI_stI, mR_mW, mN_mW, isO_mW, isA_mW, mI_mW, mW_mW, stI_mW, nI_addL, nI_mulL, nI_subL, nI_ltL, nI_leL, nI_Llt, nI_Lle, nI_eqL, nI_Leq, nI_add, pk_mul, nI_ltI, nI_leI, nI_eq, vpi, nI_clamp, nI_toN, hA, bk_oV hB, hu]
    exact ⟨by rw [bv_T h], by rw [apF, if_pos h]⟩
  · rw [if_neg h]
    exact ⟨by rw [bv_F h], by rw [apF, if_neg h]; rfl⟩
def huF (f : Nat → Nat → Int32) : Prop := ∃ i, i < 4 ∧ 0 < f 19 i
def e_V_hasUnits : Ent := (fun av M => ∃ (o : Nat), av = [.ref o] ∧ (o = 17 ∧ BkS M), fun av M r_ M_ => ∀ (o : Nat), av = [.ref o] → r_ = (some (.int (bv (huF (mI M))))) ∧ M_ = (M))
theorem pc_V_hasUnits {o : Nat} {M : Mem} {K : Option Value → Mem → Prop} (hp : o = 17 ∧ BkS M) : pcall e_V_hasUnits [.ref o] M K = K (some (.int (bv (huF (mI M))))) (M) := propext ⟨fun h => h.2 _ _ (fun o' e => by simp only [List.cons.injEq, Value.ref.injEq, Value.int.injEq, Value.long.injEq, and_true] at e; have q0 := e; obtain rfl := q0; exact ⟨rfl, rfl⟩), fun h => ⟨⟨o, rfl, hp⟩, fun r_ M_ q => by obtain ⟨rfl, rfl⟩ := q _ rfl; exact h⟩⟩
theorem mk_V_hasUnits {Z : Zt} {d : Nat} (h : ∀ (o : Nat) (M : Mem), (o = 17 ∧ BkS M) → Gm Z d s_V_hasUnits [.ref o] M (ex (some (.int (bv (huF (mI M))))) (M))) : okE Z d i_V_hasUnits e_V_hasUnits := by
  rintro av M ⟨o, rfl, hp⟩
  exact Gm.cons (h o M  hp) (fun r_ M_ q o' e => by simp only [List.cons.injEq, Value.ref.injEq, Value.int.injEq, Value.long.injEq, and_true] at e; have q0 := e; obtain rfl := q0; exact q)
set_option maxRecDepth 100000 in
set_option maxHeartbeats 4000000 in
theorem lp_V_hasUnits (Z : Zt) (d : Nat) {M : Mem} (hB : BkS M) : ∀ n r, r + n = 4 → (∀ j, j < r → ¬ 0 < mI M 19 j) → X Z (d + 1) s_V_hasUnits (mN M) (mN M) (ex (some (.int (bv (huF (mI M))))) M) 2 [some (.ref 17), some (.int (nI r))] [] M := by
  intro n
  induction n with
  | zero =>
    intro r hr hj
    obtain rfl : r = 4 := by omega
    refine X_run (C := []) (S := [2]) 100 k_V_hasUnits okE_nil ?_
    simp (disch := first | trivial | assumption | omega) only [run, go, jmp, seek, inS, e0, e1, e2, e3, e4, e5, tsw, e7, e8, e9, e10, e11, e12, splitA, rcv, clook, lget, lset, lset2, lkill, Option.toList, List.nil_append, List.cons_append, wsum, List.map_cons, List.map_nil, List.sum_cons, List.sum_nil, Value.category, Nat.reduceAdd, List.getD_cons_zero, List.getD_cons_succ, ↓reduceIte, if_true, if_false, Bool.false_eq_true, Nat.reduceLeDiff, Nat.reduceEqDiff, true_or, or_true, true_and, and_true, and_self, or_self, not_true, not_false_iff, mR_stI, mN_stI, isO_stI, isA_stI, mI_stI, mR_mW, mN_mW, isO_mW, isA_mW, mI_mW, mW_mW, stI_mW, nI_addL, nI_mulL, nI_subL, nI_ltL, nI_leL, nI_Llt, nI_Lle, nI_eqL, nI_Leq, nI_add, pk_mul, nI_ltI, nI_leI, nI_eq, vpi, nI_clamp, nI_toN, p_V_hasUnits]
    exact ⟨by rw [bv_F (fun ⟨i, h1, h2⟩ => hj i h1 h2)], rfl⟩
  | succ n ih =>
    intro r hr hj
    have hA : isA M 19 (nI r) = True := bk_A hB (n := 4) rfl (by omega) (by omega) (by omega)
    refine X_run (C := []) (S := [2]) 100 k_V_hasUnits okE_nil ?_
    simp (disch := first | trivial | assumption | omega) only [run, go, jmp, seek, inS, e0, e1, e2, e3, e4, e5, tsw, e7, e8, e9, e10, e11, e12, splitA, rcv, clook, lget, lset, lset2, lkill, Option.toList, List.nil_append, List.cons_append, wsum, List.map_cons, List.map_nil, List.sum_cons, List.sum_nil, Value.category, Nat.reduceAdd, List.getD_cons_zero, List.getD_cons_succ, ↓reduceIte, if_true, if_false, Bool.false_eq_true, Nat.reduceLeDiff, Nat.reduceEqDiff, true_or, or_true, true_and, and_true, and_self, or_self, not_true, not_false_iff, mR_stI, mN_stI, isO_stI, isA_stI, mI_stI, mR_mW, mN_mW, isO_mW, isA_mW, mI_mW, mW_mW, stI_mW, nI_addL, nI_mulL, nI_subL, nI_ltL, nI_leL, nI_Llt, nI_Lle, nI_eqL, nI_Leq, nI_add, pk_mul, nI_ltI, nI_leI, nI_eq, vpi, nI_clamp, nI_toN, p_V_hasUnits, bk_oV hB, bk_v1 hB, hA]
    rw [if_neg (show ¬ 4 ≤ r by omega)]
    by_cases h : 0 < mI M 19 r
    · rw [if_neg (Int32.not_le.mpr h)]
      exact ⟨by rw [bv_T ⟨r, by omega, h⟩], rfl⟩
    · rw [if_pos (Int32.not_lt.mp h)]
      refine ih (r + 1) (by omega) fun j q => ?_
      by_cases z : j = r
      · rw [z]; exact h
      · exact hj j (by omega)
set_option maxRecDepth 100000 in
set_option maxHeartbeats 4000000 in
theorem ok_V_hasUnits (Z : Zt) (d : Nat) : okE Z (d + 1) i_V_hasUnits e_V_hasUnits := mk_V_hasUnits fun o M hp => by
  obtain ⟨rfl, hB⟩ := hp
  refine Gm_run (C := []) (S := [2]) [some (.ref 17), none] 100 k_V_hasUnits okE_nil (ex_n rfl) ?_
  simp (disch := first | trivial | assumption | omega) only [run, go, jmp, seek, inS, e0, e1, e2, e3, e4, e5, tsw, e7, e8, e9, e10, e11, e12, splitA, rcv, clook, lget, lset, lset2, lkill, Option.toList, List.nil_append, List.cons_append, wsum, List.map_cons, List.map_nil, List.sum_cons, List.sum_nil, Value.category, Nat.reduceAdd, List.getD_cons_zero, List.getD_cons_succ, ↓reduceIte, if_true, if_false, Bool.false_eq_true, Nat.reduceLeDiff, Nat.reduceEqDiff, true_or, or_true, true_and, and_true, and_self, or_self, not_true, not_false_iff, mR_stI, mN_stI, isO_stI, isA_stI, mI_stI, mR_mW, mN_mW, isO_mW, isA_mW, mI_mW, mW_mW, stI_mW, nI_addL, nI_mulL, nI_subL, nI_ltL, nI_leL, nI_Llt, nI_Lle, nI_eqL, nI_Leq, nI_add, pk_mul, nI_ltI, nI_leI, nI_eq, vpi, nI_clamp, nI_toN, p_V_hasUnits]
  exact lp_V_hasUnits Z d hB 4 0 rfl (fun j q => absurd q (by omega))
