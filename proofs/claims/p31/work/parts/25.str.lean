/-! ===== the JDK's texts ===== -/
def e_S_coder : Ent := (fun av M => ∃ (s : Nat), av = [.ref s] ∧ (2 ≤ s ∧ s < 6), fun av M r_ M_ => ∀ (s : Nat), av = [.ref s] → r_ = (some (.int 0)) ∧ M_ = (M))
theorem pc_S_coder {s : Nat} {M : Mem} {K : Option Value → Mem → Prop} (hp : 2 ≤ s ∧ s < 6) : pcall e_S_coder [.ref s] M K = K (some (.int 0)) (M) := propext ⟨fun h => h.2 _ _ (fun s' e => by simp only [List.cons.injEq, Value.ref.injEq, Value.int.injEq, Value.long.injEq, and_true] at e; have q0 := e; obtain rfl := q0; exact ⟨rfl, rfl⟩), fun h => ⟨⟨s, rfl, hp⟩, fun r_ M_ q => by obtain ⟨rfl, rfl⟩ := q _ rfl; exact h⟩⟩
theorem mk_S_coder {Z : Zt} {d : Nat} (h : ∀ (s : Nat) (M : Mem), (2 ≤ s ∧ s < 6) → Gm Z d s_S_coder [.ref s] M (ex (some (.int 0)) (M))) : okE Z d i_S_coder e_S_coder := by
  rintro av M ⟨s, rfl, hp⟩
  exact Gm.cons (h s M  hp) (fun r_ M_ q s' e => by simp only [List.cons.injEq, Value.ref.injEq, Value.int.injEq, Value.long.injEq, and_true] at e; have q0 := e; obtain rfl := q0; exact q)
set_option maxRecDepth 100000 in
set_option maxHeartbeats 4000000 in
theorem ok_S_coder (Z : Zt) (d : Nat) : okE Z (d + 1) i_S_coder e_S_coder := mk_S_coder fun s M hp => by
  refine Gm_run (C := []) (S := []) [some (.ref s)] 100 k_S_coder okE_nil (ex_n rfl) ?_
  simp (disch := first | trivial | assumption | omega) only [run, go, jmp, seek, inS, e0, e1, e2, e3, e4, e5, tsw, e7, e8, e9, e10, e11, e12, splitA, rcv, clook, lget, lset, lset2, lkill, Option.toList, List.nil_append, List.cons_append, wsum, List.map_cons, List.map_nil, List.sum_cons, List.sum_nil, Value.category, Nat.reduceAdd, List.getD_cons_zero, List.getD_cons_succ, ↓reduceIte, if_true, if_false, Bool.false_eq_true, Nat.reduceLeDiff, Nat.reduceEqDiff, true_or, or_true, true_and, and_true, and_self, or_self, not_true, not_false_iff, mR_stI, mN_stI, isO_stI, isA_stI, mI_stI, mR_mW, mN_mW, isO_mW, isA_mW, mI_mW, mW_mW, stI_mW, nI_addL, nI_mulL, nI_subL, nI_ltL, nI_leL, nI_Llt, nI_Lle, nI_eqL, nI_Leq, nI_add, pk_mul, nI_ltI, nI_leI, nI_eq, vpi, nI_clamp, nI_toN, p_S_coder, hp]
  exact ⟨⟨0, by omega, rfl⟩, rfl, rfl⟩
def slen (s : Nat) : Nat := lenL.getD (s - 2) 0
theorem slen_4 {s : Nat} (h : 2 ≤ s ∧ s < 6) : slen s < 5 := by
  have : s = 2 ∨ s = 3 ∨ s = 4 ∨ s = 5 := by omega
  rcases this with h | h | h | h <;> subst h <;> decide
theorem shr_0 (x : Int32) : x >>> ((0 : Int32) &&& 31) = x := by
  have : ((0 : Int32) &&& 31) = 0 := rfl
  rw [this]
  exact Int32.shiftRight_zero
def e_S_length : Ent := (fun av M => ∃ (s : Nat), av = [.ref s] ∧ (2 ≤ s ∧ s < 6), fun av M r_ M_ => ∀ (s : Nat), av = [.ref s] → r_ = (some (.int (nI (slen s)))) ∧ M_ = (M))
theorem pc_S_length {s : Nat} {M : Mem} {K : Option Value → Mem → Prop} (hp : 2 ≤ s ∧ s < 6) : pcall e_S_length [.ref s] M K = K (some (.int (nI (slen s)))) (M) := propext ⟨fun h => h.2 _ _ (fun s' e => by simp only [List.cons.injEq, Value.ref.injEq, Value.int.injEq, Value.long.injEq, and_true] at e; have q0 := e; obtain rfl := q0; exact ⟨rfl, rfl⟩), fun h => ⟨⟨s, rfl, hp⟩, fun r_ M_ q => by obtain ⟨rfl, rfl⟩ := q _ rfl; exact h⟩⟩
theorem mk_S_length {Z : Zt} {d : Nat} (h : ∀ (s : Nat) (M : Mem), (2 ≤ s ∧ s < 6) → Gm Z d s_S_length [.ref s] M (ex (some (.int (nI (slen s)))) (M))) : okE Z d i_S_length e_S_length := by
  rintro av M ⟨s, rfl, hp⟩
  exact Gm.cons (h s M  hp) (fun r_ M_ q s' e => by simp only [List.cons.injEq, Value.ref.injEq, Value.int.injEq, Value.long.injEq, and_true] at e; have q0 := e; obtain rfl := q0; exact q)
set_option maxRecDepth 100000 in
set_option maxHeartbeats 4000000 in
theorem ok_S_length (Z : Zt) (d : Nat) : okE Z (d + 2) i_S_length e_S_length := mk_S_length fun s M hp => by
  have ha : (6 ≤ s + 4) = True := eq_true (by omega)
  have ha2 : (s + 4 < 10) = True := eq_true (by omega)
  have q1 : lenL.getD (s + 4 - 6) 0 = slen s := by unfold slen; rw [show s + 4 - 6 = s - 2 by omega]
  refine Gm_run (C := [(i_S_coder, e_S_coder)]) (S := []) [some (.ref s)] 100 k_S_length (okE_cons (ok_S_coder Z d) okE_nil) (ex_n rfl) ?_
  simp (disch := first | trivial | assumption | omega) only [run, go, jmp, seek, inS, e0, e1, e2, e3, e4, e5, tsw, e7, e8, e9, e10, e11, e12, splitA, rcv, clook, lget, lset, lset2, lkill, Option.toList, List.nil_append, List.cons_append, wsum, List.map_cons, List.map_nil, List.sum_cons, List.sum_nil, Value.category, Nat.reduceAdd, List.getD_cons_zero, List.getD_cons_succ, ↓reduceIte, if_true, if_false, Bool.false_eq_true, Nat.reduceLeDiff, Nat.reduceEqDiff, true_or, or_true, true_and, and_true, and_self, or_self, not_true, not_false_iff, mR_stI, mN_stI, isO_stI, isA_stI, mI_stI, mR_mW, mN_mW, isO_mW, isA_mW, mI_mW, mW_mW, stI_mW, nI_addL, nI_mulL, nI_subL, nI_ltL, nI_leL, nI_Llt, nI_Lle, nI_eqL, nI_Leq, nI_add, pk_mul, nI_ltI, nI_leI, nI_eq, vpi, nI_clamp, nI_toN, p_S_length, hp, i_S_coder, pc_S_coder, shr_0, ha, ha2, q1]
  exact ⟨rfl, rfl⟩
def e_S_isLatin1 : Ent := (fun av M => ∃ (s : Nat), av = [.ref s] ∧ (2 ≤ s ∧ s < 6), fun av M r_ M_ => ∀ (s : Nat), av = [.ref s] → r_ = (some (.int 1)) ∧ M_ = (M))
theorem pc_S_isLatin1 {s : Nat} {M : Mem} {K : Option Value → Mem → Prop} (hp : 2 ≤ s ∧ s < 6) : pcall e_S_isLatin1 [.ref s] M K = K (some (.int 1)) (M) := propext ⟨fun h => h.2 _ _ (fun s' e => by simp only [List.cons.injEq, Value.ref.injEq, Value.int.injEq, Value.long.injEq, and_true] at e; have q0 := e; obtain rfl := q0; exact ⟨rfl, rfl⟩), fun h => ⟨⟨s, rfl, hp⟩, fun r_ M_ q => by obtain ⟨rfl, rfl⟩ := q _ rfl; exact h⟩⟩
theorem mk_S_isLatin1 {Z : Zt} {d : Nat} (h : ∀ (s : Nat) (M : Mem), (2 ≤ s ∧ s < 6) → Gm Z d s_S_isLatin1 [.ref s] M (ex (some (.int 1)) (M))) : okE Z d i_S_isLatin1 e_S_isLatin1 := by
  rintro av M ⟨s, rfl, hp⟩
  exact Gm.cons (h s M  hp) (fun r_ M_ q s' e => by simp only [List.cons.injEq, Value.ref.injEq, Value.int.injEq, Value.long.injEq, and_true] at e; have q0 := e; obtain rfl := q0; exact q)
set_option maxRecDepth 100000 in
set_option maxHeartbeats 4000000 in
theorem ok_S_isLatin1 (Z : Zt) (d : Nat) : okE Z (d + 1) i_S_isLatin1 e_S_isLatin1 := mk_S_isLatin1 fun s M hp => by
  refine Gm_run (C := []) (S := []) [some (.ref s)] 100 k_S_isLatin1 okE_nil (ex_n rfl) ?_
  simp (disch := first | trivial | assumption | omega) only [run, go, jmp, seek, inS, e0, e1, e2, e3, e4, e5, tsw, e7, e8, e9, e10, e11, e12, splitA, rcv, clook, lget, lset, lset2, lkill, Option.toList, List.nil_append, List.cons_append, wsum, List.map_cons, List.map_nil, List.sum_cons, List.sum_nil, Value.category, Nat.reduceAdd, List.getD_cons_zero, List.getD_cons_succ, ↓reduceIte, if_true, if_false, Bool.false_eq_true, Nat.reduceLeDiff, Nat.reduceEqDiff, true_or, or_true, true_and, and_true, and_self, or_self, not_true, not_false_iff, mR_stI, mN_stI, isO_stI, isA_stI, mI_stI, mR_mW, mN_mW, isO_mW, isA_mW, mI_mW, mW_mW, stI_mW, nI_addL, nI_mulL, nI_subL, nI_ltL, nI_leL, nI_Llt, nI_Lle, nI_eqL, nI_Leq, nI_add, pk_mul, nI_ltI, nI_leI, nI_eq, vpi, nI_clamp, nI_toN, p_S_isLatin1, hp]
  exact ⟨rfl, rfl⟩
def e_P_checkIndex : Ent := (fun av M => ∃ (i : Nat) (n : Nat) (o : Nat), av = [.int (nI i), .int (nI n), .ref o] ∧ i < 2 ^ 31 ∧ n < 2 ^ 31 ∧ (i < n), fun av M r_ M_ => ∀ (i : Nat) (n : Nat) (o : Nat), i < 2 ^ 31 → n < 2 ^ 31 → av = [.int (nI i), .int (nI n), .ref o] → r_ = (some (.int (nI i))) ∧ M_ = (M))
theorem pc_P_checkIndex {i : Nat} {n : Nat} {o : Nat} {M : Mem} {K : Option Value → Mem → Prop} (hp : i < n) (h_i : i < 2 ^ 31) (h_n : n < 2 ^ 31) : pcall e_P_checkIndex [.int (nI i), .int (nI n), .ref o] M K = K (some (.int (nI i))) (M) := propext ⟨fun h => h.2 _ _ (fun i' n' o' h_i' h_n' e => by simp only [List.cons.injEq, Value.ref.injEq, Value.int.injEq, Value.long.injEq, and_true] at e; obtain ⟨q0, q1, q2⟩ := e; obtain rfl := (nI_eq h_i h_i').mp q0; obtain rfl := (nI_eq h_n h_n').mp q1; obtain rfl := q2; exact ⟨rfl, rfl⟩), fun h => ⟨⟨i, n, o, rfl, h_i, h_n, hp⟩, fun r_ M_ q => by obtain ⟨rfl, rfl⟩ := q _ _ _ h_i h_n rfl; exact h⟩⟩
theorem mk_P_checkIndex {Z : Zt} {d : Nat} (h : ∀ (i : Nat) (n : Nat) (o : Nat) (M : Mem), i < 2 ^ 31 → n < 2 ^ 31 → (i < n) → Gm Z d s_P_checkIndex [.int (nI i), .int (nI n), .ref o] M (ex (some (.int (nI i))) (M))) : okE Z d i_P_checkIndex e_P_checkIndex := by
  rintro av M ⟨i, n, o, rfl, h_i, h_n, hp⟩
  exact Gm.cons (h i n o M h_i h_n hp) (fun r_ M_ q i' n' o' h_i' h_n' e => by simp only [List.cons.injEq, Value.ref.injEq, Value.int.injEq, Value.long.injEq, and_true] at e; obtain ⟨q0, q1, q2⟩ := e; obtain rfl := (nI_eq h_i h_i').mp q0; obtain rfl := (nI_eq h_n h_n').mp q1; obtain rfl := q2; exact q)
set_option maxRecDepth 100000 in
set_option maxHeartbeats 4000000 in
theorem ok_P_checkIndex (Z : Zt) (d : Nat) : okE Z (d + 1) i_P_checkIndex e_P_checkIndex := mk_P_checkIndex fun i n o M h1 h2 hp => by
  refine Gm_run (C := []) (S := []) [some (.int (nI i)), some (.int (nI n)), some (.ref o)] 100 k_P_checkIndex okE_nil (ex_n rfl) ?_
  simp (disch := first | trivial | assumption | omega) only [run, go, jmp, seek, inS, e0, e1, e2, e3, e4, e5, tsw, e7, e8, e9, e10, e11, e12, splitA, rcv, clook, lget, lset, lset2, lkill, Option.toList, List.nil_append, List.cons_append, wsum, List.map_cons, List.map_nil, List.sum_cons, List.sum_nil, Value.category, Nat.reduceAdd, List.getD_cons_zero, List.getD_cons_succ, ↓reduceIte, if_true, if_false, Bool.false_eq_true, Nat.reduceLeDiff, Nat.reduceEqDiff, true_or, or_true, true_and, and_true, and_self, or_self, not_true, not_false_iff, mR_stI, mN_stI, isO_stI, isA_stI, mI_stI, mR_mW, mN_mW, isO_mW, isA_mW, mI_mW, mW_mW, stI_mW, nI_addL, nI_mulL, nI_subL, nI_ltL, nI_leL, nI_Llt, nI_Lle, nI_eqL, nI_Leq, nI_add, pk_mul, nI_ltI, nI_leI, nI_eq, vpi, nI_clamp, nI_toN, p_P_checkIndex]
  rw [if_pos hp]
  exact ⟨rfl, rfl⟩
def e_S_checkIndex : Ent := (fun av M => ∃ (i : Nat) (n : Nat), av = [.int (nI i), .int (nI n)] ∧ i < 2 ^ 31 ∧ n < 2 ^ 31 ∧ (i < n), fun av M r_ M_ => ∀ (i : Nat) (n : Nat), i < 2 ^ 31 → n < 2 ^ 31 → av = [.int (nI i), .int (nI n)] → r_ = (none) ∧ M_ = (M))
theorem pc_S_checkIndex {i : Nat} {n : Nat} {M : Mem} {K : Option Value → Mem → Prop} (hp : i < n) (h_i : i < 2 ^ 31) (h_n : n < 2 ^ 31) : pcall e_S_checkIndex [.int (nI i), .int (nI n)] M K = K (none) (M) := propext ⟨fun h => h.2 _ _ (fun i' n' h_i' h_n' e => by simp only [List.cons.injEq, Value.ref.injEq, Value.int.injEq, Value.long.injEq, and_true] at e; obtain ⟨q0, q1⟩ := e; obtain rfl := (nI_eq h_i h_i').mp q0; obtain rfl := (nI_eq h_n h_n').mp q1; exact ⟨rfl, rfl⟩), fun h => ⟨⟨i, n, rfl, h_i, h_n, hp⟩, fun r_ M_ q => by obtain ⟨rfl, rfl⟩ := q _ _ h_i h_n rfl; exact h⟩⟩
theorem mk_S_checkIndex {Z : Zt} {d : Nat} (h : ∀ (i : Nat) (n : Nat) (M : Mem), i < 2 ^ 31 → n < 2 ^ 31 → (i < n) → Gm Z d s_S_checkIndex [.int (nI i), .int (nI n)] M (ex (none) (M))) : okE Z d i_S_checkIndex e_S_checkIndex := by
  rintro av M ⟨i, n, rfl, h_i, h_n, hp⟩
  exact Gm.cons (h i n M h_i h_n hp) (fun r_ M_ q i' n' h_i' h_n' e => by simp only [List.cons.injEq, Value.ref.injEq, Value.int.injEq, Value.long.injEq, and_true] at e; obtain ⟨q0, q1⟩ := e; obtain rfl := (nI_eq h_i h_i').mp q0; obtain rfl := (nI_eq h_n h_n').mp q1; exact q)
set_option maxRecDepth 100000 in
set_option maxHeartbeats 4000000 in
theorem ok_S_checkIndex (Z : Zt) (d : Nat) : okE Z (d + 2) i_S_checkIndex e_S_checkIndex := mk_S_checkIndex fun i n M h1 h2 hp => by
  refine Gm_run (C := [(i_P_checkIndex, e_P_checkIndex)]) (S := []) [some (.int (nI i)), some (.int (nI n))] 100 k_S_checkIndex (okE_cons (ok_P_checkIndex Z d) okE_nil) (ex_n rfl) ?_
  simp (disch := first | trivial | assumption | omega) only [run, go, jmp, seek, inS, e0, e1, e2, e3, e4, e5, tsw, e7, e8, e9, e10, e11, e12, splitA, rcv, clook, lget, lset, lset2, lkill, Option.toList, List.nil_append, List.cons_append, wsum, List.map_cons, List.map_nil, List.sum_cons, List.sum_nil, Value.category, Nat.reduceAdd, List.getD_cons_zero, List.getD_cons_succ, ↓reduceIte, if_true, if_false, Bool.false_eq_true, Nat.reduceLeDiff, Nat.reduceEqDiff, true_or, or_true, true_and, and_true, and_self, or_self, not_true, not_false_iff, mR_stI, mN_stI, isO_stI, isA_stI, mI_stI, mR_mW, mN_mW, isO_mW, isA_mW, mI_mW, mW_mW, stI_mW, nI_addL, nI_mulL, nI_subL, nI_ltL, nI_leL, nI_Llt, nI_Lle, nI_eqL, nI_Leq, nI_add, pk_mul, nI_ltI, nI_leI, nI_eq, vpi, nI_clamp, nI_toN, p_S_checkIndex, i_P_checkIndex, pc_P_checkIndex]
  exact ⟨rfl, rfl⟩
def chF (s i : Nat) : Int32 := (bytL.getD (s - 2) []).getD i 0
theorem chF_c : ∀ s, s < 6 → ∀ i, i < 4 → (∃ j : Nat, j < 128 ∧ chF s i = nI j) ∧ ((chF s i &&& 255).toUInt32 % 65536).toInt32 = chF s i := by
  intro s hs i hi
  have h1 : s = 0 ∨ s = 1 ∨ s = 2 ∨ s = 3 ∨ s = 4 ∨ s = 5 := by omega
  have h2 : i = 0 ∨ i = 1 ∨ i = 2 ∨ i = 3 := by omega
  refine ⟨⟨(chF s i).toNatClampNeg, ?_⟩, ?_⟩ <;> rcases h1 with h | h | h | h | h | h <;> subst h <;> rcases h2 with h | h | h | h <;> subst h <;> decide
def e_S1_charAt : Ent := (fun av M => ∃ (v : Nat) (i : Nat), av = [.ref v, .int (nI i)] ∧ i < 2 ^ 31 ∧ ((6 ≤ v ∧ v < 10) ∧ i < slen (v - 4)), fun av M r_ M_ => ∀ (v : Nat) (i : Nat), i < 2 ^ 31 → av = [.ref v, .int (nI i)] → r_ = (some (.int (chF (v - 4) i))) ∧ M_ = (M))
theorem pc_S1_charAt {v : Nat} {i : Nat} {M : Mem} {K : Option Value → Mem → Prop} (hp : (6 ≤ v ∧ v < 10) ∧ i < slen (v - 4)) (h_i : i < 2 ^ 31) : pcall e_S1_charAt [.ref v, .int (nI i)] M K = K (some (.int (chF (v - 4) i))) (M) := propext ⟨fun h => h.2 _ _ (fun v' i' h_i' e => by simp only [List.cons.injEq, Value.ref.injEq, Value.int.injEq, Value.long.injEq, and_true] at e; obtain ⟨q0, q1⟩ := e; obtain rfl := q0; obtain rfl := (nI_eq h_i h_i').mp q1; exact ⟨rfl, rfl⟩), fun h => ⟨⟨v, i, rfl, h_i, hp⟩, fun r_ M_ q => by obtain ⟨rfl, rfl⟩ := q _ _ h_i rfl; exact h⟩⟩
theorem mk_S1_charAt {Z : Zt} {d : Nat} (h : ∀ (v : Nat) (i : Nat) (M : Mem), i < 2 ^ 31 → ((6 ≤ v ∧ v < 10) ∧ i < slen (v - 4)) → Gm Z d s_S1_charAt [.ref v, .int (nI i)] M (ex (some (.int (chF (v - 4) i))) (M))) : okE Z d i_S1_charAt e_S1_charAt := by
  rintro av M ⟨v, i, rfl, h_i, hp⟩
  exact Gm.cons (h v i M h_i hp) (fun r_ M_ q v' i' h_i' e => by simp only [List.cons.injEq, Value.ref.injEq, Value.int.injEq, Value.long.injEq, and_true] at e; obtain ⟨q0, q1⟩ := e; obtain rfl := q0; obtain rfl := (nI_eq h_i h_i').mp q1; exact q)
set_option maxRecDepth 100000 in
set_option maxHeartbeats 4000000 in
theorem ok_S1_charAt (Z : Zt) (d : Nat) : okE Z (d + 3) i_S1_charAt e_S1_charAt := mk_S1_charAt fun v i M h1 hp => by
  obtain ⟨hv, hi⟩ := hp
  have h4 := slen_4 (s := v - 4) (by omega)
  have q1 : lenL.getD (v - 6) 0 = slen (v - 4) := by unfold slen; rw [show v - 4 - 2 = v - 6 by omega]
  have q2 : (bytL.getD (v - 6) []).getD i 0 = chF (v - 4) i := by unfold chF; rw [show v - 4 - 2 = v - 6 by omega]
  have hc := chF_c (v - 4) (by omega) i (by omega)
  refine Gm_run (C := [(i_S_checkIndex, e_S_checkIndex)]) (S := []) [some (.ref v), some (.int (nI i))] 100 k_S1_charAt (okE_cons (ok_S_checkIndex Z d) okE_nil) (ex_n rfl) ?_
  simp (disch := first | trivial | assumption | omega) only [run, go, jmp, seek, inS, e0, e1, e2, e3, e4, e5, tsw, e7, e8, e9, e10, e11, e12, splitA, rcv, clook, lget, lset, lset2, lkill, Option.toList, List.nil_append, List.cons_append, wsum, List.map_cons, List.map_nil, List.sum_cons, List.sum_nil, Value.category, Nat.reduceAdd, List.getD_cons_zero, List.getD_cons_succ, ↓reduceIte, if_true, if_false, Bool.false_eq_true, Nat.reduceLeDiff, Nat.reduceEqDiff, true_or, or_true, true_and, and_true, and_self, or_self, not_true, not_false_iff, mR_stI, mN_stI, isO_stI, isA_stI, mI_stI, mR_mW, mN_mW, isO_mW, isA_mW, mI_mW, mW_mW, stI_mW, nI_addL, nI_mulL, nI_subL, nI_ltL, nI_leL, nI_Llt, nI_Lle, nI_eqL, nI_Leq, nI_add, pk_mul, nI_ltI, nI_leI, nI_eq, vpi, nI_clamp, nI_toN, p_S1_charAt, i_S_checkIndex, pc_S_checkIndex, hv, q1, q2, hc.2]
  exact ⟨hc.1, rfl, rfl⟩
def e_S_charAt : Ent := (fun av M => ∃ (s : Nat) (i : Nat), av = [.ref s, .int (nI i)] ∧ i < 2 ^ 31 ∧ ((2 ≤ s ∧ s < 6) ∧ i < slen s), fun av M r_ M_ => ∀ (s : Nat) (i : Nat), i < 2 ^ 31 → av = [.ref s, .int (nI i)] → r_ = (some (.int (chF s i))) ∧ M_ = (M))
theorem pc_S_charAt {s : Nat} {i : Nat} {M : Mem} {K : Option Value → Mem → Prop} (hp : (2 ≤ s ∧ s < 6) ∧ i < slen s) (h_i : i < 2 ^ 31) : pcall e_S_charAt [.ref s, .int (nI i)] M K = K (some (.int (chF s i))) (M) := propext ⟨fun h => h.2 _ _ (fun s' i' h_i' e => by simp only [List.cons.injEq, Value.ref.injEq, Value.int.injEq, Value.long.injEq, and_true] at e; obtain ⟨q0, q1⟩ := e; obtain rfl := q0; obtain rfl := (nI_eq h_i h_i').mp q1; exact ⟨rfl, rfl⟩), fun h => ⟨⟨s, i, rfl, h_i, hp⟩, fun r_ M_ q => by obtain ⟨rfl, rfl⟩ := q _ _ h_i rfl; exact h⟩⟩
theorem mk_S_charAt {Z : Zt} {d : Nat} (h : ∀ (s : Nat) (i : Nat) (M : Mem), i < 2 ^ 31 → ((2 ≤ s ∧ s < 6) ∧ i < slen s) → Gm Z d s_S_charAt [.ref s, .int (nI i)] M (ex (some (.int (chF s i))) (M))) : okE Z d i_S_charAt e_S_charAt := by
  rintro av M ⟨s, i, rfl, h_i, hp⟩
  exact Gm.cons (h s i M h_i hp) (fun r_ M_ q s' i' h_i' e => by simp only [List.cons.injEq, Value.ref.injEq, Value.int.injEq, Value.long.injEq, and_true] at e; obtain ⟨q0, q1⟩ := e; obtain rfl := q0; obtain rfl := (nI_eq h_i h_i').mp q1; exact q)
set_option maxRecDepth 100000 in
set_option maxHeartbeats 4000000 in
theorem ok_S_charAt (Z : Zt) (d : Nat) : okE Z (d + 4) i_S_charAt e_S_charAt := mk_S_charAt fun s i M h1 hp => by
  obtain ⟨hv, hi⟩ := hp
  have h4 := slen_4 hv
  have hc := chF_c s (by omega) i (by omega)
  have hp : (6 ≤ s + 4 ∧ s + 4 < 10) ∧ i < slen (s + 4 - 4) := ⟨by omega, hi⟩
  refine Gm_run (C := [(i_S_isLatin1, e_S_isLatin1), (i_S1_charAt, e_S1_charAt)]) (S := []) [some (.ref s), some (.int (nI i))] 100 k_S_charAt (okE_cons (ok_S_isLatin1 Z (d + 2)) (okE_cons (ok_S1_charAt Z d) okE_nil)) (ex_n rfl) ?_
  simp (disch := first | trivial | assumption | omega) only [run, go, jmp, seek, inS, e0, e1, e2, e3, e4, e5, tsw, e7, e8, e9, e10, e11, e12, splitA, rcv, clook, lget, lset, lset2, lkill, Option.toList, List.nil_append, List.cons_append, wsum, List.map_cons, List.map_nil, List.sum_cons, List.sum_nil, Value.category, Nat.reduceAdd, List.getD_cons_zero, List.getD_cons_succ, ↓reduceIte, if_true, if_false, Bool.false_eq_true, Nat.reduceLeDiff, Nat.reduceEqDiff, true_or, or_true, true_and, and_true, and_self, or_self, not_true, not_false_iff, mR_stI, mN_stI, isO_stI, isA_stI, mI_stI, mR_mW, mN_mW, isO_mW, isA_mW, mI_mW, mW_mW, stI_mW, nI_addL, nI_mulL, nI_subL, nI_ltL, nI_leL, nI_Llt, nI_Lle, nI_eqL, nI_Leq, nI_add, pk_mul, nI_ltI, nI_leI, nI_eq, vpi, nI_clamp, nI_toN, p_S_charAt, i_S_isLatin1, i_S1_charAt, pc_S_isLatin1 hv, pc_S1_charAt hp, hv, Nat.add_sub_cancel]
  exact ⟨hc.1, rfl, rfl⟩
/-! ===== the text of the bank ===== -/
def tl (f : Nat → Nat → Int32) : Nat := (f 17 2).toNatClampNeg
def TxD (f : Nat → Nat → Int32) : Prop := f 17 2 = nI (tl f) ∧ tl f ≤ 60
def e_V_nameOf : Ent := (fun av M => ∃ (r : Nat), av = [.int (nI r)] ∧ r < 2 ^ 31 ∧ (True), fun av M r_ M_ => ∀ (r : Nat), r < 2 ^ 31 → av = [.int (nI r)] → r_ = (some (.ref (if r < 3 then r + 2 else 5))) ∧ M_ = (M))
theorem pc_V_nameOf {r : Nat} {M : Mem} {K : Option Value → Mem → Prop} (hp : True) (h_r : r < 2 ^ 31) : pcall e_V_nameOf [.int (nI r)] M K = K (some (.ref (if r < 3 then r + 2 else 5))) (M) := propext ⟨fun h => h.2 _ _ (fun r' h_r' e => by simp only [List.cons.injEq, Value.ref.injEq, Value.int.injEq, Value.long.injEq, and_true] at e; have q0 := e; obtain rfl := (nI_eq h_r h_r').mp q0; exact ⟨rfl, rfl⟩), fun h => ⟨⟨r, rfl, h_r, hp⟩, fun r_ M_ q => by obtain ⟨rfl, rfl⟩ := q _ h_r rfl; exact h⟩⟩
theorem mk_V_nameOf {Z : Zt} {d : Nat} (h : ∀ (r : Nat) (M : Mem), r < 2 ^ 31 → (True) → Gm Z d s_V_nameOf [.int (nI r)] M (ex (some (.ref (if r < 3 then r + 2 else 5))) (M))) : okE Z d i_V_nameOf e_V_nameOf := by
  rintro av M ⟨r, rfl, h_r, hp⟩
  exact Gm.cons (h r M h_r hp) (fun r_ M_ q r' h_r' e => by simp only [List.cons.injEq, Value.ref.injEq, Value.int.injEq, Value.long.injEq, and_true] at e; have q0 := e; obtain rfl := (nI_eq h_r h_r').mp q0; exact q)
set_option maxRecDepth 100000 in
set_option maxHeartbeats 4000000 in
theorem ok_V_nameOf (Z : Zt) (d : Nat) : okE Z (d + 1) i_V_nameOf e_V_nameOf := mk_V_nameOf fun r M h1 hp => by
  refine Gm_run (C := []) (S := []) [some (.int (nI r))] 100 k_V_nameOf okE_nil (ex_n rfl) ?_
  simp (disch := first | trivial | assumption | omega) only [run, go, jmp, seek, inS, e0, e1, e2, e3, e4, e5, tsw, e7, e8, e9, e10, e11, e12, splitA, rcv, clook, lget, lset, lset2, lkill, Option.toList, List.nil_append, List.cons_append, wsum, List.map_cons, List.map_nil, List.sum_cons, List.sum_nil, Value.category, Nat.reduceAdd, List.getD_cons_zero, List.getD_cons_succ, ↓reduceIte, if_true, if_false, Bool.false_eq_true, Nat.reduceLeDiff, Nat.reduceEqDiff, true_or, or_true, true_and, and_true, and_self, or_self, not_true, not_false_iff, mR_stI, mN_stI, isO_stI, isA_stI, mI_stI, mR_mW, mN_mW, isO_mW, isA_mW, mI_mW, mW_mW, stI_mW, nI_addL, nI_mulL, nI_subL, nI_ltL, nI_leL, nI_Llt, nI_Lle, nI_eqL, nI_Leq, nI_add, pk_mul, nI_ltI, nI_leI, nI_eq, vpi, nI_clamp, nI_toN, p_V_nameOf]
  by_cases h0 : r = 0
  · subst h0
    simp [ex]
  · by_cases h2 : r = 1
    · subst h2
      simp [ex]
    · by_cases h3 : r = 2
      · subst h3
        simp [ex]
      · rw [if_neg h0, if_neg h2, if_neg h3, if_neg (by omega)]
        exact ⟨rfl, rfl⟩
/-- the byte at a place; the class tells NONE behind the end -/
def byF (f : Nat → Nat → Int32) (i : Nat) : Int32 := if i < tl f then f 18 i else -1000003
def e_V_byteAt : Ent := (fun av M => ∃ (o : Nat) (i : Nat), av = [.ref o, .int (nI i)] ∧ i < 2 ^ 31 ∧ (o = 17 ∧ BkS M ∧ TxD (mI M)), fun av M r_ M_ => ∀ (o : Nat) (i : Nat), i < 2 ^ 31 → av = [.ref o, .int (nI i)] → r_ = (some (.int (byF (mI M) i))) ∧ M_ = (M))
theorem pc_V_byteAt {o : Nat} {i : Nat} {M : Mem} {K : Option Value → Mem → Prop} (hp : o = 17 ∧ BkS M ∧ TxD (mI M)) (h_i : i < 2 ^ 31) : pcall e_V_byteAt [.ref o, .int (nI i)] M K = K (some (.int (byF (mI M) i))) (M) := propext ⟨fun h => h.2 _ _ (fun o' i' h_i' e => by simp only [List.cons.injEq, Value.ref.injEq, Value.int.injEq, Value.long.injEq, and_true] at e; obtain ⟨q0, q1⟩ := e; obtain rfl := q0; obtain rfl := (nI_eq h_i h_i').mp q1; exact ⟨rfl, rfl⟩), fun h => ⟨⟨o, i, rfl, h_i, hp⟩, fun r_ M_ q => by obtain ⟨rfl, rfl⟩ := q _ _ h_i rfl; exact h⟩⟩
theorem mk_V_byteAt {Z : Zt} {d : Nat} (h : ∀ (o : Nat) (i : Nat) (M : Mem), i < 2 ^ 31 → (o = 17 ∧ BkS M ∧ TxD (mI M)) → Gm Z d s_V_byteAt [.ref o, .int (nI i)] M (ex (some (.int (byF (mI M) i))) (M))) : okE Z d i_V_byteAt e_V_byteAt := by
  rintro av M ⟨o, i, rfl, h_i, hp⟩
  exact Gm.cons (h o i M h_i hp) (fun r_ M_ q o' i' h_i' e => by simp only [List.cons.injEq, Value.ref.injEq, Value.int.injEq, Value.long.injEq, and_true] at e; obtain ⟨q0, q1⟩ := e; obtain rfl := q0; obtain rfl := (nI_eq h_i h_i').mp q1; exact q)
set_option maxRecDepth 100000 in
set_option maxHeartbeats 4000000 in
theorem ok_V_byteAt (Z : Zt) (d : Nat) : okE Z (d + 1) i_V_byteAt e_V_byteAt := mk_V_byteAt fun o i M h1 hp => by
  obtain ⟨rfl, hB, hT⟩ := hp
  have hl := hT.2
  refine Gm_run (C := []) (S := []) [some (.ref 17), some (.int (nI i))] 100 k_V_byteAt okE_nil (ex_n rfl) ?_
  simp (disch := first | trivial | assumption | omega) only [run, go, jmp, seek, inS, e0, e1, e2, e3, e4, e5, tsw, e7, e8, e9, e10, e11, e12, splitA, rcv, clook, lget, lset, lset2, lkill, Option.toList, List.nil_append, List.cons_append, wsum, List.map_cons, List.map_nil, List.sum_cons, List.sum_nil, Value.category, Nat.reduceAdd, List.getD_cons_zero, List.getD_cons_succ, ↓reduceIte, if_true, if_false, Bool.false_eq_true, Nat.reduceLeDiff, Nat.reduceEqDiff, true_or, or_true, true_and, and_true, and_self, or_self, not_true, not_false_iff, mR_stI, mN_stI, isO_stI, isA_stI, mI_stI, mR_mW, mN_mW, isO_mW, isA_mW, mI_mW, mW_mW, stI_mW, nI_addL, nI_mulL, nI_subL, nI_ltL, nI_leL, nI_Llt, nI_Lle, nI_eqL, nI_Leq, nI_add, pk_mul, nI_ltI, nI_leI, nI_eq, vpi, nI_clamp, nI_toN, p_V_byteAt, bk_oV hB, bk_v0 hB, hT.1]
  by_cases h : i < tl (mI M)
  · have hA : isA M 18 (nI i) = True := bk_A hB (n := 60) rfl (by omega) (by omega) (by omega)
    simp only [hA, true_and]
    rw [if_neg (by omega), if_neg (by omega), if_neg (by omega)]
    exact ⟨by rw [byF, if_pos h], rfl⟩
  · rw [if_neg (by omega), if_pos (by omega)]
    exact ⟨by rw [byF, if_neg h], rfl⟩
def dgF (f : Nat → Nat → Int32) (i : Nat) : Prop := 48 ≤ byF f i ∧ byF f i ≤ 57
def e_V_isDigit : Ent := (fun av M => ∃ (o : Nat) (i : Nat), av = [.ref o, .int (nI i)] ∧ i < 2 ^ 31 ∧ (o = 17 ∧ BkS M ∧ TxD (mI M)), fun av M r_ M_ => ∀ (o : Nat) (i : Nat), i < 2 ^ 31 → av = [.ref o, .int (nI i)] → r_ = (some (.int (bv (dgF (mI M) i)))) ∧ M_ = (M))
theorem pc_V_isDigit {o : Nat} {i : Nat} {M : Mem} {K : Option Value → Mem → Prop} (hp : o = 17 ∧ BkS M ∧ TxD (mI M)) (h_i : i < 2 ^ 31) : pcall e_V_isDigit [.ref o, .int (nI i)] M K = K (some (.int (bv (dgF (mI M) i)))) (M) := propext ⟨fun h => h.2 _ _ (fun o' i' h_i' e => by simp only [List.cons.injEq, Value.ref.injEq, Value.int.injEq, Value.long.injEq, and_true] at e; obtain ⟨q0, q1⟩ := e; obtain rfl := q0; obtain rfl := (nI_eq h_i h_i').mp q1; exact ⟨rfl, rfl⟩), fun h => ⟨⟨o, i, rfl, h_i, hp⟩, fun r_ M_ q => by obtain ⟨rfl, rfl⟩ := q _ _ h_i rfl; exact h⟩⟩
theorem mk_V_isDigit {Z : Zt} {d : Nat} (h : ∀ (o : Nat) (i : Nat) (M : Mem), i < 2 ^ 31 → (o = 17 ∧ BkS M ∧ TxD (mI M)) → Gm Z d s_V_isDigit [.ref o, .int (nI i)] M (ex (some (.int (bv (dgF (mI M) i)))) (M))) : okE Z d i_V_isDigit e_V_isDigit := by
  rintro av M ⟨o, i, rfl, h_i, hp⟩
  exact Gm.cons (h o i M h_i hp) (fun r_ M_ q o' i' h_i' e => by simp only [List.cons.injEq, Value.ref.injEq, Value.int.injEq, Value.long.injEq, and_true] at e; obtain ⟨q0, q1⟩ := e; obtain rfl := q0; obtain rfl := (nI_eq h_i h_i').mp q1; exact q)
set_option maxRecDepth 100000 in
set_option maxHeartbeats 4000000 in
theorem ok_V_isDigit (Z : Zt) (d : Nat) : okE Z (d + 2) i_V_isDigit e_V_isDigit := mk_V_isDigit fun o i M h1 hp => by
  obtain ⟨rfl, hB, hT⟩ := hp
  refine Gm_run (C := [(i_V_byteAt, e_V_byteAt), (i_B_within, e_B_within)]) (S := []) [some (.ref 17), some (.int (nI i))] 100 k_V_isDigit (okE_cons (ok_V_byteAt Z d) (okE_cons (ok_B_within Z d) okE_nil)) (ex_n rfl) ?_
  simp (disch := first | trivial | assumption | omega) only [run, go, jmp, seek, inS, e0, e1, e2, e3, e4, e5, tsw, e7, e8, e9, e10, e11, e12, splitA, rcv, clook, lget, lset, lset2, lkill, Option.toList, List.nil_append, List.cons_append, wsum, List.map_cons, List.map_nil, List.sum_cons, List.sum_nil, Value.category, Nat.reduceAdd, List.getD_cons_zero, List.getD_cons_succ, ↓reduceIte, if_true, if_false, Bool.false_eq_true, Nat.reduceLeDiff, Nat.reduceEqDiff, true_or, or_true, true_and, and_true, and_self, or_self, not_true, not_false_iff, mR_stI, mN_stI, isO_stI, isA_stI, mI_stI, mR_mW, mN_mW, isO_mW, isA_mW, mI_mW, mW_mW, stI_mW, nI_addL, nI_mulL, nI_subL, nI_ltL, nI_leL, nI_Llt, nI_Lle, nI_eqL, nI_Leq, nI_add, pk_mul, nI_ltI, nI_leI, nI_eq, vpi, nI_clamp, nI_toN, p_V_isDigit, bk_oV hB, i_V_byteAt, i_B_within, pc_V_byteAt (o := 17) (i := i) (M := M) ⟨rfl, hB, hT⟩, pc_B_within, bv_01]
  exact ⟨rfl, rfl⟩
/-- the first place from i on whose byte is not such a one -/
def skN (P : Int32 → Bool) (t : Nat → Int32) (n : Nat) : Nat → Nat → Nat
  | 0, i => i
  | k + 1, i => if i < n ∧ P (t i) = true then skN P t n k (i + 1) else i
def skF (P : Int32 → Bool) (t : Nat → Int32) (n i : Nat) : Nat := skN P t n (n - i) i
theorem skF_s {P : Int32 → Bool} {t : Nat → Int32} {n i : Nat} (h : i < n) (h2 : P (t i) = true) : skF P t n i = skF P t n (i + 1) := by
  unfold skF
  rw [show n - i = (n - (i + 1)) + 1 by omega, skN, if_pos ⟨h, h2⟩]
theorem skF_e {P : Int32 → Bool} {t : Nat → Int32} {n i : Nat} (h : ¬ (i < n ∧ P (t i) = true)) : skF P t n i = i := by
  unfold skF
  cases hk : n - i with
  | zero => rfl
  | succ k => rw [skN, if_neg h]
theorem skF_le {P : Int32 → Bool} {t : Nat → Int32} {n : Nat} : ∀ k i, n - i = k → i ≤ skF P t n i ∧ (i ≤ n → skF P t n i ≤ n) := by
  intro k
  induction k with
  | zero => intro i h; rw [skF_e (by omega)]; exact ⟨Nat.le_refl _, id⟩
  | succ k ih =>
    intro i h
    by_cases q : i < n ∧ P (t i) = true
    · rw [skF_s q.1 q.2]
      have := ih (i + 1) (by omega)
      exact ⟨by omega, fun z => this.2 (by omega)⟩
    · rw [skF_e q]
      exact ⟨Nat.le_refl _, id⟩
theorem skF_a {P : Int32 → Bool} {t : Nat → Int32} {n i : Nat} : i ≤ skF P t n i := (skF_le _ i rfl).1
theorem skF_b {P : Int32 → Bool} {t : Nat → Int32} {n i : Nat} (h : i ≤ n) : skF P t n i ≤ n := (skF_le _ i rfl).2 h
def isB_ : Int32 → Bool := fun x => decide (x = 32)
def isL_ : Int32 → Bool := fun x => decide (97 ≤ x ∧ x ≤ 122)
def abF (f : Nat → Nat → Int32) (i : Nat) : Nat := skF isB_ (f 18) (tl f) i
def alF (f : Nat → Nat → Int32) (i : Nat) : Nat := skF isL_ (f 18) (tl f) i
def e_V_afterBlanks : Ent := (fun av M => ∃ (o : Nat) (i : Nat), av = [.ref o, .int (nI i)] ∧ i < 2 ^ 31 ∧ (o = 17 ∧ BkS M ∧ TxD (mI M) ∧ i < 1000), fun av M r_ M_ => ∀ (o : Nat) (i : Nat), i < 2 ^ 31 → av = [.ref o, .int (nI i)] → r_ = (some (.int (nI (abF (mI M) i)))) ∧ M_ = (M))
theorem pc_V_afterBlanks {o : Nat} {i : Nat} {M : Mem} {K : Option Value → Mem → Prop} (hp : o = 17 ∧ BkS M ∧ TxD (mI M) ∧ i < 1000) (h_i : i < 2 ^ 31) : pcall e_V_afterBlanks [.ref o, .int (nI i)] M K = K (some (.int (nI (abF (mI M) i)))) (M) := propext ⟨fun h => h.2 _ _ (fun o' i' h_i' e => by simp only [List.cons.injEq, Value.ref.injEq, Value.int.injEq, Value.long.injEq, and_true] at e; obtain ⟨q0, q1⟩ := e; obtain rfl := q0; obtain rfl := (nI_eq h_i h_i').mp q1; exact ⟨rfl, rfl⟩), fun h => ⟨⟨o, i, rfl, h_i, hp⟩, fun r_ M_ q => by obtain ⟨rfl, rfl⟩ := q _ _ h_i rfl; exact h⟩⟩
theorem mk_V_afterBlanks {Z : Zt} {d : Nat} (h : ∀ (o : Nat) (i : Nat) (M : Mem), i < 2 ^ 31 → (o = 17 ∧ BkS M ∧ TxD (mI M) ∧ i < 1000) → Gm Z d s_V_afterBlanks [.ref o, .int (nI i)] M (ex (some (.int (nI (abF (mI M) i)))) (M))) : okE Z d i_V_afterBlanks e_V_afterBlanks := by
  rintro av M ⟨o, i, rfl, h_i, hp⟩
  exact Gm.cons (h o i M h_i hp) (fun r_ M_ q o' i' h_i' e => by simp only [List.cons.injEq, Value.ref.injEq, Value.int.injEq, Value.long.injEq, and_true] at e; obtain ⟨q0, q1⟩ := e; obtain rfl := q0; obtain rfl := (nI_eq h_i h_i').mp q1; exact q)
set_option maxRecDepth 100000 in
set_option maxHeartbeats 4000000 in
theorem lp_V_afterBlanks (Z : Zt) (d : Nat) {M : Mem} {w : Int32} (hB : BkS M) (hT : TxD (mI M)) : ∀ n i, tl (mI M) - i = n → i < 2000 → X Z (d + 2) s_V_afterBlanks (mN M) (mN M) (ex (some (.int (nI (abF (mI M) i)))) M) 2 [some (.ref 17), some (.int w), some (.int (nI i))] [] M := by
  have hl := hT.2
  intro n
  induction n with
  | zero =>
    intro i hi h2
    refine X_run (C := []) (S := [2]) 100 k_V_afterBlanks okE_nil ?_
    simp (disch := first | trivial | assumption | omega) only [run, go, jmp, seek, inS, e0, e1, e2, e3, e4, e5, tsw, e7, e8, e9, e10, e11, e12, splitA, rcv, clook, lget, lset, lset2, lkill, Option.toList, List.nil_append, List.cons_append, wsum, List.map_cons, List.map_nil, List.sum_cons, List.sum_nil, Value.category, Nat.reduceAdd, List.getD_cons_zero, List.getD_cons_succ, ↓reduceIte, if_true, if_false, Bool.false_eq_true, Nat.reduceLeDiff, Nat.reduceEqDiff, true_or, or_true, true_and, and_true, and_self, or_self, not_true, not_false_iff, mR_stI, mN_stI, isO_stI, isA_stI, mI_stI, mR_mW, mN_mW, isO_mW, isA_mW, mI_mW, mW_mW, stI_mW, nI_addL, nI_mulL, nI_subL, nI_ltL, nI_leL, nI_Llt, nI_Lle, nI_eqL, nI_Leq, nI_add, pk_mul, nI_ltI, nI_leI, nI_eq, vpi, nI_clamp, nI_toN, p_V_afterBlanks, bk_oV hB, hT.1]
    rw [if_pos (by omega), abF, skF_e (by omega)]
    exact ⟨rfl, rfl⟩
  | succ n ih =>
    intro i hi h2
    refine X_run (C := [(i_V_byteAt, e_V_byteAt)]) (S := [2]) 100 k_V_afterBlanks (okE_cons (ok_V_byteAt Z d) okE_nil) ?_
    simp (disch := first | trivial | assumption | omega) only [run, go, jmp, seek, inS, e0, e1, e2, e3, e4, e5, tsw, e7, e8, e9, e10, e11, e12, splitA, rcv, clook, lget, lset, lset2, lkill, Option.toList, List.nil_append, List.cons_append, wsum, List.map_cons, List.map_nil, List.sum_cons, List.sum_nil, Value.category, Nat.reduceAdd, List.getD_cons_zero, List.getD_cons_succ, ↓reduceIte, if_true, if_false, Bool.false_eq_true, Nat.reduceLeDiff, Nat.reduceEqDiff, true_or, or_true, true_and, and_true, and_self, or_self, not_true, not_false_iff, mR_stI, mN_stI, isO_stI, isA_stI, mI_stI, mR_mW, mN_mW, isO_mW, isA_mW, mI_mW, mW_mW, stI_mW, nI_addL, nI_mulL, nI_subL, nI_ltL, nI_leL, nI_Llt, nI_Lle, nI_eqL, nI_Leq, nI_add, pk_mul, nI_ltI, nI_leI, nI_eq, vpi, nI_clamp, nI_toN, p_V_afterBlanks, bk_oV hB, hT.1, i_V_byteAt, pc_V_byteAt (o := 17) (i := i) (M := M) ⟨rfl, hB, hT⟩]
    rw [if_neg (show ¬ tl (mI M) ≤ i by omega), byF, if_pos (show i < tl (mI M) by omega)]
    split
    · next h =>
      have e : abF (mI M) i = abF (mI M) (i + 1) := skF_s (by omega) (decide_eq_true h)
      rw [e]
      exact ih (i + 1) (by omega) (by omega)
    · next h =>
      rw [abF, skF_e (fun q => h (of_decide_eq_true q.2))]
      exact ⟨rfl, rfl⟩
set_option maxRecDepth 100000 in
set_option maxHeartbeats 4000000 in
theorem ok_V_afterBlanks (Z : Zt) (d : Nat) : okE Z (d + 2) i_V_afterBlanks e_V_afterBlanks := mk_V_afterBlanks fun o i M h1 hp => by
  obtain ⟨rfl, hB, hT, hi⟩ := hp
  refine Gm_run (C := []) (S := [2]) [some (.ref 17), some (.int (nI i)), none] 100 k_V_afterBlanks okE_nil (ex_n rfl) ?_
  simp (disch := first | trivial | assumption | omega) only [run, go, jmp, seek, inS, e0, e1, e2, e3, e4, e5, tsw, e7, e8, e9, e10, e11, e12, splitA, rcv, clook, lget, lset, lset2, lkill, Option.toList, List.nil_append, List.cons_append, wsum, List.map_cons, List.map_nil, List.sum_cons, List.sum_nil, Value.category, Nat.reduceAdd, List.getD_cons_zero, List.getD_cons_succ, ↓reduceIte, if_true, if_false, Bool.false_eq_true, Nat.reduceLeDiff, Nat.reduceEqDiff, true_or, or_true, true_and, and_true, and_self, or_self, not_true, not_false_iff, mR_stI, mN_stI, isO_stI, isA_stI, mI_stI, mR_mW, mN_mW, isO_mW, isA_mW, mI_mW, mW_mW, stI_mW, nI_addL, nI_mulL, nI_subL, nI_ltL, nI_leL, nI_Llt, nI_Lle, nI_eqL, nI_Leq, nI_add, pk_mul, nI_ltI, nI_leI, nI_eq, vpi, nI_clamp, nI_toN, p_V_afterBlanks]
  exact lp_V_afterBlanks Z d hB hT _ i rfl (by omega)
def e_V_afterLetters : Ent := (fun av M => ∃ (o : Nat) (i : Nat), av = [.ref o, .int (nI i)] ∧ i < 2 ^ 31 ∧ (o = 17 ∧ BkS M ∧ TxD (mI M) ∧ i < 1000), fun av M r_ M_ => ∀ (o : Nat) (i : Nat), i < 2 ^ 31 → av = [.ref o, .int (nI i)] → r_ = (some (.int (nI (alF (mI M) i)))) ∧ M_ = (M))
theorem pc_V_afterLetters {o : Nat} {i : Nat} {M : Mem} {K : Option Value → Mem → Prop} (hp : o = 17 ∧ BkS M ∧ TxD (mI M) ∧ i < 1000) (h_i : i < 2 ^ 31) : pcall e_V_afterLetters [.ref o, .int (nI i)] M K = K (some (.int (nI (alF (mI M) i)))) (M) := propext ⟨fun h => h.2 _ _ (fun o' i' h_i' e => by simp only [List.cons.injEq, Value.ref.injEq, Value.int.injEq, Value.long.injEq, and_true] at e; obtain ⟨q0, q1⟩ := e; obtain rfl := q0; obtain rfl := (nI_eq h_i h_i').mp q1; exact ⟨rfl, rfl⟩), fun h => ⟨⟨o, i, rfl, h_i, hp⟩, fun r_ M_ q => by obtain ⟨rfl, rfl⟩ := q _ _ h_i rfl; exact h⟩⟩
theorem mk_V_afterLetters {Z : Zt} {d : Nat} (h : ∀ (o : Nat) (i : Nat) (M : Mem), i < 2 ^ 31 → (o = 17 ∧ BkS M ∧ TxD (mI M) ∧ i < 1000) → Gm Z d s_V_afterLetters [.ref o, .int (nI i)] M (ex (some (.int (nI (alF (mI M) i)))) (M))) : okE Z d i_V_afterLetters e_V_afterLetters := by
  rintro av M ⟨o, i, rfl, h_i, hp⟩
  exact Gm.cons (h o i M h_i hp) (fun r_ M_ q o' i' h_i' e => by simp only [List.cons.injEq, Value.ref.injEq, Value.int.injEq, Value.long.injEq, and_true] at e; obtain ⟨q0, q1⟩ := e; obtain rfl := q0; obtain rfl := (nI_eq h_i h_i').mp q1; exact q)
set_option maxRecDepth 100000 in
set_option maxHeartbeats 4000000 in
theorem lp_V_afterLetters (Z : Zt) (d : Nat) {M : Mem} {w : Int32} (hB : BkS M) (hT : TxD (mI M)) : ∀ n i, tl (mI M) - i = n → i < 2000 → X Z (d + 2) s_V_afterLetters (mN M) (mN M) (ex (some (.int (nI (alF (mI M) i)))) M) 2 [some (.ref 17), some (.int w), some (.int (nI i))] [] M := by
  have hl := hT.2
  intro n
  induction n with
  | zero =>
    intro i hi h2
    refine X_run (C := []) (S := [2]) 100 k_V_afterLetters okE_nil ?_
    simp (disch := first | trivial | assumption | omega) only [run, go, jmp, seek, inS, e0, e1, e2, e3, e4, e5, tsw, e7, e8, e9, e10, e11, e12, splitA, rcv, clook, lget, lset, lset2, lkill, Option.toList, List.nil_append, List.cons_append, wsum, List.map_cons, List.map_nil, List.sum_cons, List.sum_nil, Value.category, Nat.reduceAdd, List.getD_cons_zero, List.getD_cons_succ, ↓reduceIte, if_true, if_false, Bool.false_eq_true, Nat.reduceLeDiff, Nat.reduceEqDiff, true_or, or_true, true_and, and_true, and_self, or_self, not_true, not_false_iff, mR_stI, mN_stI, isO_stI, isA_stI, mI_stI, mR_mW, mN_mW, isO_mW, isA_mW, mI_mW, mW_mW, stI_mW, nI_addL, nI_mulL, nI_subL, nI_ltL, nI_leL, nI_Llt, nI_Lle, nI_eqL, nI_Leq, nI_add, pk_mul, nI_ltI, nI_leI, nI_eq, vpi, nI_clamp, nI_toN, p_V_afterLetters, bk_oV hB, hT.1]
    rw [if_pos (by omega), alF, skF_e (by omega)]
    exact ⟨rfl, rfl⟩
  | succ n ih =>
    intro i hi h2
    refine X_run (C := [(i_V_byteAt, e_V_byteAt), (i_B_within, e_B_within)]) (S := [2]) 100 k_V_afterLetters (okE_cons (ok_V_byteAt Z d) (okE_cons (ok_B_within Z d) okE_nil)) ?_
    simp (disch := first | trivial | assumption | omega) only [run, go, jmp, seek, inS, e0, e1, e2, e3, e4, e5, tsw, e7, e8, e9, e10, e11, e12, splitA, rcv, clook, lget, lset, lset2, lkill, Option.toList, List.nil_append, List.cons_append, wsum, List.map_cons, List.map_nil, List.sum_cons, List.sum_nil, Value.category, Nat.reduceAdd, List.getD_cons_zero, List.getD_cons_succ, ↓reduceIte, if_true, if_false, Bool.false_eq_true, Nat.reduceLeDiff, Nat.reduceEqDiff, true_or, or_true, true_and, and_true, and_self, or_self, not_true, not_false_iff, mR_stI, mN_stI, isO_stI, isA_stI, mI_stI, mR_mW, mN_mW, isO_mW, isA_mW, mI_mW, mW_mW, stI_mW, nI_addL, nI_mulL, nI_subL, nI_ltL, nI_leL, nI_Llt, nI_Lle, nI_eqL, nI_Leq, nI_add, pk_mul, nI_ltI, nI_leI, nI_eq, vpi, nI_clamp, nI_toN, p_V_afterLetters, bk_oV hB, hT.1, i_V_byteAt, pc_V_byteAt (o := 17) (i := i) (M := M) ⟨rfl, hB, hT⟩, i_B_within, pc_B_within, bv_0]
    have hb : byF (mI M) i = mI M 18 i := if_pos (show i < tl (mI M) by omega)
    rw [if_neg (show ¬ tl (mI M) ≤ i by omega), hb]
    by_cases h : 97 ≤ mI M 18 i ∧ mI M 18 i ≤ 122
    · rw [if_neg (fun q => q h)]
      have e : alF (mI M) i = alF (mI M) (i + 1) := skF_s (by omega) (decide_eq_true h)
      rw [e]
      exact ih (i + 1) (by omega) (by omega)
    · rw [if_pos h, alF, skF_e (fun q => h (of_decide_eq_true q.2))]
      exact ⟨rfl, rfl⟩
set_option maxRecDepth 100000 in
set_option maxHeartbeats 4000000 in
theorem ok_V_afterLetters (Z : Zt) (d : Nat) : okE Z (d + 2) i_V_afterLetters e_V_afterLetters := mk_V_afterLetters fun o i M h1 hp => by
  obtain ⟨rfl, hB, hT, hi⟩ := hp
  refine Gm_run (C := []) (S := [2]) [some (.ref 17), some (.int (nI i)), none] 100 k_V_afterLetters okE_nil (ex_n rfl) ?_
  simp (disch := first | trivial | assumption | omega) only [run, go, jmp, seek, inS, e0, e1, e2, e3, e4, e5, tsw, e7, e8, e9, e10, e11, e12, splitA, rcv, clook, lget, lset, lset2, lkill, Option.toList, List.nil_append, List.cons_append, wsum, List.map_cons, List.map_nil, List.sum_cons, List.sum_nil, Value.category, Nat.reduceAdd, List.getD_cons_zero, List.getD_cons_succ, ↓reduceIte, if_true, if_false, Bool.false_eq_true, Nat.reduceLeDiff, Nat.reduceEqDiff, true_or, or_true, true_and, and_true, and_self, or_self, not_true, not_false_iff, mR_stI, mN_stI, isO_stI, isA_stI, mI_stI, mR_mW, mN_mW, isO_mW, isA_mW, mI_mW, mW_mW, stI_mW, nI_addL, nI_mulL, nI_subL, nI_ltL, nI_leL, nI_Llt, nI_Lle, nI_eqL, nI_Leq, nI_add, pk_mul, nI_ltI, nI_leI, nI_eq, vpi, nI_clamp, nI_toN, p_V_afterLetters]
  exact lp_V_afterLetters Z d hB hT _ i rfl (by omega)
/-- the number that the bytes from i on are, k of them -/
def nuF (f : Nat → Nat → Int32) : Nat → Nat → Int32 → Int32
  | 0, _, a => a
  | k + 1, i, a => nuF f k (i + 1) (10 * a + byF f i - 48)
def e_V_numberBetween : Ent := (fun av M => ∃ (o : Nat) (a : Nat) (e : Nat), av = [.ref o, .int (nI a), .int (nI e)] ∧ a < 2 ^ 31 ∧ e < 2 ^ 31 ∧ (o = 17 ∧ BkS M ∧ TxD (mI M) ∧ a ≤ e ∧ e < 1000), fun av M r_ M_ => ∀ (o : Nat) (a : Nat) (e : Nat), a < 2 ^ 31 → e < 2 ^ 31 → av = [.ref o, .int (nI a), .int (nI e)] → r_ = (some (.int (nuF (mI M) (e - a) a 0))) ∧ M_ = (M))
theorem pc_V_numberBetween {o : Nat} {a : Nat} {e : Nat} {M : Mem} {K : Option Value → Mem → Prop} (hp : o = 17 ∧ BkS M ∧ TxD (mI M) ∧ a ≤ e ∧ e < 1000) (h_a : a < 2 ^ 31) (h_e : e < 2 ^ 31) : pcall e_V_numberBetween [.ref o, .int (nI a), .int (nI e)] M K = K (some (.int (nuF (mI M) (e - a) a 0))) (M) := propext ⟨fun h => h.2 _ _ (fun o' a' e' h_a' h_e' e => by simp only [List.cons.injEq, Value.ref.injEq, Value.int.injEq, Value.long.injEq, and_true] at e; obtain ⟨q0, q1, q2⟩ := e; obtain rfl := q0; obtain rfl := (nI_eq h_a h_a').mp q1; obtain rfl := (nI_eq h_e h_e').mp q2; exact ⟨rfl, rfl⟩), fun h => ⟨⟨o, a, e, rfl, h_a, h_e, hp⟩, fun r_ M_ q => by obtain ⟨rfl, rfl⟩ := q _ _ _ h_a h_e rfl; exact h⟩⟩
theorem mk_V_numberBetween {Z : Zt} {d : Nat} (h : ∀ (o : Nat) (a : Nat) (e : Nat) (M : Mem), a < 2 ^ 31 → e < 2 ^ 31 → (o = 17 ∧ BkS M ∧ TxD (mI M) ∧ a ≤ e ∧ e < 1000) → Gm Z d s_V_numberBetween [.ref o, .int (nI a), .int (nI e)] M (ex (some (.int (nuF (mI M) (e - a) a 0))) (M))) : okE Z d i_V_numberBetween e_V_numberBetween := by
  rintro av M ⟨o, a, e, rfl, h_a, h_e, hp⟩
  exact Gm.cons (h o a e M h_a h_e hp) (fun r_ M_ q o' a' e' h_a' h_e' e => by simp only [List.cons.injEq, Value.ref.injEq, Value.int.injEq, Value.long.injEq, and_true] at e; obtain ⟨q0, q1, q2⟩ := e; obtain rfl := q0; obtain rfl := (nI_eq h_a h_a').mp q1; obtain rfl := (nI_eq h_e h_e').mp q2; exact q)
set_option maxRecDepth 100000 in
set_option maxHeartbeats 4000000 in
theorem lp_V_numberBetween (Z : Zt) (d : Nat) {M : Mem} {w : Int32} {e : Nat} (hB : BkS M) (hT : TxD (mI M)) (he : e < 1000) : ∀ n i a, i + n = e → X Z (d + 2) s_V_numberBetween (mN M) (mN M) (ex (some (.int (nuF (mI M) n i a))) M) 5 [some (.ref 17), some (.int w), some (.int (nI e)), some (.int a), some (.int (nI i))] [] M := by
  intro n
  induction n with
  | zero =>
    intro i a hi
    refine X_run (C := []) (S := [5]) 100 k_V_numberBetween okE_nil ?_
    simp (disch := first | trivial | assumption | omega) only [run, go, jmp, seek, inS, e0, e1, e2, e3, e4, e5, tsw, e7, e8, e9, e10, e11, e12, splitA, rcv, clook, lget, lset, lset2, lkill, Option.toList, List.nil_append, List.cons_append, wsum, List.map_cons, List.map_nil, List.sum_cons, List.sum_nil, Value.category, Nat.reduceAdd, List.getD_cons_zero, List.getD_cons_succ, ↓reduceIte, if_true, if_false, Bool.false_eq_true, Nat.reduceLeDiff, Nat.reduceEqDiff, true_or, or_true, true_and, and_true, and_self, or_self, not_true, not_false_iff, mR_stI, mN_stI, isO_stI, isA_stI, mI_stI, mR_mW, mN_mW, isO_mW, isA_mW, mI_mW, mW_mW, stI_mW, nI_addL, nI_mulL, nI_subL, nI_ltL, nI_leL, nI_Llt, nI_Lle, nI_eqL, nI_Leq, nI_add, pk_mul, nI_ltI, nI_leI, nI_eq, vpi, nI_clamp, nI_toN, p_V_numberBetween]
    rw [if_pos (by omega)]
    exact ⟨rfl, rfl⟩
  | succ n ih =>
    intro i a hi
    refine X_run (C := [(i_V_byteAt, e_V_byteAt)]) (S := [5]) 100 k_V_numberBetween (okE_cons (ok_V_byteAt Z d) okE_nil) ?_
    simp (disch := first | trivial | assumption | omega) only [run, go, jmp, seek, inS, e0, e1, e2, e3, e4, e5, tsw, e7, e8, e9, e10, e11, e12, splitA, rcv, clook, lget, lset, lset2, lkill, Option.toList, List.nil_append, List.cons_append, wsum, List.map_cons, List.map_nil, List.sum_cons, List.sum_nil, Value.category, Nat.reduceAdd, List.getD_cons_zero, List.getD_cons_succ, ↓reduceIte, if_true, if_false, Bool.false_eq_true, Nat.reduceLeDiff, Nat.reduceEqDiff, true_or, or_true, true_and, and_true, and_self, or_self, not_true, not_false_iff, mR_stI, mN_stI, isO_stI, isA_stI, mI_stI, mR_mW, mN_mW, isO_mW, isA_mW, mI_mW, mW_mW, stI_mW, nI_addL, nI_mulL, nI_subL, nI_ltL, nI_leL, nI_Llt, nI_Lle, nI_eqL, nI_Leq, nI_add, pk_mul, nI_ltI, nI_leI, nI_eq, vpi, nI_clamp, nI_toN, p_V_numberBetween, bk_oV hB, i_V_byteAt, pc_V_byteAt (o := 17) (i := i) (M := M) ⟨rfl, hB, hT⟩]
    rw [if_neg (by omega)]
    exact ih (i + 1) _ (by omega)
set_option maxRecDepth 100000 in
set_option maxHeartbeats 4000000 in
theorem ok_V_numberBetween (Z : Zt) (d : Nat) : okE Z (d + 2) i_V_numberBetween e_V_numberBetween := mk_V_numberBetween fun o a e M h1 h2 hp => by
  obtain ⟨rfl, hB, hT, ha, he⟩ := hp
  refine Gm_run (C := []) (S := [5]) [some (.ref 17), some (.int (nI a)), some (.int (nI e)), none, none] 100 k_V_numberBetween okE_nil (ex_n rfl) ?_
  simp (disch := first | trivial | assumption | omega) only [run, go, jmp, seek, inS, e0, e1, e2, e3, e4, e5, tsw, e7, e8, e9, e10, e11, e12, splitA, rcv, clook, lget, lset, lset2, lkill, Option.toList, List.nil_append, List.cons_append, wsum, List.map_cons, List.map_nil, List.sum_cons, List.sum_nil, Value.category, Nat.reduceAdd, List.getD_cons_zero, List.getD_cons_succ, ↓reduceIte, if_true, if_false, Bool.false_eq_true, Nat.reduceLeDiff, Nat.reduceEqDiff, true_or, or_true, true_and, and_true, and_self, or_self, not_true, not_false_iff, mR_stI, mN_stI, isO_stI, isA_stI, mI_stI, mR_mW, mN_mW, isO_mW, isA_mW, mI_mW, mW_mW, stI_mW, nI_addL, nI_mulL, nI_subL, nI_ltL, nI_leL, nI_Llt, nI_Lle, nI_eqL, nI_Leq, nI_add, pk_mul, nI_ltI, nI_leI, nI_eq, vpi, nI_clamp, nI_toN, p_V_numberBetween]
  exact lp_V_numberBetween Z d hB hT he _ a 0 (by omega)
