/-! ===== the bank's static methods ===== -/
def e_B_within : Ent := (fun av M => ∃ (a : Int32) (b : Int32) (c : Int32), av = [.int a, .int b, .int c] ∧ (True), fun av M r_ M_ => ∀ (a : Int32) (b : Int32) (c : Int32), av = [.int a, .int b, .int c] → r_ = (some (.int (bv (b ≤ a ∧ a ≤ c)))) ∧ M_ = (M))
theorem pc_B_within {a : Int32} {b : Int32} {c : Int32} {M : Mem} {K : Option Value → Mem → Prop} (hp : True) : pcall e_B_within [.int a, .int b, .int c] M K = K (some (.int (bv (b ≤ a ∧ a ≤ c)))) (M) := propext ⟨fun h => h.2 _ _ (fun a' b' c' e => by simp only [List.cons.injEq, Value.ref.injEq, Value.int.injEq, Value.long.injEq, and_true] at e; obtain ⟨q0, q1, q2⟩ := e; obtain rfl := q0; obtain rfl := q1; obtain rfl := q2; exact ⟨rfl, rfl⟩), fun h => ⟨⟨a, b, c, rfl, hp⟩, fun r_ M_ q => by obtain ⟨rfl, rfl⟩ := q _ _ _ rfl; exact h⟩⟩
theorem mk_B_within {Z : Zt} {d : Nat} (h : ∀ (a : Int32) (b : Int32) (c : Int32) (M : Mem), (True) → Gm Z d s_B_within [.int a, .int b, .int c] M (ex (some (.int (bv (b ≤ a ∧ a ≤ c)))) (M))) : okE Z d i_B_within e_B_within := by
  rintro av M ⟨a, b, c, rfl, hp⟩
  exact Gm.cons (h a b c M  hp) (fun r_ M_ q a' b' c' e => by simp only [List.cons.injEq, Value.ref.injEq, Value.int.injEq, Value.long.injEq, and_true] at e; obtain ⟨q0, q1, q2⟩ := e; obtain rfl := q0; obtain rfl := q1; obtain rfl := q2; exact q)
set_option maxRecDepth 100000 in
set_option maxHeartbeats 4000000 in
theorem ok_B_within (Z : Zt) (d : Nat) : okE Z (d + 1) i_B_within e_B_within := mk_B_within fun a b c M hp => by
  refine Gm_run (C := []) (S := []) [some (.int a), some (.int b), some (.int c)] 100 k_B_within okE_nil (ex_n rfl) ?_
  simp only [run, go, jmp, seek, inS, e0, e1, e2, e3, e4, e5, tsw, e7, e8, e9, e10, e11, e12, splitA, rcv, clook, lget, lset, lset2, lkill, Option.toList, List.nil_append, List.cons_append, wsum, List.map_cons, List.map_nil, List.sum_cons, List.sum_nil, Value.category, Nat.reduceAdd, List.getD_cons_zero, List.getD_cons_succ, ↓reduceIte, if_true, if_false, Bool.false_eq_true, Nat.reduceLeDiff, Nat.reduceEqDiff, true_or, or_true, true_and, and_true, and_self, or_self, not_true, not_false_iff, mR_stI, mN_stI, isO_stI, isA_stI, mI_stI, mR_mW, mN_mW, isO_mW, isA_mW, mI_mW, mW_mW, stI_mW, p_B_within]
  split
  · next h => exact ⟨by rw [bv_F (fun q => absurd q.1 (Int32.not_le.mpr h))], rfl⟩
  · next h =>
    split
    · next h2 => exact ⟨by rw [bv_F (fun q => absurd q.2 (Int32.not_le.mpr h2))], rfl⟩
    · next h2 => exact ⟨by rw [bv_T ⟨Int32.not_lt.mp h, Int32.not_lt.mp h2⟩], rfl⟩
def e_B_isResource : Ent := (fun av M => ∃ (r : Int32), av = [.int r] ∧ (True), fun av M r_ M_ => ∀ (r : Int32), av = [.int r] → r_ = (some (.int (bv (0 ≤ r ∧ r < 4)))) ∧ M_ = (M))
theorem pc_B_isResource {r : Int32} {M : Mem} {K : Option Value → Mem → Prop} (hp : True) : pcall e_B_isResource [.int r] M K = K (some (.int (bv (0 ≤ r ∧ r < 4)))) (M) := propext ⟨fun h => h.2 _ _ (fun r' e => by simp only [List.cons.injEq, Value.ref.injEq, Value.int.injEq, Value.long.injEq, and_true] at e; have q0 := e; obtain rfl := q0; exact ⟨rfl, rfl⟩), fun h => ⟨⟨r, rfl, hp⟩, fun r_ M_ q => by obtain ⟨rfl, rfl⟩ := q _ rfl; exact h⟩⟩
theorem mk_B_isResource {Z : Zt} {d : Nat} (h : ∀ (r : Int32) (M : Mem), (True) → Gm Z d s_B_isResource [.int r] M (ex (some (.int (bv (0 ≤ r ∧ r < 4)))) (M))) : okE Z d i_B_isResource e_B_isResource := by
  rintro av M ⟨r, rfl, hp⟩
  exact Gm.cons (h r M  hp) (fun r_ M_ q r' e => by simp only [List.cons.injEq, Value.ref.injEq, Value.int.injEq, Value.long.injEq, and_true] at e; have q0 := e; obtain rfl := q0; exact q)
set_option maxRecDepth 100000 in
set_option maxHeartbeats 4000000 in
theorem ok_B_isResource (Z : Zt) (d : Nat) : okE Z (d + 1) i_B_isResource e_B_isResource := mk_B_isResource fun r M hp => by
  refine Gm_run (C := []) (S := []) [some (.int r)] 100 k_B_isResource okE_nil (ex_n rfl) ?_
  simp only [run, go, jmp, seek, inS, e0, e1, e2, e3, e4, e5, tsw, e7, e8, e9, e10, e11, e12, splitA, rcv, clook, lget, lset, lset2, lkill, Option.toList, List.nil_append, List.cons_append, wsum, List.map_cons, List.map_nil, List.sum_cons, List.sum_nil, Value.category, Nat.reduceAdd, List.getD_cons_zero, List.getD_cons_succ, ↓reduceIte, if_true, if_false, Bool.false_eq_true, Nat.reduceLeDiff, Nat.reduceEqDiff, true_or, or_true, true_and, and_true, and_self, or_self, not_true, not_false_iff, mR_stI, mN_stI, isO_stI, isA_stI, mI_stI, mR_mW, mN_mW, isO_mW, isA_mW, mI_mW, mW_mW, stI_mW, p_B_isResource]
  split
  · next h => exact ⟨by rw [bv_F (fun q => absurd q.1 (Int32.not_le.mpr h))], rfl⟩
  · next h =>
    split
    · next h2 => exact ⟨by rw [bv_F (fun q => absurd q.2 (Int32.not_lt.mpr h2))], rfl⟩
    · next h2 => exact ⟨by rw [bv_T ⟨Int32.not_lt.mp h, Int32.not_le.mp h2⟩], rfl⟩
def e_B_slot : Ent := (fun av M => ∃ (t : Nat) (r : Nat), av = [.int (nI t), .int (nI r)] ∧ t < 2 ^ 31 ∧ r < 2 ^ 31 ∧ (True), fun av M r_ M_ => ∀ (t : Nat) (r : Nat), t < 2 ^ 31 → r < 2 ^ 31 → av = [.int (nI t), .int (nI r)] → r_ = (some (.int (nI (t * 4 + r)))) ∧ M_ = (M))
theorem pc_B_slot {t : Nat} {r : Nat} {M : Mem} {K : Option Value → Mem → Prop} (hp : True) (h_t : t < 2 ^ 31) (h_r : r < 2 ^ 31) : pcall e_B_slot [.int (nI t), .int (nI r)] M K = K (some (.int (nI (t * 4 + r)))) (M) := propext ⟨fun h => h.2 _ _ (fun t' r' h_t' h_r' e => by simp only [List.cons.injEq, Value.ref.injEq, Value.int.injEq, Value.long.injEq, and_true] at e; obtain ⟨q0, q1⟩ := e; obtain rfl := (nI_eq h_t h_t').mp q0; obtain rfl := (nI_eq h_r h_r').mp q1; exact ⟨rfl, rfl⟩), fun h => ⟨⟨t, r, rfl, h_t, h_r, hp⟩, fun r_ M_ q => by obtain ⟨rfl, rfl⟩ := q _ _ h_t h_r rfl; exact h⟩⟩
theorem mk_B_slot {Z : Zt} {d : Nat} (h : ∀ (t : Nat) (r : Nat) (M : Mem), t < 2 ^ 31 → r < 2 ^ 31 → (True) → Gm Z d s_B_slot [.int (nI t), .int (nI r)] M (ex (some (.int (nI (t * 4 + r)))) (M))) : okE Z d i_B_slot e_B_slot := by
  rintro av M ⟨t, r, rfl, h_t, h_r, hp⟩
  exact Gm.cons (h t r M h_t h_r hp) (fun r_ M_ q t' r' h_t' h_r' e => by simp only [List.cons.injEq, Value.ref.injEq, Value.int.injEq, Value.long.injEq, and_true] at e; obtain ⟨q0, q1⟩ := e; obtain rfl := (nI_eq h_t h_t').mp q0; obtain rfl := (nI_eq h_r h_r').mp q1; exact q)
set_option maxRecDepth 100000 in
set_option maxHeartbeats 4000000 in
theorem ok_B_slot (Z : Zt) (d : Nat) : okE Z (d + 1) i_B_slot e_B_slot := mk_B_slot fun t r M h1 h2 hp => by
  refine Gm_run (C := []) (S := []) [some (.int (nI t)), some (.int (nI r))] 100 k_B_slot okE_nil (ex_n rfl) ?_
  simp (disch := omega) only [run, go, jmp, seek, inS, e0, e1, e2, e3, e4, e5, tsw, e7, e8, e9, e10, e11, e12, splitA, rcv, clook, lget, lset, lset2, lkill, Option.toList, List.nil_append, List.cons_append, wsum, List.map_cons, List.map_nil, List.sum_cons, List.sum_nil, Value.category, Nat.reduceAdd, List.getD_cons_zero, List.getD_cons_succ, ↓reduceIte, if_true, if_false, Bool.false_eq_true, Nat.reduceLeDiff, Nat.reduceEqDiff, true_or, or_true, true_and, and_true, and_self, or_self, not_true, not_false_iff, mR_stI, mN_stI, isO_stI, isA_stI, mI_stI, mR_mW, mN_mW, isO_mW, isA_mW, mI_mW, mW_mW, stI_mW, nI_addL, nI_mulL, nI_subL, nI_ltL, nI_leL, nI_Llt, nI_Lle, nI_eqL, nI_Leq, nI_add, pk_mul, nI_ltI, nI_leI, nI_eq, vpi, nI_clamp, nI_toN, p_B_slot]
  exact ⟨rfl, rfl⟩
def convF (u p q : Int32) : Int32 := if q < 1 then 0 else u * p / q
/-- copying the whole of one array over another of the same length -/
def cpA (f : Nat → Nat → Int32) (a b n : Nat) : Nat → Nat → Int32 := fun x y => if x = b ∧ y < n then f a y else f x y
def e_B_copy : Ent := (fun av M => ∃ (a : Nat) (b : Nat), av = [.ref a, .ref b] ∧ (a < mN M ∧ b < mN M ∧ (kd a).1 = 1 ∧ kd b = kd a ∧ (kd a).2 < 100000), fun av M r_ M_ => ∀ (a : Nat) (b : Nat), av = [.ref a, .ref b] → r_ = (none) ∧ M_ = (mW M (cpA (mI M) a b (kd a).2)))
theorem pc_B_copy {a : Nat} {b : Nat} {M : Mem} {K : Option Value → Mem → Prop} (hp : a < mN M ∧ b < mN M ∧ (kd a).1 = 1 ∧ kd b = kd a ∧ (kd a).2 < 100000) : pcall e_B_copy [.ref a, .ref b] M K = K (none) (mW M (cpA (mI M) a b (kd a).2)) := propext ⟨fun h => h.2 _ _ (fun a' b' e => by simp only [List.cons.injEq, Value.ref.injEq, Value.int.injEq, Value.long.injEq, and_true] at e; obtain ⟨q0, q1⟩ := e; obtain rfl := q0; obtain rfl := q1; exact ⟨rfl, rfl⟩), fun h => ⟨⟨a, b, rfl, hp⟩, fun r_ M_ q => by obtain ⟨rfl, rfl⟩ := q _ _ rfl; exact h⟩⟩
theorem mk_B_copy {Z : Zt} {d : Nat} (h : ∀ (a : Nat) (b : Nat) (M : Mem), (a < mN M ∧ b < mN M ∧ (kd a).1 = 1 ∧ kd b = kd a ∧ (kd a).2 < 100000) → Gm Z d s_B_copy [.ref a, .ref b] M (ex (none) (mW M (cpA (mI M) a b (kd a).2)))) : okE Z d i_B_copy e_B_copy := by
  rintro av M ⟨a, b, rfl, hp⟩
  exact Gm.cons (h a b M  hp) (fun r_ M_ q a' b' e => by simp only [List.cons.injEq, Value.ref.injEq, Value.int.injEq, Value.long.injEq, and_true] at e; obtain ⟨q0, q1⟩ := e; obtain rfl := q0; obtain rfl := q1; exact q)
set_option maxRecDepth 100000 in
set_option maxHeartbeats 4000000 in
theorem ok_B_copy (Z : Zt) (d : Nat) : okE Z (d + 1) i_B_copy e_B_copy := mk_B_copy fun a b M hp => by
  obtain ⟨h1, h2, h3, h4, h5⟩ := hp
  refine Gm_run (C := []) (S := []) [some (.ref a), some (.ref b)] 100 k_B_copy okE_nil (ex_n rfl) ?_
  simp only [run, go, jmp, seek, inS, e0, e1, e2, e3, e4, e5, tsw, e7, e8, e9, e10, e11, e12, splitA, rcv, clook, lget, lset, lset2, lkill, Option.toList, List.nil_append, List.cons_append, wsum, List.map_cons, List.map_nil, List.sum_cons, List.sum_nil, Value.category, Nat.reduceAdd, List.getD_cons_zero, List.getD_cons_succ, ↓reduceIte, if_true, if_false, Bool.false_eq_true, Nat.reduceLeDiff, Nat.reduceEqDiff, true_or, or_true, true_and, and_true, and_self, or_self, not_true, not_false_iff, mR_stI, mN_stI, isO_stI, isA_stI, mI_stI, mR_mW, mN_mW, isO_mW, isA_mW, mI_mW, mW_mW, stI_mW, p_B_copy, h1, h2, h3, h4]
  refine ⟨(kd a).2, 0, 0, ?_, rfl, ?_⟩
  · simp
    exact ⟨rfl, by omega⟩
  · rw [cpI_mW]
    congr 1
    funext x y
    simp [cpA]
