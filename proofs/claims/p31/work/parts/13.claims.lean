/-! ===== claims: rows of six numbers; c its number, c + 1 that of its cells ===== -/
def ccap (c : Nat) : Nat := (kd (c + 1)).2 / 6
def csz (f : Nat → Nat → Int32) (c : Nat) : Nat := (f c 2).toNatClampNeg
def ClOk (M : Mem) (c : Nat) : Prop := isO M c 0 ∧ c + 1 < mN M ∧ (kd (c + 1)).1 = 1 ∧ (kd (c + 1)).2 = ccap c * 6 ∧ ccap c ≤ 40 ∧ mR M c 0 = c + 1 ∧ mR M c 1 = ccap c ∧ mI M c 2 = nI (csz (mI M) c) ∧ csz (mI M) c ≤ ccap c
theorem cl_o {M : Mem} {c : Nat} (h : ClOk M c) : isO M c 0 = True := eq_true h.1
theorem cl_r0 {M : Mem} {c : Nat} (h : ClOk M c) : mR M c 0 = c + 1 := h.2.2.2.2.2.1
theorem cl_r1 {M : Mem} {c : Nat} (h : ClOk M c) : mR M c 1 = ccap c := h.2.2.2.2.2.2.1
theorem cl_s {M : Mem} {c : Nat} (h : ClOk M c) : mI M c 2 = nI (csz (mI M) c) := h.2.2.2.2.2.2.2.1
theorem cl_le {M : Mem} {c : Nat} (h : ClOk M c) : csz (mI M) c ≤ ccap c := h.2.2.2.2.2.2.2.2
theorem cl_40 {M : Mem} {c : Nat} (h : ClOk M c) : ccap c ≤ 40 := h.2.2.2.2.1
theorem cl_a {M : Mem} {c : Nat} (h : ClOk M c) {k : Nat} (hk : k < ccap c * 6) : isA M (c + 1) (nI k) = True := by
  have h40 := cl_40 h
  exact eq_true ⟨h.2.1, h.2.2.1, by rw [h.2.2.2.1]; exact vp_in_nI hk (by omega)⟩
def e_C_isFull : Ent := (fun av M => ∃ (c : Nat), av = [.ref c] ∧ (ClOk M c), fun av M r_ M_ => ∀ (c : Nat), av = [.ref c] → r_ = (some (.int (bv (ccap c ≤ csz (mI M) c)))) ∧ M_ = (M))
theorem pc_C_isFull {c : Nat} {M : Mem} {K : Option Value → Mem → Prop} (hp : ClOk M c) : pcall e_C_isFull [.ref c] M K = K (some (.int (bv (ccap c ≤ csz (mI M) c)))) (M) := propext ⟨fun h => h.2 _ _ (fun c' e => by simp only [List.cons.injEq, Value.ref.injEq, Value.int.injEq, Value.long.injEq, and_true] at e; have q0 := e; obtain rfl := q0; exact ⟨rfl, rfl⟩), fun h => ⟨⟨c, rfl, hp⟩, fun r_ M_ q => by obtain ⟨rfl, rfl⟩ := q _ rfl; exact h⟩⟩
theorem mk_C_isFull {Z : Zt} {d : Nat} (h : ∀ (c : Nat) (M : Mem), (ClOk M c) → Gm Z d s_C_isFull [.ref c] M (ex (some (.int (bv (ccap c ≤ csz (mI M) c)))) (M))) : okE Z d i_C_isFull e_C_isFull := by
  rintro av M ⟨c, rfl, hp⟩
  exact Gm.cons (h c M  hp) (fun r_ M_ q c' e => by simp only [List.cons.injEq, Value.ref.injEq, Value.int.injEq, Value.long.injEq, and_true] at e; have q0 := e; obtain rfl := q0; exact q)
set_option maxRecDepth 100000 in
set_option maxHeartbeats 4000000 in
theorem ok_C_isFull (Z : Zt) (d : Nat) : okE Z (d + 1) i_C_isFull e_C_isFull := mk_C_isFull fun c M hp => by
  have h1 := cl_le hp
  have h2 := cl_40 hp
  refine Gm_run (C := []) (S := []) [some (.ref c)] 100 k_C_isFull okE_nil (ex_n rfl) ?_
  simp (disch := omega) only [run, go, jmp, seek, inS, e0, e1, e2, e3, e4, e5, tsw, e7, e8, e9, e10, e11, e12, splitA, rcv, clook, lget, lset, lset2, lkill, Option.toList, List.nil_append, List.cons_append, wsum, List.map_cons, List.map_nil, List.sum_cons, List.sum_nil, Value.category, Nat.reduceAdd, List.getD_cons_zero, List.getD_cons_succ, ↓reduceIte, if_true, if_false, Bool.false_eq_true, Nat.reduceLeDiff, Nat.reduceEqDiff, true_or, or_true, true_and, and_true, and_self, or_self, not_true, not_false_iff, mR_stI, mN_stI, isO_stI, isA_stI, mI_stI, mR_mW, mN_mW, isO_mW, isA_mW, mI_mW, mW_mW, stI_mW, nI_addL, nI_mulL, nI_subL, nI_ltL, nI_leL, nI_Llt, nI_Lle, nI_eqL, nI_Leq, nI_add, pk_mul, nI_ltI, nI_leI, nI_eq, vpi, nI_clamp, nI_toN, p_C_isFull, cl_o hp, cl_s hp, cl_r1 hp]
  split
  · next h => exact ⟨by rw [bv_F (by omega)], rfl⟩
  · next h => exact ⟨by rw [bv_T (by omega)], rfl⟩
/-- the number at a row and a column; none outside -/
def cellF (f : Nat → Nat → Int32) (c : Nat) (row col : Int32) : Int32 := if (0 ≤ row ∧ row < f c 2) ∧ 0 ≤ col ∧ col ≤ 5 then f (c + 1) (row.toNatClampNeg * 6 + col.toNatClampNeg) else -1000003
theorem le_pred (a : Int32) {s : Nat} (hs : s < 2 ^ 31) : (a ≤ nI s - 1) = (a < nI s) := by
  cases s with
  | zero =>
    have e1 : (nI 0 - 1 : Int32).toInt = -1 := by decide
    have e2 : (nI 0).toInt = 0 := by decide
    rw [fa_le', fa_lt', e1, e2]
    exact propext ⟨fun q => by omega, fun q => by omega⟩
  | succ k =>
    rw [nI_pred, fa_le', fa_lt', nI_toInt (by omega), nI_toInt hs]
    exact propext ⟨fun q => by omega, fun q => by omega⟩
def e_C_cell : Ent := (fun av M => ∃ (c : Nat) (row : Int32) (col : Int32), av = [.ref c, .int row, .int col] ∧ (ClOk M c), fun av M r_ M_ => ∀ (c : Nat) (row : Int32) (col : Int32), av = [.ref c, .int row, .int col] → r_ = (some (.int (cellF (mI M) c row col))) ∧ M_ = (M))
theorem pc_C_cell {c : Nat} {row : Int32} {col : Int32} {M : Mem} {K : Option Value → Mem → Prop} (hp : ClOk M c) : pcall e_C_cell [.ref c, .int row, .int col] M K = K (some (.int (cellF (mI M) c row col))) (M) := propext ⟨fun h => h.2 _ _ (fun c' row' col' e => by simp only [List.cons.injEq, Value.ref.injEq, Value.int.injEq, Value.long.injEq, and_true] at e; obtain ⟨q0, q1, q2⟩ := e; obtain rfl := q0; obtain rfl := q1; obtain rfl := q2; exact ⟨rfl, rfl⟩), fun h => ⟨⟨c, row, col, rfl, hp⟩, fun r_ M_ q => by obtain ⟨rfl, rfl⟩ := q _ _ _ rfl; exact h⟩⟩
theorem mk_C_cell {Z : Zt} {d : Nat} (h : ∀ (c : Nat) (row : Int32) (col : Int32) (M : Mem), (ClOk M c) → Gm Z d s_C_cell [.ref c, .int row, .int col] M (ex (some (.int (cellF (mI M) c row col))) (M))) : okE Z d i_C_cell e_C_cell := by
  rintro av M ⟨c, row, col, rfl, hp⟩
  exact Gm.cons (h c row col M  hp) (fun r_ M_ q c' row' col' e => by simp only [List.cons.injEq, Value.ref.injEq, Value.int.injEq, Value.long.injEq, and_true] at e; obtain ⟨q0, q1, q2⟩ := e; obtain rfl := q0; obtain rfl := q1; obtain rfl := q2; exact q)
set_option maxRecDepth 100000 in
set_option maxHeartbeats 4000000 in
theorem ok_C_cell (Z : Zt) (d : Nat) : okE Z (d + 2) i_C_cell e_C_cell := mk_C_cell fun c row col M hp => by
  have h1 := cl_le hp
  have h2 := cl_40 hp
  refine Gm_run (C := [(i_B_within, e_B_within)]) (S := []) [some (.ref c), some (.int row), some (.int col)] 100 k_C_cell (okE_cons (ok_B_within Z d) okE_nil) (ex_n rfl) ?_
  simp (disch := first | trivial | omega) only [run, go, jmp, seek, inS, e0, e1, e2, e3, e4, e5, tsw, e7, e8, e9, e10, e11, e12, splitA, rcv, clook, lget, lset, lset2, lkill, Option.toList, List.nil_append, List.cons_append, wsum, List.map_cons, List.map_nil, List.sum_cons, List.sum_nil, Value.category, Nat.reduceAdd, List.getD_cons_zero, List.getD_cons_succ, ↓reduceIte, if_true, if_false, Bool.false_eq_true, Nat.reduceLeDiff, Nat.reduceEqDiff, true_or, or_true, true_and, and_true, and_self, or_self, not_true, not_false_iff, mR_stI, mN_stI, isO_stI, isA_stI, mI_stI, mR_mW, mN_mW, isO_mW, isA_mW, mI_mW, mW_mW, stI_mW, p_C_cell, cl_o hp, cl_r0 hp, pc_B_within, i_B_within, bv_0]
  have hs := cl_s hp
  have e1 := le_pred row (s := csz (mI M) c) (by omega)
  rw [← hs] at e1
  simp only [e1]
  split
  · next h => exact ⟨by rw [cellF, if_neg (fun q => h q.1)], rfl⟩
  · next h =>
    split
    · next h2 => exact ⟨by rw [cellF, if_neg (fun q => h2 q.2)], rfl⟩
    · next h2 =>
      have h := Decidable.not_not.mp h
      have h2 := Decidable.not_not.mp h2
      obtain ⟨k, hk, rfl⟩ := nI_of (Int32.not_lt.mpr h.1)
      obtain ⟨j, hj, rfl⟩ := nI_of (Int32.not_lt.mpr h2.1)
      have g1 : k < csz (mI M) c := by
        have := h.2
        rw [hs] at this
        exact (nI_ltI hk (by omega)).mp this
      have g2 : j ≤ 5 := (nI_leI hj (by omega)).mp h2.2
      have e2 : nI k * 6 + nI j = nI (k * 6 + j) := by rw [nI_mulL, nI_add]
      rw [e2]
      refine ⟨of_eq_true (cl_a hp (by omega)), ?_, rfl⟩
      rw [cellF, if_pos ⟨h, h2⟩, nI_clamp (by omega), nI_clamp (by omega), nI_clamp (by omega)]
theorem cellF_at {M : Mem} {c k j : Nat} (hc : ClOk M c) (hk : k < csz (mI M) c) (hj : j < 6) : cellF (mI M) c (nI k) (nI j) = mI M (c + 1) (k * 6 + j) := by
  have h1 := cl_le hc
  have h2 := cl_40 hc
  have hs := cl_s hc
  rw [cellF, if_pos, nI_clamp (by omega), nI_clamp (by omega)]
  rw [hs]
  exact ⟨⟨nI_pos' (by omega), nI_lt hk (by omega)⟩, nI_pos' (by omega), (nI_leI (a := j) (b := 5) (by omega) (by omega)).mpr (by omega)⟩
/-- the first place with a property, from i on; -1 -/
def fwR (p : Nat → Prop) [DecidablePred p] : Nat → Nat → Int32
  | 0, _ => -1
  | n + 1, i => if p i then nI i else fwR p n (i + 1)
def fwF (f : Nat → Nat → Int32) (c : Nat) (col val : Int32) : Int32 := fwR (fun k => cellF f c (nI k) col = val) (csz f c) 0
def e_C_firstWith : Ent := (fun av M => ∃ (c : Nat) (col : Int32) (val : Int32), av = [.ref c, .int col, .int val] ∧ (ClOk M c), fun av M r_ M_ => ∀ (c : Nat) (col : Int32) (val : Int32), av = [.ref c, .int col, .int val] → r_ = (some (.int (fwF (mI M) c col val))) ∧ M_ = (M))
theorem pc_C_firstWith {c : Nat} {col : Int32} {val : Int32} {M : Mem} {K : Option Value → Mem → Prop} (hp : ClOk M c) : pcall e_C_firstWith [.ref c, .int col, .int val] M K = K (some (.int (fwF (mI M) c col val))) (M) := propext ⟨fun h => h.2 _ _ (fun c' col' val' e => by simp only [List.cons.injEq, Value.ref.injEq, Value.int.injEq, Value.long.injEq, and_true] at e; obtain ⟨q0, q1, q2⟩ := e; obtain rfl := q0; obtain rfl := q1; obtain rfl := q2; exact ⟨rfl, rfl⟩), fun h => ⟨⟨c, col, val, rfl, hp⟩, fun r_ M_ q => by obtain ⟨rfl, rfl⟩ := q _ _ _ rfl; exact h⟩⟩
theorem mk_C_firstWith {Z : Zt} {d : Nat} (h : ∀ (c : Nat) (col : Int32) (val : Int32) (M : Mem), (ClOk M c) → Gm Z d s_C_firstWith [.ref c, .int col, .int val] M (ex (some (.int (fwF (mI M) c col val))) (M))) : okE Z d i_C_firstWith e_C_firstWith := by
  rintro av M ⟨c, col, val, rfl, hp⟩
  exact Gm.cons (h c col val M  hp) (fun r_ M_ q c' col' val' e => by simp only [List.cons.injEq, Value.ref.injEq, Value.int.injEq, Value.long.injEq, and_true] at e; obtain ⟨q0, q1, q2⟩ := e; obtain rfl := q0; obtain rfl := q1; obtain rfl := q2; exact q)
set_option maxRecDepth 100000 in
set_option maxHeartbeats 4000000 in
theorem lp_C_firstWith (Z : Zt) (d : Nat) {c : Nat} {col val R0 : Int32} {M : Mem} (hp : ClOk M c) : ∀ n i, i + n = csz (mI M) c → fwR (fun k => cellF (mI M) c (nI k) col = val) n i = R0 → X Z (d + 3) s_C_firstWith (mN M) (mN M) (ex (some (.int R0)) M) 2 [some (.ref c), some (.int col), some (.int val), some (.int (nI i))] [] M := by
  have h1 := cl_le hp
  have h2 := cl_40 hp
  have hs := cl_s hp
  intro n
  induction n with
  | zero =>
    intro i hi hr
    refine X_run (C := [(i_C_cell, e_C_cell)]) (S := [2]) 100 k_C_firstWith (okE_cons (ok_C_cell Z d) okE_nil) ?_
    simp (disch := first | trivial | assumption | omega) only [run, go, jmp, seek, inS, e0, e1, e2, e3, e4, e5, tsw, e7, e8, e9, e10, e11, e12, splitA, rcv, clook, lget, lset, lset2, lkill, Option.toList, List.nil_append, List.cons_append, wsum, List.map_cons, List.map_nil, List.sum_cons, List.sum_nil, Value.category, Nat.reduceAdd, List.getD_cons_zero, List.getD_cons_succ, ↓reduceIte, if_true, if_false, Bool.false_eq_true, Nat.reduceLeDiff, Nat.reduceEqDiff, true_or, or_true, true_and, and_true, and_self, or_self, not_true, not_false_iff, mR_stI, mN_stI, isO_stI, isA_stI, mI_stI, mR_mW, mN_mW, isO_mW, isA_mW, mI_mW, mW_mW, stI_mW, nI_addL, nI_mulL, nI_subL, nI_ltL, nI_leL, nI_Llt, nI_Lle, nI_eqL, nI_Leq, nI_add, pk_mul, nI_ltI, nI_leI, nI_eq, vpi, nI_clamp, nI_toN, p_C_firstWith, cl_o hp, hs, pc_C_cell, i_C_cell]
    rw [if_pos (by omega)]
    exact ⟨by rw [← hr]; rfl, rfl⟩
  | succ n ih =>
    intro i hi hr
    refine X_run (C := [(i_C_cell, e_C_cell)]) (S := [2]) 100 k_C_firstWith (okE_cons (ok_C_cell Z d) okE_nil) ?_
    simp (disch := first | trivial | assumption | omega) only [run, go, jmp, seek, inS, e0, e1, e2, e3, e4, e5, tsw, e7, e8, e9, e10, e11, e12, splitA, rcv, clook, lget, lset, lset2, lkill, Option.toList, List.nil_append, List.cons_append, wsum, List.map_cons, List.map_nil, List.sum_cons, List.sum_nil, Value.category, Nat.reduceAdd, List.getD_cons_zero, List.getD_cons_succ, ↓reduceIte, if_true, if_false, Bool.false_eq_true, Nat.reduceLeDiff, Nat.reduceEqDiff, true_or, or_true, true_and, and_true, and_self, or_self, not_true, not_false_iff, mR_stI, mN_stI, isO_stI, isA_stI, mI_stI, mR_mW, mN_mW, isO_mW, isA_mW, mI_mW, mW_mW, stI_mW, nI_addL, nI_mulL, nI_subL, nI_ltL, nI_leL, nI_Llt, nI_Lle, nI_eqL, nI_Leq, nI_add, pk_mul, nI_ltI, nI_leI, nI_eq, vpi, nI_clamp, nI_toN, p_C_firstWith, cl_o hp, hs, pc_C_cell, i_C_cell]
    rw [if_neg (by omega)]
    rw [fwR] at hr
    split
    · next h =>
      rw [if_pos h] at hr
      exact ⟨by rw [← hr], rfl⟩
    · next h =>
      rw [if_neg h] at hr
      exact ih (i + 1) (by omega) hr
set_option maxRecDepth 100000 in
set_option maxHeartbeats 4000000 in
theorem ok_C_firstWith (Z : Zt) (d : Nat) : okE Z (d + 3) i_C_firstWith e_C_firstWith := mk_C_firstWith fun c col val M hp => by
  refine Gm_run (C := []) (S := [2]) [some (.ref c), some (.int col), some (.int val), none] 100 k_C_firstWith okE_nil (ex_n rfl) ?_
  simp only [run, go, jmp, seek, inS, e0, e1, e2, e3, e4, e5, tsw, e7, e8, e9, e10, e11, e12, splitA, rcv, clook, lget, lset, lset2, lkill, Option.toList, List.nil_append, List.cons_append, wsum, List.map_cons, List.map_nil, List.sum_cons, List.sum_nil, Value.category, Nat.reduceAdd, List.getD_cons_zero, List.getD_cons_succ, ↓reduceIte, if_true, if_false, Bool.false_eq_true, Nat.reduceLeDiff, Nat.reduceEqDiff, true_or, or_true, true_and, and_true, and_self, or_self, not_true, not_false_iff, mR_stI, mN_stI, isO_stI, isA_stI, mI_stI, mR_mW, mN_mW, isO_mW, isA_mW, mI_mW, mW_mW, stI_mW, p_C_firstWith]
  exact lp_C_firstWith Z d hp (csz (mI M) c) 0 (by omega) rfl
