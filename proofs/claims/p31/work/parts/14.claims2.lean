theorem cl_mW {M : Mem} {c s : Nat} {f : Nat → Nat → Int32} (h : ClOk M c) (hf : f c 2 = nI s) (hs : s ≤ ccap c) : ClOk (mW M f) c := by
  have h40 := cl_40 h
  have e : csz f c = s := by unfold csz; rw [hf, nI_clamp (by omega)]
  exact ⟨h.1, h.2.1, h.2.2.1, h.2.2.2.1, h.2.2.2.2.1, h.2.2.2.2.2.1, h.2.2.2.2.2.2.1, by show f c 2 = nI (csz f c); rw [e, hf], by show csz f c ≤ ccap c; rw [e]; exact hs⟩
theorem csz_of {f : Nat → Nat → Int32} {c s : Nat} (hf : f c 2 = nI s) (hs : s < 2 ^ 31) : csz f c = s := by unfold csz; rw [hf, nI_clamp hs]
/-- how many of the first n -/
def fcnt (p : Nat → Prop) [DecidablePred p] : Nat → Nat
  | 0 => 0
  | n + 1 => if p n then fcnt p n + 1 else fcnt p n
theorem fcnt_le (p : Nat → Prop) [DecidablePred p] : ∀ n, fcnt p n ≤ n
  | 0 => Nat.le_refl _
  | n + 1 => by
    have := fcnt_le p n
    unfold fcnt
    split <;> omega
def ctF (f : Nat → Nat → Int32) (c : Nat) (t : Int32) : Nat := fcnt (fun k => cellF f c (nI k) 4 = t) (csz f c)
def e_C_countOf : Ent := (fun av M => ∃ (c : Nat) (t : Int32), av = [.ref c, .int t] ∧ (ClOk M c), fun av M r_ M_ => ∀ (c : Nat) (t : Int32), av = [.ref c, .int t] → r_ = (some (.int (nI (ctF (mI M) c t)))) ∧ M_ = (M))
theorem pc_C_countOf {c : Nat} {t : Int32} {M : Mem} {K : Option Value → Mem → Prop} (hp : ClOk M c) : pcall e_C_countOf [.ref c, .int t] M K = K (some (.int (nI (ctF (mI M) c t)))) (M) := propext ⟨fun h => h.2 _ _ (fun c' t' e => by simp only [List.cons.injEq, Value.ref.injEq, Value.int.injEq, Value.long.injEq, and_true] at e; obtain ⟨q0, q1⟩ := e; obtain rfl := q0; obtain rfl := q1; exact ⟨rfl, rfl⟩), fun h => ⟨⟨c, t, rfl, hp⟩, fun r_ M_ q => by obtain ⟨rfl, rfl⟩ := q _ _ rfl; exact h⟩⟩
theorem mk_C_countOf {Z : Zt} {d : Nat} (h : ∀ (c : Nat) (t : Int32) (M : Mem), (ClOk M c) → Gm Z d s_C_countOf [.ref c, .int t] M (ex (some (.int (nI (ctF (mI M) c t)))) (M))) : okE Z d i_C_countOf e_C_countOf := by
  rintro av M ⟨c, t, rfl, hp⟩
  exact Gm.cons (h c t M  hp) (fun r_ M_ q c' t' e => by simp only [List.cons.injEq, Value.ref.injEq, Value.int.injEq, Value.long.injEq, and_true] at e; obtain ⟨q0, q1⟩ := e; obtain rfl := q0; obtain rfl := q1; exact q)
set_option maxRecDepth 100000 in
set_option maxHeartbeats 4000000 in
theorem lp_C_countOf (Z : Zt) (d : Nat) {c : Nat} {t : Int32} {M : Mem} (hp : ClOk M c) : ∀ n i, i + n = csz (mI M) c → X Z (d + 3) s_C_countOf (mN M) (mN M) (ex (some (.int (nI (ctF (mI M) c t)))) M) 4 [some (.ref c), some (.int t), some (.int (nI (fcnt (fun k => cellF (mI M) c (nI k) 4 = t) i))), some (.int (nI i))] [] M := by
  have h1 := cl_le hp
  have h2 := cl_40 hp
  have hs := cl_s hp
  intro n
  induction n with
  | zero =>
    intro i hi
    refine X_run (C := [(i_C_cell, e_C_cell)]) (S := [4]) 100 k_C_countOf (okE_cons (ok_C_cell Z d) okE_nil) ?_
    simp (disch := first | trivial | assumption | omega) only [run, go, jmp, seek, inS, e0, e1, e2, e3, e4, e5, tsw, e7, e8, e9, e10, e11, e12, splitA, rcv, clook, lget, lset, lset2, lkill, Option.toList, List.nil_append, List.cons_append, wsum, List.map_cons, List.map_nil, List.sum_cons, List.sum_nil, Value.category, Nat.reduceAdd, List.getD_cons_zero, List.getD_cons_succ, ↓reduceIte, if_true, if_false, Bool.false_eq_true, Nat.reduceLeDiff, Nat.reduceEqDiff, true_or, or_true, true_and, and_true, and_self, or_self, not_true, not_false_iff, mR_stI, mN_stI, isO_stI, isA_stI, mI_stI, mR_mW, mN_mW, isO_mW, isA_mW, mI_mW, mW_mW, stI_mW, nI_addL, nI_mulL, nI_subL, nI_ltL, nI_leL, nI_Llt, nI_Lle, nI_eqL, nI_Leq, nI_add, pk_mul, nI_ltI, nI_leI, nI_eq, vpi, nI_clamp, nI_toN, p_C_countOf, cl_o hp, hs, pc_C_cell, i_C_cell]
    rw [if_pos (by omega)]
    have : i = csz (mI M) c := by omega
    subst this
    exact ⟨rfl, rfl⟩
  | succ n ih =>
    intro i hi
    have hc := fcnt_le (fun k => cellF (mI M) c (nI k) 4 = t) i
    have := ih (i + 1) (by omega)
    refine X_run (C := [(i_C_cell, e_C_cell)]) (S := [4]) 100 k_C_countOf (okE_cons (ok_C_cell Z d) okE_nil) ?_
    simp (disch := first | trivial | assumption | omega) only [run, go, jmp, seek, inS, e0, e1, e2, e3, e4, e5, tsw, e7, e8, e9, e10, e11, e12, splitA, rcv, clook, lget, lset, lset2, lkill, Option.toList, List.nil_append, List.cons_append, wsum, List.map_cons, List.map_nil, List.sum_cons, List.sum_nil, Value.category, Nat.reduceAdd, List.getD_cons_zero, List.getD_cons_succ, ↓reduceIte, if_true, if_false, Bool.false_eq_true, Nat.reduceLeDiff, Nat.reduceEqDiff, true_or, or_true, true_and, and_true, and_self, or_self, not_true, not_false_iff, mR_stI, mN_stI, isO_stI, isA_stI, mI_stI, mR_mW, mN_mW, isO_mW, isA_mW, mI_mW, mW_mW, stI_mW, nI_addL, nI_mulL, nI_subL, nI_ltL, nI_leL, nI_Llt, nI_Lle, nI_eqL, nI_Leq, nI_add, pk_mul, nI_ltI, nI_leI, nI_eq, vpi, nI_clamp, nI_toN, p_C_countOf, cl_o hp, hs, pc_C_cell, i_C_cell]
    rw [if_neg (by omega)]
    rw [fcnt] at this
    split
    · next h => rw [if_pos h] at this; exact this
    · next h => rw [if_neg h] at this; exact this
set_option maxRecDepth 100000 in
set_option maxHeartbeats 4000000 in
theorem ok_C_countOf (Z : Zt) (d : Nat) : okE Z (d + 3) i_C_countOf e_C_countOf := mk_C_countOf fun c t M hp => by
  refine Gm_run (C := []) (S := [4]) [some (.ref c), some (.int t), none, none] 100 k_C_countOf okE_nil (ex_n rfl) ?_
  simp (disch := first | trivial | assumption | omega) only [run, go, jmp, seek, inS, e0, e1, e2, e3, e4, e5, tsw, e7, e8, e9, e10, e11, e12, splitA, rcv, clook, lget, lset, lset2, lkill, Option.toList, List.nil_append, List.cons_append, wsum, List.map_cons, List.map_nil, List.sum_cons, List.sum_nil, Value.category, Nat.reduceAdd, List.getD_cons_zero, List.getD_cons_succ, ↓reduceIte, if_true, if_false, Bool.false_eq_true, Nat.reduceLeDiff, Nat.reduceEqDiff, true_or, or_true, true_and, and_true, and_self, or_self, not_true, not_false_iff, mR_stI, mN_stI, isO_stI, isA_stI, mI_stI, mR_mW, mN_mW, isO_mW, isA_mW, mI_mW, mW_mW, stI_mW, nI_addL, nI_mulL, nI_subL, nI_ltL, nI_leL, nI_Llt, nI_Lle, nI_eqL, nI_Leq, nI_add, pk_mul, nI_ltI, nI_leI, nI_eq, vpi, nI_clamp, nI_toN, p_C_countOf]
  exact lp_C_countOf Z d hp (csz (mI M) c) 0 (by omega)
def rowF (f : Nat → Nat → Int32) (c : Nat) (n : Int32) : Int32 := if n < 0 then -1 else fwF f c 5 n
def e_C_rowOf : Ent := (fun av M => ∃ (c : Nat) (n : Int32), av = [.ref c, .int n] ∧ (ClOk M c), fun av M r_ M_ => ∀ (c : Nat) (n : Int32), av = [.ref c, .int n] → r_ = (some (.int (rowF (mI M) c n))) ∧ M_ = (M))
theorem pc_C_rowOf {c : Nat} {n : Int32} {M : Mem} {K : Option Value → Mem → Prop} (hp : ClOk M c) : pcall e_C_rowOf [.ref c, .int n] M K = K (some (.int (rowF (mI M) c n))) (M) := propext ⟨fun h => h.2 _ _ (fun c' n' e => by simp only [List.cons.injEq, Value.ref.injEq, Value.int.injEq, Value.long.injEq, and_true] at e; obtain ⟨q0, q1⟩ := e; obtain rfl := q0; obtain rfl := q1; exact ⟨rfl, rfl⟩), fun h => ⟨⟨c, n, rfl, hp⟩, fun r_ M_ q => by obtain ⟨rfl, rfl⟩ := q _ _ rfl; exact h⟩⟩
theorem mk_C_rowOf {Z : Zt} {d : Nat} (h : ∀ (c : Nat) (n : Int32) (M : Mem), (ClOk M c) → Gm Z d s_C_rowOf [.ref c, .int n] M (ex (some (.int (rowF (mI M) c n))) (M))) : okE Z d i_C_rowOf e_C_rowOf := by
  rintro av M ⟨c, n, rfl, hp⟩
  exact Gm.cons (h c n M  hp) (fun r_ M_ q c' n' e => by simp only [List.cons.injEq, Value.ref.injEq, Value.int.injEq, Value.long.injEq, and_true] at e; obtain ⟨q0, q1⟩ := e; obtain rfl := q0; obtain rfl := q1; exact q)
set_option maxRecDepth 100000 in
set_option maxHeartbeats 4000000 in
theorem ok_C_rowOf (Z : Zt) (d : Nat) : okE Z (d + 4) i_C_rowOf e_C_rowOf := mk_C_rowOf fun c n M hp => by
  refine Gm_run (C := [(i_C_firstWith, e_C_firstWith)]) (S := []) [some (.ref c), some (.int n)] 100 k_C_rowOf (okE_cons (ok_C_firstWith Z d) okE_nil) (ex_n rfl) ?_
  simp (disch := first | trivial | assumption | omega) only [run, go, jmp, seek, inS, e0, e1, e2, e3, e4, e5, tsw, e7, e8, e9, e10, e11, e12, splitA, rcv, clook, lget, lset, lset2, lkill, Option.toList, List.nil_append, List.cons_append, wsum, List.map_cons, List.map_nil, List.sum_cons, List.sum_nil, Value.category, Nat.reduceAdd, List.getD_cons_zero, List.getD_cons_succ, ↓reduceIte, if_true, if_false, Bool.false_eq_true, Nat.reduceLeDiff, Nat.reduceEqDiff, true_or, or_true, true_and, and_true, and_self, or_self, not_true, not_false_iff, mR_stI, mN_stI, isO_stI, isA_stI, mI_stI, mR_mW, mN_mW, isO_mW, isA_mW, mI_mW, mW_mW, stI_mW, nI_addL, nI_mulL, nI_subL, nI_ltL, nI_leL, nI_Llt, nI_Lle, nI_eqL, nI_Leq, nI_add, pk_mul, nI_ltI, nI_leI, nI_eq, vpi, nI_clamp, nI_toN, p_C_rowOf, cl_o hp, pc_C_firstWith, i_C_firstWith]
  split
  · next h => exact ⟨by rw [rowF, if_neg (Int32.not_lt.mpr h)], rfl⟩
  · next h => exact ⟨by rw [rowF, if_pos (Int32.not_le.mp h)], rfl⟩
/-- a row goes; i: up to where the later ones have come down -/
def rmP (f : Nat → Nat → Int32) (c k i : Nat) : Nat → Nat → Int32 := fun x y => if x = c ∧ y = 2 then nI (csz f c - 1) else if x = c + 1 ∧ k * 6 ≤ y ∧ y < i then f (c + 1) (y + 6) else f x y
def rmF (f : Nat → Nat → Int32) (c k : Nat) : Nat → Nat → Int32 := rmP f c k ((csz f c - 1) * 6)
theorem rmP_s (f : Nat → Nat → Int32) (c k i : Nat) : rmP f c k i c 2 = nI (csz f c - 1) := by simp [rmP]
theorem rmP_hi {f : Nat → Nat → Int32} {c k i y : Nat} (h : i ≤ y) : rmP f c k i (c + 1) y = f (c + 1) y := by
  unfold rmP
  rw [if_neg (by omega), if_neg (by omega)]
theorem rmP_0 (f : Nat → Nat → Int32) (c k : Nat) : u2 f c 2 (nI (csz f c - 1)) = rmP f c k (k * 6) := by
  funext x y
  simp only [rmP, u2_at]
  split
  · rfl
  · rw [if_neg (by omega)]
theorem rmP_1 {f : Nat → Nat → Int32} {c k i : Nat} (h : k * 6 ≤ i) : u2 (rmP f c k i) (c + 1) i (f (c + 1) (i + 6)) = rmP f c k (i + 1) := by
  funext x y
  simp only [rmP, u2_at]
  by_cases h1 : x = c + 1 ∧ y = i
  · rw [if_pos h1, if_neg (by omega), if_pos (by omega), h1.2]
  · rw [if_neg h1]
    by_cases h2 : x = c ∧ y = 2
    · rw [if_pos h2, if_pos h2]
    · rw [if_neg h2, if_neg h2]
      by_cases h3 : x = c + 1 ∧ k * 6 ≤ y ∧ y < i
      · rw [if_pos h3, if_pos (by omega)]
      · rw [if_neg h3, if_neg (by omega)]
def e_C_remove : Ent := (fun av M => ∃ (c : Nat) (k : Nat), av = [.ref c, .int (nI k)] ∧ k < 2 ^ 31 ∧ (ClOk M c ∧ k < csz (mI M) c), fun av M r_ M_ => ∀ (c : Nat) (k : Nat), k < 2 ^ 31 → av = [.ref c, .int (nI k)] → r_ = (none) ∧ M_ = (mW M (rmF (mI M) c k)))
theorem pc_C_remove {c : Nat} {k : Nat} {M : Mem} {K : Option Value → Mem → Prop} (hp : ClOk M c ∧ k < csz (mI M) c) (h_k : k < 2 ^ 31) : pcall e_C_remove [.ref c, .int (nI k)] M K = K (none) (mW M (rmF (mI M) c k)) := propext ⟨fun h => h.2 _ _ (fun c' k' h_k' e => by simp only [List.cons.injEq, Value.ref.injEq, Value.int.injEq, Value.long.injEq, and_true] at e; obtain ⟨q0, q1⟩ := e; obtain rfl := q0; obtain rfl := (nI_eq h_k h_k').mp q1; exact ⟨rfl, rfl⟩), fun h => ⟨⟨c, k, rfl, h_k, hp⟩, fun r_ M_ q => by obtain ⟨rfl, rfl⟩ := q _ _ h_k rfl; exact h⟩⟩
theorem mk_C_remove {Z : Zt} {d : Nat} (h : ∀ (c : Nat) (k : Nat) (M : Mem), k < 2 ^ 31 → (ClOk M c ∧ k < csz (mI M) c) → Gm Z d s_C_remove [.ref c, .int (nI k)] M (ex (none) (mW M (rmF (mI M) c k)))) : okE Z d i_C_remove e_C_remove := by
  rintro av M ⟨c, k, rfl, h_k, hp⟩
  exact Gm.cons (h c k M h_k hp) (fun r_ M_ q c' k' h_k' e => by simp only [List.cons.injEq, Value.ref.injEq, Value.int.injEq, Value.long.injEq, and_true] at e; obtain ⟨q0, q1⟩ := e; obtain rfl := q0; obtain rfl := (nI_eq h_k h_k').mp q1; exact q)
set_option maxRecDepth 100000 in
set_option maxHeartbeats 4000000 in
theorem lp_C_remove (Z : Zt) (d : Nat) {c k : Nat} {M : Mem} (hp : ClOk M c) (hk : k < csz (mI M) c) : ∀ n i, i + n = (csz (mI M) c - 1) * 6 → k * 6 ≤ i → X Z (d + 2) s_C_remove (mN M) (mN M) (ex none (mW M (rmF (mI M) c k))) 30 [some (.ref c), some (.int (nI k)), some (.int (nI i))] [] (mW M (rmP (mI M) c k i)) := by
  have h1 := cl_le hp
  have h2 := cl_40 hp
  intro n
  induction n with
  | zero =>
    intro i hi hki
    refine X_run (C := []) (S := [30]) 100 k_C_remove okE_nil ?_
    simp (disch := first | trivial | assumption | omega) only [run, go, jmp, seek, inS, e0, e1, e2, e3, e4, e5, tsw, e7, e8, e9, e10, e11, e12, splitA, rcv, clook, lget, lset, lset2, lkill, Option.toList, List.nil_append, List.cons_append, wsum, List.map_cons, List.map_nil, List.sum_cons, List.sum_nil, Value.category, Nat.reduceAdd, List.getD_cons_zero, List.getD_cons_succ, ↓reduceIte, if_true, if_false, Bool.false_eq_true, Nat.reduceLeDiff, Nat.reduceEqDiff, true_or, or_true, true_and, and_true, and_self, or_self, not_true, not_false_iff, mR_stI, mN_stI, isO_stI, isA_stI, mI_stI, mR_mW, mN_mW, isO_mW, isA_mW, mI_mW, mW_mW, stI_mW, nI_addL, nI_mulL, nI_subL, nI_ltL, nI_leL, nI_Llt, nI_Lle, nI_eqL, nI_Leq, nI_add, pk_mul, nI_ltI, nI_leI, nI_eq, vpi, nI_clamp, nI_toN, p_C_remove, cl_o hp, rmP_s]
    rw [if_pos (by omega)]
    have : i = (csz (mI M) c - 1) * 6 := by omega
    subst this
    exact ⟨rfl, rfl⟩
  | succ n ih =>
    intro i hi hki
    refine X_run (C := []) (S := [30]) 100 k_C_remove okE_nil ?_
    simp (disch := first | trivial | assumption | omega) only [run, go, jmp, seek, inS, e0, e1, e2, e3, e4, e5, tsw, e7, e8, e9, e10, e11, e12, splitA, rcv, clook, lget, lset, lset2, lkill, Option.toList, List.nil_append, List.cons_append, wsum, List.map_cons, List.map_nil, List.sum_cons, List.sum_nil, Value.category, Nat.reduceAdd, List.getD_cons_zero, List.getD_cons_succ, ↓reduceIte, if_true, if_false, Bool.false_eq_true, Nat.reduceLeDiff, Nat.reduceEqDiff, true_or, or_true, true_and, and_true, and_self, or_self, not_true, not_false_iff, mR_stI, mN_stI, isO_stI, isA_stI, mI_stI, mR_mW, mN_mW, isO_mW, isA_mW, mI_mW, mW_mW, stI_mW, nI_addL, nI_mulL, nI_subL, nI_ltL, nI_leL, nI_Llt, nI_Lle, nI_eqL, nI_Leq, nI_add, pk_mul, nI_ltI, nI_leI, nI_eq, vpi, nI_clamp, nI_toN, p_C_remove, cl_o hp, cl_r0 hp, cl_a hp, rmP_s, rmP_hi, rmP_1]
    rw [if_neg (by omega)]
    exact ih (i + 1) (by omega) (by omega)
set_option maxRecDepth 100000 in
set_option maxHeartbeats 4000000 in
theorem ok_C_remove (Z : Zt) (d : Nat) : okE Z (d + 2) i_C_remove e_C_remove := mk_C_remove fun c k M hk0 hp => by
  obtain ⟨hp, hk⟩ := hp
  have h1 := cl_le hp
  have h2 := cl_40 hp
  have hs := cl_s hp
  refine Gm_run (C := [(i_B_within, e_B_within)]) (S := [30]) [some (.ref c), some (.int (nI k)), none] 100 k_C_remove (okE_cons (ok_B_within Z d) okE_nil) (ex_n rfl) ?_
  simp (disch := first | trivial | assumption | omega) only [run, go, jmp, seek, inS, e0, e1, e2, e3, e4, e5, tsw, e7, e8, e9, e10, e11, e12, splitA, rcv, clook, lget, lset, lset2, lkill, Option.toList, List.nil_append, List.cons_append, wsum, List.map_cons, List.map_nil, List.sum_cons, List.sum_nil, Value.category, Nat.reduceAdd, List.getD_cons_zero, List.getD_cons_succ, ↓reduceIte, if_true, if_false, Bool.false_eq_true, Nat.reduceLeDiff, Nat.reduceEqDiff, true_or, or_true, true_and, and_true, and_self, or_self, not_true, not_false_iff, mR_stI, mN_stI, isO_stI, isA_stI, mI_stI, mR_mW, mN_mW, isO_mW, isA_mW, mI_mW, mW_mW, stI_mW, nI_addL, nI_mulL, nI_subL, nI_ltL, nI_leL, nI_Llt, nI_Lle, nI_eqL, nI_Leq, nI_add, pk_mul, nI_ltI, nI_leI, nI_eq, vpi, nI_clamp, nI_toN, p_C_remove, cl_o hp, hs, pc_B_within, i_B_within, bv_0]
  rw [if_neg (by omega), rmP_0 _ _ k]
  exact lp_C_remove Z d hp hk _ (k * 6) (Nat.add_sub_cancel' (by omega)) (Nat.le_refl _)
