theorem nI_dec (r : Nat) : nI r + (-1) = nI r - 1 := by
  rw [Int32.sub_eq_add_neg]
theorem nI_pneg (r : Nat) (h : r < 2 ^ 31) : (nI r - 1 < 0) = (r = 0) := by
  cases r with
  | zero => exact propext ⟨fun _ => rfl, fun _ => by decide⟩
  | succ k =>
    rw [nI_pred]
    exact propext ⟨fun q => absurd q (nI_pos (by omega)), fun q => by omega⟩
theorem rmF_s (f : Nat → Nat → Int32) (c k : Nat) : rmF f c k c 2 = nI (csz f c - 1) := rmP_s f c k _
/-- all rows of an owner go, from the last one of the first r on -/
def raF (f : Nat → Nat → Int32) (c : Nat) (t : Int32) : Nat → Nat → Nat → Int32
  | 0 => f
  | r + 1 => raF (if cellF f c (nI r) 4 = t then rmF f c r else f) c t r
/-- a new row: n units of it put down -/
def addP (f g : Nat → Nat → Int32) (c u n : Nat) : Nat → Nat → Int32 := fun x y => if x = c + 1 ∧ csz f c * 6 ≤ y ∧ y < csz f c * 6 + n then g u (y - csz f c * 6) else f x y
def addF (f : Nat → Nat → Int32) (c u : Nat) (o n : Int32) : Nat → Nat → Int32 := u2 (u2 (u2 (addP f f c u 4) (c + 1) (csz f c * 6 + 4) o) (c + 1) (csz f c * 6 + 5) n) c 2 (nI (csz f c + 1))
theorem addP_0 (f g : Nat → Nat → Int32) (c u : Nat) : addP f g c u 0 = f := by
  funext x y
  simp only [addP]
  rw [if_neg (by omega)]
theorem addP_1 {f g : Nat → Nat → Int32} {c u n : Nat} : u2 (addP f g c u n) (c + 1) (csz f c * 6 + n) (g u n) = addP f g c u (n + 1) := by
  funext x y
  simp only [addP, u2_at]
  by_cases h1 : x = c + 1 ∧ y = csz f c * 6 + n
  · rw [if_pos h1, if_pos (by omega), h1.2, Nat.add_sub_cancel_left]
  · rw [if_neg h1]
    by_cases h3 : x = c + 1 ∧ csz f c * 6 ≤ y ∧ y < csz f c * 6 + n
    · rw [if_pos h3, if_pos (by omega)]
    · rw [if_neg h3, if_neg (by omega)]
theorem addP_ne {f g : Nat → Nat → Int32} {c u n x y : Nat} (h : x ≠ c + 1) : addP f g c u n x y = f x y := by
  unfold addP
  rw [if_neg (fun q => h q.1)]
def e_C_add : Ent := (fun av M => ∃ (c : Nat) (u : Nat) (o : Int32), av = [.ref c, .ref u, .int o] ∧ (ClOk M c ∧ csz (mI M) c < ccap c ∧ u < mN M ∧ kd u = (1, 4)), fun av M r_ M_ => ∀ (c : Nat) (u : Nat) (o : Int32), av = [.ref c, .ref u, .int o] → r_ = (none) ∧ M_ = (mW M (addF (mI M) c u o (-1000003))))
theorem pc_C_add {c : Nat} {u : Nat} {o : Int32} {M : Mem} {K : Option Value → Mem → Prop} (hp : ClOk M c ∧ csz (mI M) c < ccap c ∧ u < mN M ∧ kd u = (1, 4)) : pcall e_C_add [.ref c, .ref u, .int o] M K = K (none) (mW M (addF (mI M) c u o (-1000003))) := propext ⟨fun h => h.2 _ _ (fun c' u' o' e => by simp only [List.cons.injEq, Value.ref.injEq, Value.int.injEq, Value.long.injEq, and_true] at e; obtain ⟨q0, q1, q2⟩ := e; obtain rfl := q0; obtain rfl := q1; obtain rfl := q2; exact ⟨rfl, rfl⟩), fun h => ⟨⟨c, u, o, rfl, hp⟩, fun r_ M_ q => by obtain ⟨rfl, rfl⟩ := q _ _ _ rfl; exact h⟩⟩
theorem mk_C_add {Z : Zt} {d : Nat} (h : ∀ (c : Nat) (u : Nat) (o : Int32) (M : Mem), (ClOk M c ∧ csz (mI M) c < ccap c ∧ u < mN M ∧ kd u = (1, 4)) → Gm Z d s_C_add [.ref c, .ref u, .int o] M (ex (none) (mW M (addF (mI M) c u o (-1000003))))) : okE Z d i_C_add e_C_add := by
  rintro av M ⟨c, u, o, rfl, hp⟩
  exact Gm.cons (h c u o M  hp) (fun r_ M_ q c' u' o' e => by simp only [List.cons.injEq, Value.ref.injEq, Value.int.injEq, Value.long.injEq, and_true] at e; obtain ⟨q0, q1, q2⟩ := e; obtain rfl := q0; obtain rfl := q1; obtain rfl := q2; exact q)
set_option maxRecDepth 100000 in
set_option maxHeartbeats 4000000 in
theorem lp_C_add (Z : Zt) (d : Nat) {c u : Nat} {o : Int32} {M : Mem} (hp : ClOk M c) (hk : csz (mI M) c < ccap c) (hu : u < mN M) (hk2 : kd u = (1, 4)) : ∀ n i, i + n = 4 → X Z (d + 2) s_C_add (mN M) (mN M) (ex none (mW M (addF (mI M) c u o (-1000003)))) 19 [some (.ref c), some (.ref u), some (.int o), some (.int (nI (csz (mI M) c * 6))), some (.int (nI i))] [] (mW M (addP (mI M) (mI M) c u i)) := by
  have h2 := cl_40 hp
  have hs := cl_s hp
  have hne : u ≠ c + 1 := by
    intro e
    have := hp.2.2.2.1
    rw [← e, hk2] at this
    simp at this
    omega
  have hA : ∀ {k}, k < 4 → isA M u (nI k) = True := fun {k} h => eq_true ⟨hu, by rw [hk2], by rw [hk2]; exact vp_in_nI h (by decide)⟩
  have hcs : ∀ n, addP (mI M) (mI M) c u n c 2 = nI (csz (mI M) c) := fun n => by rw [addP_ne (by omega), hs]
  intro n
  induction n with
  | zero =>
    intro i hi
    obtain rfl : i = 4 := by omega
    refine X_run (C := []) (S := [19]) 100 k_C_add okE_nil ?_
    simp (disch := first | trivial | assumption | omega) only [run, go, jmp, seek, inS, e0, e1, e2, e3, e4, e5, tsw, e7, e8, e9, e10, e11, e12, splitA, rcv, clook, lget, lset, lset2, lkill, Option.toList, List.nil_append, List.cons_append, wsum, List.map_cons, List.map_nil, List.sum_cons, List.sum_nil, Value.category, Nat.reduceAdd, List.getD_cons_zero, List.getD_cons_succ, ↓reduceIte, if_true, if_false, Bool.false_eq_true, Nat.reduceLeDiff, Nat.reduceEqDiff, true_or, or_true, true_and, and_true, and_self, or_self, not_true, not_false_iff, mR_stI, mN_stI, isO_stI, isA_stI, mI_stI, mR_mW, mN_mW, isO_mW, isA_mW, mI_mW, mW_mW, stI_mW, nI_addL, nI_mulL, nI_subL, nI_ltL, nI_leL, nI_Llt, nI_Lle, nI_eqL, nI_Leq, nI_add, pk_mul, nI_ltI, nI_leI, nI_eq, vpi, nI_clamp, nI_toN, p_C_add, cl_o hp, cl_r0 hp, cl_a hp, hcs, u2_ne, addP_ne]
    simp [ex, addF]
  | succ n ih =>
    intro i hi
    refine X_run (C := []) (S := [19]) 100 k_C_add okE_nil ?_
    simp (disch := first | trivial | assumption | omega) only [run, go, jmp, seek, inS, e0, e1, e2, e3, e4, e5, tsw, e7, e8, e9, e10, e11, e12, splitA, rcv, clook, lget, lset, lset2, lkill, Option.toList, List.nil_append, List.cons_append, wsum, List.map_cons, List.map_nil, List.sum_cons, List.sum_nil, Value.category, Nat.reduceAdd, List.getD_cons_zero, List.getD_cons_succ, ↓reduceIte, if_true, if_false, Bool.false_eq_true, Nat.reduceLeDiff, Nat.reduceEqDiff, true_or, or_true, true_and, and_true, and_self, or_self, not_true, not_false_iff, mR_stI, mN_stI, isO_stI, isA_stI, mI_stI, mR_mW, mN_mW, isO_mW, isA_mW, mI_mW, mW_mW, stI_mW, nI_addL, nI_mulL, nI_subL, nI_ltL, nI_leL, nI_Llt, nI_Lle, nI_eqL, nI_Leq, nI_add, pk_mul, nI_ltI, nI_leI, nI_eq, vpi, nI_clamp, nI_toN, p_C_add, cl_o hp, cl_r0 hp, cl_a hp, hA, hk2, hu, addP_ne, addP_1]
    rw [if_neg (by omega), if_neg (by omega)]
    exact ih (i + 1) (by omega)
set_option maxRecDepth 100000 in
set_option maxHeartbeats 4000000 in
theorem ok_C_add (Z : Zt) (d : Nat) : okE Z (d + 2) i_C_add e_C_add := mk_C_add fun c u o M hp => by
  obtain ⟨hp, hk, hu, hk2⟩ := hp
  have h2 := cl_40 hp
  have hs := cl_s hp
  refine Gm_run (C := [(i_C_isFull, e_C_isFull)]) (S := [19]) [some (.ref c), some (.ref u), some (.int o), none, none] 100 k_C_add (okE_cons (ok_C_isFull Z d) okE_nil) (ex_n rfl) ?_
  simp (disch := first | trivial | assumption | omega) only [run, go, jmp, seek, inS, e0, e1, e2, e3, e4, e5, tsw, e7, e8, e9, e10, e11, e12, splitA, rcv, clook, lget, lset, lset2, lkill, Option.toList, List.nil_append, List.cons_append, wsum, List.map_cons, List.map_nil, List.sum_cons, List.sum_nil, Value.category, Nat.reduceAdd, List.getD_cons_zero, List.getD_cons_succ, ↓reduceIte, if_true, if_false, Bool.false_eq_true, Nat.reduceLeDiff, Nat.reduceEqDiff, true_or, or_true, true_and, and_true, and_self, or_self, not_true, not_false_iff, mR_stI, mN_stI, isO_stI, isA_stI, mI_stI, mR_mW, mN_mW, isO_mW, isA_mW, mI_mW, mW_mW, stI_mW, nI_addL, nI_mulL, nI_subL, nI_ltL, nI_leL, nI_Llt, nI_Lle, nI_eqL, nI_Leq, nI_add, pk_mul, nI_ltI, nI_leI, nI_eq, vpi, nI_clamp, nI_toN, p_C_add, cl_o hp, cl_r0 hp, hs, pc_C_isFull, i_C_isFull, bv_0]
  rw [if_pos (by omega)]
  have := lp_C_add Z d (o := o) hp hk hu hk2 4 0 rfl
  rw [addP_0] at this
  exact this
