/-! ===== the whole bank, as it stands: what never changes but the order of the kept states ===== -/
def BkS (M : Mem) : Prop := 174 ≤ mN M ∧ LedS M 20 ∧ LedS M 35 ∧ (∀ j, j < 8 → LedS M (52 + 15 * j)) ∧ mR M 50 0 = 51 ∧ (∀ i, i < 8 → ∃ j, j < 8 ∧ mR M 51 i = 52 + 15 * j) ∧ (∀ i k, i < 8 → k < 8 → mR M 51 i = mR M 51 k → i = k) ∧ (mR M 16 0 = 17 ∧ mR M 16 1 = 20 ∧ mR M 16 2 = 35 ∧ mR M 16 3 = 50 ∧ mR M 16 4 = 172 ∧ mR M 16 5 = 173) ∧ (mR M 17 0 = 18 ∧ mR M 17 1 = 19)
theorem bk_mW {M : Mem} {f : Nat → Nat → Int32} : BkS (mW M f) = BkS M := rfl
theorem bk_now {M : Mem} (h : BkS M) : LedS M 20 := h.2.1
theorem bk_tri {M : Mem} (h : BkS M) : LedS M 35 := h.2.2.1
theorem bk_row {M : Mem} {j : Nat} (h : BkS M) (hj : j < 8) : LedS M (52 + 15 * j) := h.2.2.2.1 j hj
theorem bk_h0 {M : Mem} (h : BkS M) : mR M 50 0 = 51 := h.2.2.2.2.1
theorem bk_st {M : Mem} (h : BkS M) {i : Nat} (hi : i < 8) : ∃ j, j < 8 ∧ mR M 51 i = 52 + 15 * j := h.2.2.2.2.2.1 i hi
theorem bk_inj {M : Mem} (h : BkS M) : ∀ i k, i < 8 → k < 8 → mR M 51 i = mR M 51 k → i = k := h.2.2.2.2.2.2.1
theorem bk_b0 {M : Mem} (h : BkS M) : mR M 16 0 = 17 := h.2.2.2.2.2.2.2.1.1
theorem bk_b1 {M : Mem} (h : BkS M) : mR M 16 1 = 20 := h.2.2.2.2.2.2.2.1.2.1
theorem bk_b2 {M : Mem} (h : BkS M) : mR M 16 2 = 35 := h.2.2.2.2.2.2.2.1.2.2.1
theorem bk_b3 {M : Mem} (h : BkS M) : mR M 16 3 = 50 := h.2.2.2.2.2.2.2.1.2.2.2.1
theorem bk_b4 {M : Mem} (h : BkS M) : mR M 16 4 = 172 := h.2.2.2.2.2.2.2.1.2.2.2.2.1
theorem bk_b5 {M : Mem} (h : BkS M) : mR M 16 5 = 173 := h.2.2.2.2.2.2.2.1.2.2.2.2.2
theorem bk_v0 {M : Mem} (h : BkS M) : mR M 17 0 = 18 := h.2.2.2.2.2.2.2.2.1
theorem bk_v1 {M : Mem} (h : BkS M) : mR M 17 1 = 19 := h.2.2.2.2.2.2.2.2.2
theorem bk_O {M : Mem} (h : BkS M) {i ci : Nat} (hk : kd i = (ci + 3, cW ci)) (hi : i < 174) : isO M i ci = True := eq_true ⟨Nat.lt_of_lt_of_le hi h.1, by rw [hk], by rw [hk]⟩
theorem bk_A {M : Mem} (h : BkS M) {i k n : Nat} (hk : kd i = (1, n)) (hi : i < 174) (hn : k < n) (hn2 : n < 2 ^ 31) : isA M i (nI k) = True := eq_true ⟨Nat.lt_of_lt_of_le hi h.1, by rw [hk], by rw [hk]; exact vp_in_nI hn hn2⟩
theorem bk_l {M : Mem} (h : BkS M) {i : Nat} (hi : i < 174) : (i < mN M) = True := eq_true (Nat.lt_of_lt_of_le hi h.1)
theorem bk_oB {M : Mem} (h : BkS M) : isO M 16 4 = True := bk_O h rfl (by omega)
theorem bk_oV {M : Mem} (h : BkS M) : isO M 17 3 = True := bk_O h rfl (by omega)
theorem bk_oH {M : Mem} (h : BkS M) : isO M 50 1 = True := bk_O h rfl (by omega)
theorem kd51a : (kd 51).1 = 2 := rfl
theorem kd51b : (kd 51).2 = 8 := rfl
theorem vp_0 {n : Nat} (h : 0 < n) (h2 : n < 2 ^ 31) : vp_in 0 n = True := vpi (k := 0) h h2
theorem vp_78 : vp_in 7 8 = True := vpi (k := 7) (by omega) (by omega)
def mRW (M : Mem) (r : Nat → Nat → Nat) : Mem := (M.1, M.2.1, r, M.2.2.2)
theorem mR_mRW (M : Mem) (r : Nat → Nat → Nat) : mR (mRW M r) = r := rfl
theorem mL_mRW (M : Mem) (r : Nat → Nat → Nat) : mL (mRW M r) = mL M := rfl
theorem mN_mRW (M : Mem) (r : Nat → Nat → Nat) : mN (mRW M r) = mN M := rfl
theorem mI_mRW (M : Mem) (r : Nat → Nat → Nat) : mI (mRW M r) = mI M := rfl
theorem isO_mRW (M : Mem) (r : Nat → Nat → Nat) : isO (mRW M r) = isO M := rfl
theorem isA_mRW (M : Mem) (r : Nat → Nat → Nat) : isA (mRW M r) = isA M := rfl
theorem stR_mRW (M : Mem) (r : Nat → Nat → Nat) (a k v : Nat) : stR (mRW M r) a k v = mRW M (u2 r a k v) := rfl
theorem stI_mRW (M : Mem) (r : Nat → Nat → Nat) (a k : Nat) (v : Int32) : stI (mRW M r) a k v = mW (mRW M r) (u2 (mI M) a k v) := rfl
theorem mRW_self (M : Mem) : mRW M (mR M) = M := rfl
/-- the kept states moved on by one; the first comes last -/
def rotP (r : Nat → Nat → Nat) (i : Nat) : Nat → Nat → Nat := fun x y => if x = 51 ∧ y + 1 < i then r 51 (y + 1) else r x y
def rotR (r : Nat → Nat → Nat) : Nat → Nat → Nat := u2 (rotP r 8) 51 7 (r 51 0)
theorem rotP_1 (r : Nat → Nat → Nat) : rotP r 1 = r := by
  funext x y
  simp only [rotP]
  rw [if_neg (by omega)]
theorem rotP_s {r : Nat → Nat → Nat} {i : Nat} (hi : 1 ≤ i) : u2 (rotP r i) 51 (i - 1) (r 51 i) = rotP r (i + 1) := by
  funext x y
  simp only [rotP, u2_at]
  by_cases h1 : x = 51 ∧ y = i - 1
  · rw [if_pos h1, if_pos (by omega), h1.2, show i - 1 + 1 = i by omega]
  · rw [if_neg h1]
    by_cases h3 : x = 51 ∧ y + 1 < i
    · rw [if_pos h3, if_pos (by omega)]
    · rw [if_neg h3, if_neg (by omega)]
theorem rotP_i {r : Nat → Nat → Nat} {i : Nat} : rotP r i 51 i = r 51 i := by
  unfold rotP
  rw [if_neg (by omega)]
theorem rotP_o {r : Nat → Nat → Nat} {i x y : Nat} (h : x ≠ 51) : rotP r i x y = r x y := by
  unfold rotP
  rw [if_neg (fun q => h q.1)]
theorem rotR_o {r : Nat → Nat → Nat} {x y : Nat} (h : x ≠ 51) : rotR r x y = r x y := by
  unfold rotR
  rw [u2_ne h, rotP_o h]
theorem rotR_i {r : Nat → Nat → Nat} {i : Nat} (h : i < 7) : rotR r 51 i = r 51 (i + 1) := by
  unfold rotR rotP
  rw [u2_ne2 (by omega), if_pos ⟨rfl, by omega⟩]
theorem rotR_7 {r : Nat → Nat → Nat} : rotR r 51 7 = r 51 0 := u2_eq
theorem led_RW {M : Mem} {r : Nat → Nat → Nat} {b : Nat} (h : LedS M b) (hb : b + 14 < 51 ∨ 51 < b) (hr : ∀ x y, x ≠ 51 → r x y = mR M x y) : LedS (mRW M r) b := by
  obtain ⟨h1, h2, h3, h4, h5, h6, h7, h8, h9, h10⟩ := h
  refine ⟨h1, h2, fun j hj => ?_, ?_, ?_, ?_, ?_, ?_, ?_, ?_⟩
  · rw [mR_mRW, hr _ _ (by omega), h3 j hj]
  · rw [mR_mRW, hr _ _ (by omega), h4]
  · rw [mR_mRW, hr _ _ (by omega), h5]
  · rw [mR_mRW, hr _ _ (by omega), h6]
  · rw [mR_mRW, hr _ _ (by omega), h7]
  · rw [mR_mRW, hr _ _ (by omega), h8]
  · rw [mR_mRW, hr _ _ (by omega), h9]
  · rw [mR_mRW, hr _ _ (by omega), h10]
theorem bk_rot {M : Mem} (h : BkS M) : BkS (mRW M (rotR (mR M))) := by
  have hr : ∀ x y, x ≠ 51 → rotR (mR M) x y = mR M x y := fun x y h => rotR_o h
  obtain ⟨h1, h2, h3, h4, h5, h6, h7, h8, h9⟩ := h
  have e : ∀ i, i < 8 → rotR (mR M) 51 i = mR M 51 (if i < 7 then i + 1 else 0) := fun i hi => by
    by_cases q : i < 7
    · rw [if_pos q, rotR_i q]
    · rw [if_neg q, show i = 7 by omega, rotR_7]
  refine ⟨h1, led_RW h2 (by omega) hr, led_RW h3 (by omega) hr, fun j hj => led_RW (h4 j hj) (by omega) hr, ?_, fun i hi => ?_, fun i k hi hk q => ?_, ?_, ?_⟩
  · rw [mR_mRW, hr _ _ (by omega), h5]
  · rw [mR_mRW, e i hi]
    exact h6 _ (by split <;> omega)
  · rw [mR_mRW, e i hi, e k hk] at q
    have := h7 _ _ (by split <;> omega) (by split <;> omega) q
    split at this <;> split at this <;> omega
  · simp only [mR_mRW, hr _ _ (show (16 : Nat) ≠ 51 by omega)]
    exact h8
  · simp only [mR_mRW, hr _ _ (show (17 : Nat) ≠ 51 by omega)]
    exact h9
def hs (f : Nat → Nat → Int32) : Nat := (f 50 1).toNatClampNeg
def HisD (f : Nat → Nat → Int32) : Prop := f 50 1 = nI (hs f) ∧ hs f ≤ 8 ∧ ∀ j, j < 8 → LedD f (52 + 15 * j)
def dropM (M : Mem) : Mem := mW (mRW M (rotR (mR M))) (u2 (mI M) 50 1 7)
theorem st_o {M : Mem} (h : BkS M) {i : Nat} (hi : i < 8) : isO M (mR M 51 i) 2 = True := by
  obtain ⟨j, hj, e⟩ := bk_st h hi
  rw [e]
  exact ld_o (bk_row h hj)
def e_H_dropOldest : Ent := (fun av M => ∃ (o : Nat), av = [.ref o] ∧ (o = 50 ∧ BkS M), fun av M r_ M_ => ∀ (o : Nat), av = [.ref o] → r_ = (none) ∧ M_ = (dropM M))
theorem pc_H_dropOldest {o : Nat} {M : Mem} {K : Option Value → Mem → Prop} (hp : o = 50 ∧ BkS M) : pcall e_H_dropOldest [.ref o] M K = K (none) (dropM M) := propext ⟨fun h => h.2 _ _ (fun o' e => by simp only [List.cons.injEq, Value.ref.injEq, Value.int.injEq, Value.long.injEq, and_true] at e; have q0 := e; obtain rfl := q0; exact ⟨rfl, rfl⟩), fun h => ⟨⟨o, rfl, hp⟩, fun r_ M_ q => by obtain ⟨rfl, rfl⟩ := q _ rfl; exact h⟩⟩
theorem mk_H_dropOldest {Z : Zt} {d : Nat} (h : ∀ (o : Nat) (M : Mem), (o = 50 ∧ BkS M) → Gm Z d s_H_dropOldest [.ref o] M (ex (none) (dropM M))) : okE Z d i_H_dropOldest e_H_dropOldest := by
  rintro av M ⟨o, rfl, hp⟩
  exact Gm.cons (h o M  hp) (fun r_ M_ q o' e => by simp only [List.cons.injEq, Value.ref.injEq, Value.int.injEq, Value.long.injEq, and_true] at e; have q0 := e; obtain rfl := q0; exact q)
set_option maxRecDepth 100000 in
set_option maxHeartbeats 4000000 in
theorem lp_H_dropOldest (Z : Zt) (d : Nat) {M : Mem} (hB : BkS M) : ∀ n i, i + n = 8 → 1 ≤ i → X Z (d + 1) s_H_dropOldest (mN M) (mN M) (ex none (dropM M)) 9 [some (.ref 50), some (.ref (mR M 51 0)), some (.int (nI i))] [] (mRW M (rotP (mR M) i)) := by
  intro n
  induction n with
  | zero =>
    intro i hi h1
    obtain rfl : i = 8 := by omega
    refine X_run (C := []) (S := [9]) 100 k_H_dropOldest okE_nil ?_
    simp (disch := first | trivial | assumption | omega) only [run, go, jmp, seek, inS, e0, e1, e2, e3, e4, e5, tsw, e7, e8, e9, e10, e11, e12, splitA, rcv, clook, lget, lset, lset2, lkill, Option.toList, List.nil_append, List.cons_append, wsum, List.map_cons, List.map_nil, List.sum_cons, List.sum_nil, Value.category, Nat.reduceAdd, List.getD_cons_zero, List.getD_cons_succ, ↓reduceIte, if_true, if_false, Bool.false_eq_true, Nat.reduceLeDiff, Nat.reduceEqDiff, true_or, or_true, true_and, and_true, and_self, or_self, not_true, not_false_iff, mR_stI, mN_stI, isO_stI, isA_stI, mI_stI, mR_mW, mN_mW, isO_mW, isA_mW, mI_mW, mW_mW, stI_mW, nI_addL, nI_mulL, nI_subL, nI_ltL, nI_leL, nI_Llt, nI_Lle, nI_eqL, nI_Leq, nI_add, pk_mul, nI_ltI, nI_leI, nI_eq, vpi, nI_clamp, nI_toN, p_H_dropOldest, bk_oH hB, isO_mRW, mR_mRW, mN_mRW, rotP_o, bk_h0 hB, bk_l hB, kd51a, kd51b, st_o hB, stR_mRW, stI_mRW, litN, vp_78]
    exact ⟨rfl, rfl⟩
  | succ n ih =>
    intro i hi h1
    refine X_run (C := []) (S := [9]) 100 k_H_dropOldest okE_nil ?_
    simp (disch := first | trivial | assumption | omega) only [run, go, jmp, seek, inS, e0, e1, e2, e3, e4, e5, tsw, e7, e8, e9, e10, e11, e12, splitA, rcv, clook, lget, lset, lset2, lkill, Option.toList, List.nil_append, List.cons_append, wsum, List.map_cons, List.map_nil, List.sum_cons, List.sum_nil, Value.category, Nat.reduceAdd, List.getD_cons_zero, List.getD_cons_succ, ↓reduceIte, if_true, if_false, Bool.false_eq_true, Nat.reduceLeDiff, Nat.reduceEqDiff, true_or, or_true, true_and, and_true, and_self, or_self, not_true, not_false_iff, mR_stI, mN_stI, isO_stI, isA_stI, mI_stI, mR_mW, mN_mW, isO_mW, isA_mW, mI_mW, mW_mW, stI_mW, nI_addL, nI_mulL, nI_subL, nI_ltL, nI_leL, nI_Llt, nI_Lle, nI_eqL, nI_Leq, nI_add, pk_mul, nI_ltI, nI_leI, nI_eq, vpi, nI_clamp, nI_toN, p_H_dropOldest, bk_oH hB, isO_mRW, mR_mRW, mN_mRW, rotP_o, bk_h0 hB, bk_l hB, kd51a, kd51b, st_o hB, stR_mRW, stI_mRW, litN, rotP_i, rotP_s]
    rw [if_neg (by omega)]
    exact ih (i + 1) (by omega) (by omega)
set_option maxRecDepth 100000 in
set_option maxHeartbeats 4000000 in
theorem ok_H_dropOldest (Z : Zt) (d : Nat) : okE Z (d + 1) i_H_dropOldest e_H_dropOldest := mk_H_dropOldest fun o M hp => by
  obtain ⟨rfl, hB⟩ := hp
  refine Gm_run (C := []) (S := [9]) [some (.ref 50), none, none] 100 k_H_dropOldest okE_nil (ex_n rfl) ?_
  simp (disch := first | trivial | assumption | omega) only [run, go, jmp, seek, inS, e0, e1, e2, e3, e4, e5, tsw, e7, e8, e9, e10, e11, e12, splitA, rcv, clook, lget, lset, lset2, lkill, Option.toList, List.nil_append, List.cons_append, wsum, List.map_cons, List.map_nil, List.sum_cons, List.sum_nil, Value.category, Nat.reduceAdd, List.getD_cons_zero, List.getD_cons_succ, ↓reduceIte, if_true, if_false, Bool.false_eq_true, Nat.reduceLeDiff, Nat.reduceEqDiff, true_or, or_true, true_and, and_true, and_self, or_self, not_true, not_false_iff, mR_stI, mN_stI, isO_stI, isA_stI, mI_stI, mR_mW, mN_mW, isO_mW, isA_mW, mI_mW, mW_mW, stI_mW, nI_addL, nI_mulL, nI_subL, nI_ltL, nI_leL, nI_Llt, nI_Lle, nI_eqL, nI_Leq, nI_add, pk_mul, nI_ltI, nI_leI, nI_eq, vpi, nI_clamp, nI_toN, p_H_dropOldest, bk_oH hB, bk_h0 hB, bk_l hB, kd51a, kd51b, vp_0]
  have := lp_H_dropOldest Z d hB 7 1 rfl (by omega)
  rw [rotP_1, mRW_self] at this
  exact this
def kpM1 (M : Mem) : Mem := if hs (mI M) < 8 then M else dropM M
def kpS1 (M : Mem) : Nat := if hs (mI M) < 8 then hs (mI M) else 7
noncomputable def kpM (M : Mem) : Mem := mW (kpM1 M) (u2 (cfF (mI (kpM1 M)) (mR (kpM1 M) 51 (kpS1 M)) 20) 50 1 (nI (kpS1 M + 1)))
theorem cfF_out {f : Nat → Nat → Int32} {b o x y : Nat} (h : x < b ∨ b + 15 ≤ x) : cfF f b o x y = f x y := cfT_out h
theorem LedD_o {f : Nat → Nat → Int32} {b k : Nat} {v : Int32} (h : LedD f b) (hb : b + 14 < 50 ∨ 50 < b) : LedD (u2 f 50 k v) b := LedD_congr h (u2_ne (by omega)) (u2_ne (by omega)) (u2_ne (by omega)) (u2_ne (by omega))
def e_H_keep : Ent := (fun av M => ∃ (o : Nat) (b : Nat), av = [.ref o, .ref b] ∧ (o = 50 ∧ b = 20 ∧ BkS M ∧ LedD (mI M) 20 ∧ HisD (mI M)), fun av M r_ M_ => ∀ (o : Nat) (b : Nat), av = [.ref o, .ref b] → r_ = (none) ∧ M_ = (kpM M))
theorem pc_H_keep {o : Nat} {b : Nat} {M : Mem} {K : Option Value → Mem → Prop} (hp : o = 50 ∧ b = 20 ∧ BkS M ∧ LedD (mI M) 20 ∧ HisD (mI M)) : pcall e_H_keep [.ref o, .ref b] M K = K (none) (kpM M) := propext ⟨fun h => h.2 _ _ (fun o' b' e => by simp only [List.cons.injEq, Value.ref.injEq, Value.int.injEq, Value.long.injEq, and_true] at e; obtain ⟨q0, q1⟩ := e; obtain rfl := q0; obtain rfl := q1; exact ⟨rfl, rfl⟩), fun h => ⟨⟨o, b, rfl, hp⟩, fun r_ M_ q => by obtain ⟨rfl, rfl⟩ := q _ _ rfl; exact h⟩⟩
theorem mk_H_keep {Z : Zt} {d : Nat} (h : ∀ (o : Nat) (b : Nat) (M : Mem), (o = 50 ∧ b = 20 ∧ BkS M ∧ LedD (mI M) 20 ∧ HisD (mI M)) → Gm Z d s_H_keep [.ref o, .ref b] M (ex (none) (kpM M))) : okE Z d i_H_keep e_H_keep := by
  rintro av M ⟨o, b, rfl, hp⟩
  exact Gm.cons (h o b M  hp) (fun r_ M_ q o' b' e => by simp only [List.cons.injEq, Value.ref.injEq, Value.int.injEq, Value.long.injEq, and_true] at e; obtain ⟨q0, q1⟩ := e; obtain rfl := q0; obtain rfl := q1; exact q)
set_option maxRecDepth 100000 in
set_option maxHeartbeats 4000000 in
theorem ok_H_keep (Z : Zt) (d : Nat) : okE Z (d + 4) i_H_keep e_H_keep := mk_H_keep fun o b M hp => by
  obtain ⟨rfl, rfl, hB, hD, hH⟩ := hp
  have hN := bk_now hB
  refine Gm_run (C := [(i_H_dropOldest, e_H_dropOldest), (i_L_copyFrom, e_L_copyFrom)]) (S := []) [some (.ref 50), some (.ref 20)] 100 k_H_keep (okE_cons (ok_H_dropOldest Z (d + 2)) (okE_cons (ok_L_copyFrom Z d) okE_nil)) (ex_n (by unfold kpM kpM1; split <;> rfl)) ?_
  by_cases h8 : hs (mI M) < 8
  · obtain ⟨j, hj, e⟩ := bk_st hB h8
    have hp : LedOk M (52 + 15 * j) ∧ LedOk M 20 ∧ (20 + 15 ≤ 52 + 15 * j ∨ 52 + 15 * j + 15 ≤ 20) := ⟨⟨bk_row hB hj, hH.2.2 j hj⟩, ⟨hN, hD⟩, by omega⟩
    have e5 : cfF (mI M) (52 + 15 * j) 20 50 1 = nI (hs (mI M)) := by rw [cfF_out (by omega), hH.1]
    simp (disch := first | trivial | assumption | omega) only [run, go, jmp, seek, inS, e0, e1, e2, e3, e4, e5, tsw, e7, e8, e9, e10, e11, e12, splitA, rcv, clook, lget, lset, lset2, lkill, Option.toList, List.nil_append, List.cons_append, wsum, List.map_cons, List.map_nil, List.sum_cons, List.sum_nil, Value.category, Nat.reduceAdd, List.getD_cons_zero, List.getD_cons_succ, ↓reduceIte, if_true, if_false, Bool.false_eq_true, Nat.reduceLeDiff, Nat.reduceEqDiff, true_or, or_true, true_and, and_true, and_self, or_self, not_true, not_false_iff, mR_stI, mN_stI, isO_stI, isA_stI, mI_stI, mR_mW, mN_mW, isO_mW, isA_mW, mI_mW, mW_mW, stI_mW, nI_addL, nI_mulL, nI_subL, nI_ltL, nI_leL, nI_Llt, nI_Lle, nI_eqL, nI_Leq, nI_add, pk_mul, nI_ltI, nI_leI, nI_eq, vpi, nI_clamp, nI_toN, p_H_keep, bk_oH hB, bk_h0 hB, bk_l hB, kd51a, kd51b, hH.1, i_H_dropOldest, i_L_copyFrom, e, ld_o (bk_row hB hj), pc_L_copyFrom hp, e5]
    rw [if_pos h8]
    refine ⟨rfl, ?_⟩
    unfold kpM
    rw [show kpM1 M = M from if_pos h8, show kpS1 M = hs (mI M) from if_pos h8, e]
  · have h7 : hs (mI M) = 8 := by have := hH.2.1; omega
    have hB2 : BkS (dropM M) := bk_rot hB
    obtain ⟨j, hj, e⟩ := bk_st hB2 (show 7 < 8 by omega)
    have hp : LedOk (dropM M) (52 + 15 * j) ∧ LedOk (dropM M) 20 ∧ (20 + 15 ≤ 52 + 15 * j ∨ 52 + 15 * j + 15 ≤ 20) := ⟨⟨bk_row hB2 hj, LedD_o (hH.2.2 j hj) (by omega)⟩, ⟨bk_now hB2, LedD_o hD (by omega)⟩, by omega⟩
    have e5 : cfF (mI (dropM M)) (52 + 15 * j) 20 50 1 = 7 := by rw [cfF_out (by omega)]; exact u2_eq (f := mI M) (a := 50) (k := 1)
    have e6 : mI (dropM M) 50 1 = 7 := u2_eq (f := mI M) (a := 50) (k := 1)
    simp (disch := first | trivial | assumption | omega) only [run, go, jmp, seek, inS, e0, e1, e2, e3, e4, e5, tsw, e7, e8, e9, e10, e11, e12, splitA, rcv, clook, lget, lset, lset2, lkill, Option.toList, List.nil_append, List.cons_append, wsum, List.map_cons, List.map_nil, List.sum_cons, List.sum_nil, Value.category, Nat.reduceAdd, List.getD_cons_zero, List.getD_cons_succ, ↓reduceIte, if_true, if_false, Bool.false_eq_true, Nat.reduceLeDiff, Nat.reduceEqDiff, true_or, or_true, true_and, and_true, and_self, or_self, not_true, not_false_iff, mR_stI, mN_stI, isO_stI, isA_stI, mI_stI, mR_mW, mN_mW, isO_mW, isA_mW, mI_mW, mW_mW, stI_mW, nI_addL, nI_mulL, nI_subL, nI_ltL, nI_leL, nI_Llt, nI_Lle, nI_eqL, nI_Leq, nI_add, pk_mul, nI_ltI, nI_leI, nI_eq, vpi, nI_clamp, nI_toN, p_H_keep, bk_oH hB, hH.1, h7, Nat.lt_irrefl, i_H_dropOldest, i_L_copyFrom, pc_H_dropOldest, bk_oH hB2, bk_h0 hB2, bk_l hB2, kd51a, kd51b, vp_78, litN, e6, e, ld_o (bk_row hB2 hj), pc_L_copyFrom hp, e5]
    refine ⟨rfl, ?_⟩
    unfold kpM
    rw [show kpM1 M = dropM M from if_neg h8, show kpS1 M = 7 from if_neg h8, e]
    rfl
noncomputable def rsM (M : Mem) : Mem := if hs (mI M) = 0 then M else mW M (cfF (u2 (mI M) 50 1 (nI (hs (mI M) - 1))) 20 (mR M 51 (hs (mI M) - 1)))
def e_H_restore : Ent := (fun av M => ∃ (o : Nat) (b : Nat), av = [.ref o, .ref b] ∧ (o = 50 ∧ b = 20 ∧ BkS M ∧ LedD (mI M) 20 ∧ HisD (mI M)), fun av M r_ M_ => ∀ (o : Nat) (b : Nat), av = [.ref o, .ref b] → r_ = (none) ∧ M_ = (rsM M))
theorem pc_H_restore {o : Nat} {b : Nat} {M : Mem} {K : Option Value → Mem → Prop} (hp : o = 50 ∧ b = 20 ∧ BkS M ∧ LedD (mI M) 20 ∧ HisD (mI M)) : pcall e_H_restore [.ref o, .ref b] M K = K (none) (rsM M) := propext ⟨fun h => h.2 _ _ (fun o' b' e => by simp only [List.cons.injEq, Value.ref.injEq, Value.int.injEq, Value.long.injEq, and_true] at e; obtain ⟨q0, q1⟩ := e; obtain rfl := q0; obtain rfl := q1; exact ⟨rfl, rfl⟩), fun h => ⟨⟨o, b, rfl, hp⟩, fun r_ M_ q => by obtain ⟨rfl, rfl⟩ := q _ _ rfl; exact h⟩⟩
theorem mk_H_restore {Z : Zt} {d : Nat} (h : ∀ (o : Nat) (b : Nat) (M : Mem), (o = 50 ∧ b = 20 ∧ BkS M ∧ LedD (mI M) 20 ∧ HisD (mI M)) → Gm Z d s_H_restore [.ref o, .ref b] M (ex (none) (rsM M))) : okE Z d i_H_restore e_H_restore := by
  rintro av M ⟨o, b, rfl, hp⟩
  exact Gm.cons (h o b M  hp) (fun r_ M_ q o' b' e => by simp only [List.cons.injEq, Value.ref.injEq, Value.int.injEq, Value.long.injEq, and_true] at e; obtain ⟨q0, q1⟩ := e; obtain rfl := q0; obtain rfl := q1; exact q)
set_option maxRecDepth 100000 in
set_option maxHeartbeats 4000000 in
theorem ok_H_restore (Z : Zt) (d : Nat) : okE Z (d + 4) i_H_restore e_H_restore := mk_H_restore fun o b M hp => by
  obtain ⟨rfl, rfl, hB, hD, hH⟩ := hp
  have hN := bk_now hB
  have h8 := hH.2.1
  refine Gm_run (C := [(i_L_copyFrom, e_L_copyFrom)]) (S := []) [some (.ref 50), some (.ref 20)] 100 k_H_restore (okE_cons (ok_L_copyFrom Z (d + 0)) okE_nil) (ex_n (by unfold rsM; split <;> rfl)) ?_
  by_cases h0 : hs (mI M) = 0
  · simp (disch := first | trivial | assumption | omega) only [run, go, jmp, seek, inS, e0, e1, e2, e3, e4, e5, tsw, e7, e8, e9, e10, e11, e12, splitA, rcv, clook, lget, lset, lset2, lkill, Option.toList, List.nil_append, List.cons_append, wsum, List.map_cons, List.map_nil, List.sum_cons, List.sum_nil, Value.category, Nat.reduceAdd, List.getD_cons_zero, List.getD_cons_succ, ↓reduceIte, if_true, if_false, Bool.false_eq_true, Nat.reduceLeDiff, Nat.reduceEqDiff, true_or, or_true, true_and, and_true, and_self, or_self, not_true, not_false_iff, mR_stI, mN_stI, isO_stI, isA_stI, mI_stI, mR_mW, mN_mW, isO_mW, isA_mW, mI_mW, mW_mW, stI_mW, nI_addL, nI_mulL, nI_subL, nI_ltL, nI_leL, nI_Llt, nI_Lle, nI_eqL, nI_Leq, nI_add, pk_mul, nI_ltI, nI_leI, nI_eq, vpi, nI_clamp, nI_toN, p_H_restore, bk_oH hB, hH.1, h0]
    exact ⟨rfl, (if_pos h0).symm⟩
  · obtain ⟨j, hj, e⟩ := bk_st hB (show hs (mI M) - 1 < 8 by omega)
    have hp : LedOk (mW M (u2 (mI M) 50 1 (nI (hs (mI M) - 1)))) 20 ∧ LedOk (mW M (u2 (mI M) 50 1 (nI (hs (mI M) - 1)))) (52 + 15 * j) ∧ (52 + 15 * j + 15 ≤ 20 ∨ 20 + 15 ≤ 52 + 15 * j) := ⟨⟨hN, LedD_o hD (by omega)⟩, ⟨bk_row hB hj, LedD_o (hH.2.2 j hj) (by omega)⟩, by omega⟩
    simp (disch := first | trivial | assumption | omega) only [run, go, jmp, seek, inS, e0, e1, e2, e3, e4, e5, tsw, e7, e8, e9, e10, e11, e12, splitA, rcv, clook, lget, lset, lset2, lkill, Option.toList, List.nil_append, List.cons_append, wsum, List.map_cons, List.map_nil, List.sum_cons, List.sum_nil, Value.category, Nat.reduceAdd, List.getD_cons_zero, List.getD_cons_succ, ↓reduceIte, if_true, if_false, Bool.false_eq_true, Nat.reduceLeDiff, Nat.reduceEqDiff, true_or, or_true, true_and, and_true, and_self, or_self, not_true, not_false_iff, mR_stI, mN_stI, isO_stI, isA_stI, mI_stI, mR_mW, mN_mW, isO_mW, isA_mW, mI_mW, mW_mW, stI_mW, nI_addL, nI_mulL, nI_subL, nI_ltL, nI_leL, nI_Llt, nI_Lle, nI_eqL, nI_Leq, nI_add, pk_mul, nI_ltI, nI_leI, nI_eq, vpi, nI_clamp, nI_toN, p_H_restore, bk_oH hB, bk_h0 hB, bk_l hB, kd51a, kd51b, hH.1, i_L_copyFrom, u2_eq, e, ld_o hN, pc_L_copyFrom hp]
    rw [if_neg (by omega)]
    refine ⟨rfl, ?_⟩
    unfold rsM
    rw [if_neg h0, e]
