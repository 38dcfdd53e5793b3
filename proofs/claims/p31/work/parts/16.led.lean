/-- a row of another's: n numbers of it put down -/
def arP (f : Nat → Nat → Int32) (c o k n : Nat) : Nat → Nat → Int32 := fun x y => if x = c + 1 ∧ csz f c * 6 ≤ y ∧ y < csz f c * 6 + n then f (o + 1) (k * 6 + (y - csz f c * 6)) else f x y
def arF (f : Nat → Nat → Int32) (c o k : Nat) (n : Int32) : Nat → Nat → Int32 := u2 (u2 (arP f c o k 5) (c + 1) (csz f c * 6 + 5) n) c 2 (nI (csz f c + 1))
theorem arP_0 (f : Nat → Nat → Int32) (c o k : Nat) : arP f c o k 0 = f := by
  funext x y
  simp only [arP]
  rw [if_neg (by omega)]
theorem arP_1 {f : Nat → Nat → Int32} {c o k n : Nat} : u2 (arP f c o k n) (c + 1) (csz f c * 6 + n) (f (o + 1) (k * 6 + n)) = arP f c o k (n + 1) := by
  funext x y
  simp only [arP, u2_at]
  by_cases h1 : x = c + 1 ∧ y = csz f c * 6 + n
  · rw [if_pos h1, if_pos (by omega), h1.2, Nat.add_sub_cancel_left]
  · rw [if_neg h1]
    by_cases h3 : x = c + 1 ∧ csz f c * 6 ≤ y ∧ y < csz f c * 6 + n
    · rw [if_pos h3, if_pos (by omega)]
    · rw [if_neg h3, if_neg (by omega)]
theorem arP_ne {f : Nat → Nat → Int32} {c o k n x y : Nat} (h : x ≠ c + 1) : arP f c o k n x y = f x y := by
  unfold arP
  rw [if_neg (fun q => h q.1)]
theorem cl_ne1 {M : Mem} {c o : Nat} (h : ClOk M c) (h2 : ClOk M o) : o ≠ c + 1 := by
  intro e
  have h3 := h.2.2.1
  have h4 := h2.1.2.1
  rw [e] at h4
  omega
def e_C_addRowOf : Ent := (fun av M => ∃ (c : Nat) (o : Nat) (k : Nat) (n : Int32), av = [.ref c, .ref o, .int (nI k), .int n] ∧ k < 2 ^ 31 ∧ (ClOk M c ∧ ClOk M o ∧ csz (mI M) c < ccap c ∧ k < csz (mI M) o ∧ c ≠ o), fun av M r_ M_ => ∀ (c : Nat) (o : Nat) (k : Nat) (n : Int32), k < 2 ^ 31 → av = [.ref c, .ref o, .int (nI k), .int n] → r_ = (none) ∧ M_ = (mW M (arF (mI M) c o k n)))
theorem pc_C_addRowOf {c : Nat} {o : Nat} {k : Nat} {n : Int32} {M : Mem} {K : Option Value → Mem → Prop} (hp : ClOk M c ∧ ClOk M o ∧ csz (mI M) c < ccap c ∧ k < csz (mI M) o ∧ c ≠ o) (h_k : k < 2 ^ 31) : pcall e_C_addRowOf [.ref c, .ref o, .int (nI k), .int n] M K = K (none) (mW M (arF (mI M) c o k n)) := propext ⟨fun h => h.2 _ _ (fun c' o' k' n' h_k' e => by simp only [List.cons.injEq, Value.ref.injEq, Value.int.injEq, Value.long.injEq, and_true] at e; obtain ⟨q0, q1, q2, q3⟩ := e; obtain rfl := q0; obtain rfl := q1; obtain rfl := (nI_eq h_k h_k').mp q2; obtain rfl := q3; exact ⟨rfl, rfl⟩), fun h => ⟨⟨c, o, k, n, rfl, h_k, hp⟩, fun r_ M_ q => by obtain ⟨rfl, rfl⟩ := q _ _ _ _ h_k rfl; exact h⟩⟩
theorem mk_C_addRowOf {Z : Zt} {d : Nat} (h : ∀ (c : Nat) (o : Nat) (k : Nat) (n : Int32) (M : Mem), k < 2 ^ 31 → (ClOk M c ∧ ClOk M o ∧ csz (mI M) c < ccap c ∧ k < csz (mI M) o ∧ c ≠ o) → Gm Z d s_C_addRowOf [.ref c, .ref o, .int (nI k), .int n] M (ex (none) (mW M (arF (mI M) c o k n)))) : okE Z d i_C_addRowOf e_C_addRowOf := by
  rintro av M ⟨c, o, k, n, rfl, h_k, hp⟩
  exact Gm.cons (h c o k n M h_k hp) (fun r_ M_ q c' o' k' n' h_k' e => by simp only [List.cons.injEq, Value.ref.injEq, Value.int.injEq, Value.long.injEq, and_true] at e; obtain ⟨q0, q1, q2, q3⟩ := e; obtain rfl := q0; obtain rfl := q1; obtain rfl := (nI_eq h_k h_k').mp q2; obtain rfl := q3; exact q)
set_option maxRecDepth 100000 in
set_option maxHeartbeats 4000000 in
theorem lp_C_addRowOf (Z : Zt) (d : Nat) {c o k : Nat} {nn : Int32} {M : Mem} (hp : ClOk M c) (hp2 : ClOk M o) (hc : csz (mI M) c < ccap c) (hk : k < csz (mI M) o) (hne : c ≠ o) : ∀ n i, i + n = 5 → X Z (d + 3) s_C_addRowOf (mN M) (mN M) (ex none (mW M (arF (mI M) c o k nn))) 20 [some (.ref c), some (.ref o), some (.int (nI k)), some (.int nn), some (.int (nI (csz (mI M) c * 6))), some (.int (nI i))] [] (mW M (arP (mI M) c o k i)) := by
  have h2 := cl_40 hp
  have h3 := cl_40 hp2
  have h4 := cl_le hp2
  have hs := cl_s hp
  have hn1 := cl_ne1 hp hp2
  have hcs : ∀ n, arP (mI M) c o k n c 2 = nI (csz (mI M) c) := fun n => by rw [arP_ne (by omega), hs]
  intro n
  induction n with
  | zero =>
    intro i hi
    obtain rfl : i = 5 := by omega
    refine X_run (C := []) (S := [20]) 100 k_C_addRowOf okE_nil ?_
    simp (disch := first | trivial | assumption | omega) only [run, go, jmp, seek, inS, e0, e1, e2, e3, e4, e5, tsw, e7, e8, e9, e10, e11, e12, splitA, rcv, clook, lget, lset, lset2, lkill, Option.toList, List.nil_append, List.cons_append, wsum, List.map_cons, List.map_nil, List.sum_cons, List.sum_nil, Value.category, Nat.reduceAdd, List.getD_cons_zero, List.getD_cons_succ, ↓reduceIte, if_true, if_false, Bool.false_eq_true, Nat.reduceLeDiff, Nat.reduceEqDiff, true_or, or_true, true_and, and_true, and_self, or_self, not_true, not_false_iff, mR_stI, mN_stI, isO_stI, isA_stI, mI_stI, mR_mW, mN_mW, isO_mW, isA_mW, mI_mW, mW_mW, stI_mW, nI_addL, nI_mulL, nI_subL, nI_ltL, nI_leL, nI_Llt, nI_Lle, nI_eqL, nI_Leq, nI_add, pk_mul, nI_ltI, nI_leI, nI_eq, vpi, nI_clamp, nI_toN, p_C_addRowOf, cl_o hp, cl_r0 hp, cl_a hp, hcs, u2_ne, arP_ne]
    simp [ex, arF]
  | succ n ih =>
    intro i hi
    have he : csz (arP (mI M) c o k i) o = csz (mI M) o := by
      unfold csz
      rw [arP_ne (by omega)]
    have ho : ClOk (mW M (arP (mI M) c o k i)) o := cl_mW hp2 (s := csz (mI M) o) (by rw [arP_ne (by omega)]; exact cl_s hp2) h4
    have hcell : cellF (arP (mI M) c o k i) o (nI k) (nI i) = mI M (o + 1) (k * 6 + i) := by
      have := cellF_at (j := i) ho (k := k) (by show k < csz (arP (mI M) c o k i) o; rw [he]; exact hk) (by omega)
      rw [mI_mW] at this
      rw [this, arP_ne (by omega)]
    refine X_run (C := [(i_C_cell, e_C_cell)]) (S := [20]) 100 k_C_addRowOf (okE_cons (ok_C_cell Z d) okE_nil) ?_
    simp (disch := first | trivial | assumption | omega) only [run, go, jmp, seek, inS, e0, e1, e2, e3, e4, e5, tsw, e7, e8, e9, e10, e11, e12, splitA, rcv, clook, lget, lset, lset2, lkill, Option.toList, List.nil_append, List.cons_append, wsum, List.map_cons, List.map_nil, List.sum_cons, List.sum_nil, Value.category, Nat.reduceAdd, List.getD_cons_zero, List.getD_cons_succ, ↓reduceIte, if_true, if_false, Bool.false_eq_true, Nat.reduceLeDiff, Nat.reduceEqDiff, true_or, or_true, true_and, and_true, and_self, or_self, not_true, not_false_iff, mR_stI, mN_stI, isO_stI, isA_stI, mI_stI, mR_mW, mN_mW, isO_mW, isA_mW, mI_mW, mW_mW, stI_mW, nI_addL, nI_mulL, nI_subL, nI_ltL, nI_leL, nI_Llt, nI_Lle, nI_eqL, nI_Leq, nI_add, pk_mul, nI_ltI, nI_leI, nI_eq, vpi, nI_clamp, nI_toN, p_C_addRowOf, cl_o hp, cl_o hp2, cl_r0 hp, cl_a hp, pc_C_cell ho, i_C_cell, hcell, arP_1]
    rw [if_neg (by omega)]
    exact ih (i + 1) (by omega)
set_option maxRecDepth 100000 in
set_option maxHeartbeats 4000000 in
theorem ok_C_addRowOf (Z : Zt) (d : Nat) : okE Z (d + 3) i_C_addRowOf e_C_addRowOf := mk_C_addRowOf fun c o k nn M hkk hp => by
  obtain ⟨hp, hp2, hc, hk, hne⟩ := hp
  have h2 := cl_40 hp
  have hs := cl_s hp
  refine Gm_run (C := [(i_C_isFull, e_C_isFull)]) (S := [20]) [some (.ref c), some (.ref o), some (.int (nI k)), some (.int nn), none, none] 100 k_C_addRowOf (okE_cons (ok_C_isFull Z (d + 1)) okE_nil) (ex_n rfl) ?_
  simp (disch := first | trivial | assumption | omega) only [run, go, jmp, seek, inS, e0, e1, e2, e3, e4, e5, tsw, e7, e8, e9, e10, e11, e12, splitA, rcv, clook, lget, lset, lset2, lkill, Option.toList, List.nil_append, List.cons_append, wsum, List.map_cons, List.map_nil, List.sum_cons, List.sum_nil, Value.category, Nat.reduceAdd, List.getD_cons_zero, List.getD_cons_succ, ↓reduceIte, if_true, if_false, Bool.false_eq_true, Nat.reduceLeDiff, Nat.reduceEqDiff, true_or, or_true, true_and, and_true, and_self, or_self, not_true, not_false_iff, mR_stI, mN_stI, isO_stI, isA_stI, mI_stI, mR_mW, mN_mW, isO_mW, isA_mW, mI_mW, mW_mW, stI_mW, nI_addL, nI_mulL, nI_subL, nI_ltL, nI_leL, nI_Llt, nI_Lle, nI_eqL, nI_Leq, nI_add, pk_mul, nI_ltI, nI_leI, nI_eq, vpi, nI_clamp, nI_toN, p_C_addRowOf, cl_o hp, cl_r0 hp, hs, pc_C_isFull, i_C_isFull, bv_0]
  rw [if_pos (by omega)]
  have := lp_C_addRowOf Z d (nn := nn) hp hp2 hc hk hne 5 0 rfl
  rw [arP_0] at this
  exact this
def crF (f : Nat → Nat → Int32) (c o n : Nat) : Nat → Nat → Int32 := u2 (cpA f (o + 1) (c + 1) n) c 2 (f o 2)
def e_C_copyRows : Ent := (fun av M => ∃ (c : Nat) (o : Nat), av = [.ref c, .ref o] ∧ (ClOk M c ∧ ClOk M o ∧ ccap c = ccap o), fun av M r_ M_ => ∀ (c : Nat) (o : Nat), av = [.ref c, .ref o] → r_ = (none) ∧ M_ = (mW M (crF (mI M) c o (ccap c * 6))))
theorem pc_C_copyRows {c : Nat} {o : Nat} {M : Mem} {K : Option Value → Mem → Prop} (hp : ClOk M c ∧ ClOk M o ∧ ccap c = ccap o) : pcall e_C_copyRows [.ref c, .ref o] M K = K (none) (mW M (crF (mI M) c o (ccap c * 6))) := propext ⟨fun h => h.2 _ _ (fun c' o' e => by simp only [List.cons.injEq, Value.ref.injEq, Value.int.injEq, Value.long.injEq, and_true] at e; obtain ⟨q0, q1⟩ := e; obtain rfl := q0; obtain rfl := q1; exact ⟨rfl, rfl⟩), fun h => ⟨⟨c, o, rfl, hp⟩, fun r_ M_ q => by obtain ⟨rfl, rfl⟩ := q _ _ rfl; exact h⟩⟩
theorem mk_C_copyRows {Z : Zt} {d : Nat} (h : ∀ (c : Nat) (o : Nat) (M : Mem), (ClOk M c ∧ ClOk M o ∧ ccap c = ccap o) → Gm Z d s_C_copyRows [.ref c, .ref o] M (ex (none) (mW M (crF (mI M) c o (ccap c * 6))))) : okE Z d i_C_copyRows e_C_copyRows := by
  rintro av M ⟨c, o, rfl, hp⟩
  exact Gm.cons (h c o M  hp) (fun r_ M_ q c' o' e => by simp only [List.cons.injEq, Value.ref.injEq, Value.int.injEq, Value.long.injEq, and_true] at e; obtain ⟨q0, q1⟩ := e; obtain rfl := q0; obtain rfl := q1; exact q)
set_option maxRecDepth 100000 in
set_option maxHeartbeats 4000000 in
theorem ok_C_copyRows (Z : Zt) (d : Nat) : okE Z (d + 2) i_C_copyRows e_C_copyRows := mk_C_copyRows fun c o M hp => by
  obtain ⟨hp, hp2, hc⟩ := hp
  have h2 := cl_40 hp
  have hne := cl_ne1 hp hp2
  have hk1 : kd (c + 1) = (1, ccap c * 6) := Prod.ext hp.2.2.1 hp.2.2.2.1
  have hk2 : kd (o + 1) = (1, ccap c * 6) := by rw [hc]; exact Prod.ext hp2.2.2.1 hp2.2.2.2.1
  have hl1 := hp.2.1
  have hl2 := hp2.2.1
  refine Gm_run (C := [(i_B_copy, e_B_copy)]) (S := []) [some (.ref c), some (.ref o)] 100 k_C_copyRows (okE_cons (ok_B_copy Z d) okE_nil) (ex_n rfl) ?_
  simp only [run, go, jmp, seek, inS, e0, e1, e2, e3, e4, e5, tsw, e7, e8, e9, e10, e11, e12, splitA, rcv, clook, lget, lset, lset2, lkill, Option.toList, List.nil_append, List.cons_append, wsum, List.map_cons, List.map_nil, List.sum_cons, List.sum_nil, Value.category, Nat.reduceAdd, List.getD_cons_zero, List.getD_cons_succ, ↓reduceIte, if_true, if_false, Bool.false_eq_true, Nat.reduceLeDiff, Nat.reduceEqDiff, true_or, or_true, true_and, and_true, and_self, or_self, not_true, not_false_iff, mR_stI, mN_stI, isO_stI, isA_stI, mI_stI, mR_mW, mN_mW, isO_mW, isA_mW, mI_mW, mW_mW, stI_mW, p_C_copyRows, cl_o hp, cl_o hp2, cl_r0 hp, cl_r0 hp2, i_B_copy, pc_B_copy (a := o + 1) (b := c + 1) (M := M) ⟨hl2, hl1, by rw [hk2], by rw [hk1, hk2], by rw [hk2]; omega⟩]
  refine ⟨rfl, ?_⟩
  rw [hk2]
  have : cpA (mI M) (o + 1) (c + 1) (ccap c * 6) o 2 = mI M o 2 := by
    unfold cpA
    rw [if_neg (fun q => hne q.1)]
  rw [this]
  rfl
/-! ===== a ledger: fifteen cells from b on ===== -/
def lnT (f : Nat → Nat → Int32) (b : Nat) : Nat := (f b 13).toNatClampNeg
def lnB (f : Nat → Nat → Int32) (b : Nat) : Nat := (f b 12).toNatClampNeg
def LedS (M : Mem) (b : Nat) : Prop := b + 14 < mN M ∧ (∀ j, j < 15 → kd (b + j) = ledK.getD j (0, 0)) ∧ (∀ j, j < 9 → mR M b j = b + 1 + j) ∧ mR M b 9 = b + 10 ∧ mR M b 10 = b + 12 ∧ mR M b 11 = b + 14 ∧ mR M (b + 10) 0 = b + 11 ∧ mR M (b + 10) 1 = 40 ∧ mR M (b + 12) 0 = b + 13 ∧ mR M (b + 12) 1 = 24
def LedD (f : Nat → Nat → Int32) (b : Nat) : Prop := f (b + 10) 2 = nI (csz f (b + 10)) ∧ csz f (b + 10) ≤ 40 ∧ f (b + 12) 2 = nI (csz f (b + 12)) ∧ csz f (b + 12) ≤ 24 ∧ f b 13 = nI (lnT f b) ∧ lnT f b ≤ 6 ∧ f b 12 = nI (lnB f b) ∧ lnB f b ≤ 6
theorem ld_o {M : Mem} {b : Nat} (h : LedS M b) : isO M b 2 = True := eq_true ⟨by have := h.1; omega, by have := h.2.1 0 (by omega); rw [Nat.add_zero] at this; rw [this]; rfl, by have := h.2.1 0 (by omega); rw [Nat.add_zero] at this; rw [this]; rfl⟩
theorem ld_og {M : Mem} {b : Nat} (h : LedS M b) : isO M (b + 10) 0 = True := eq_true ⟨by have := h.1; omega, by rw [h.2.1 10 (by omega)]; rfl, by rw [h.2.1 10 (by omega)]; rfl⟩
theorem ld_od {M : Mem} {b : Nat} (h : LedS M b) : isO M (b + 12) 0 = True := eq_true ⟨by have := h.1; omega, by rw [h.2.1 12 (by omega)]; rfl, by rw [h.2.1 12 (by omega)]; rfl⟩
theorem ld_r9 {M : Mem} {b : Nat} (h : LedS M b) : mR M b 9 = b + 10 := h.2.2.2.1
theorem ld_r10 {M : Mem} {b : Nat} (h : LedS M b) : mR M b 10 = b + 12 := h.2.2.2.2.1
theorem ld_r11 {M : Mem} {b : Nat} (h : LedS M b) : mR M b 11 = b + 14 := h.2.2.2.2.2.1
theorem ld_r0 {M : Mem} {b : Nat} (h : LedS M b) : mR M b 0 = b + 1 := by rw [h.2.2.1 0 (by omega)]
theorem ld_r1 {M : Mem} {b : Nat} (h : LedS M b) : mR M b 1 = b + 2 := by rw [h.2.2.1 1 (by omega)]
theorem ld_r2 {M : Mem} {b : Nat} (h : LedS M b) : mR M b 2 = b + 3 := by rw [h.2.2.1 2 (by omega)]
theorem ld_r3 {M : Mem} {b : Nat} (h : LedS M b) : mR M b 3 = b + 4 := by rw [h.2.2.1 3 (by omega)]
theorem ld_r4 {M : Mem} {b : Nat} (h : LedS M b) : mR M b 4 = b + 5 := by rw [h.2.2.1 4 (by omega)]
theorem ld_r5 {M : Mem} {b : Nat} (h : LedS M b) : mR M b 5 = b + 6 := by rw [h.2.2.1 5 (by omega)]
theorem ld_r6 {M : Mem} {b : Nat} (h : LedS M b) : mR M b 6 = b + 7 := by rw [h.2.2.1 6 (by omega)]
theorem ld_r7 {M : Mem} {b : Nat} (h : LedS M b) : mR M b 7 = b + 8 := by rw [h.2.2.1 7 (by omega)]
theorem ld_r8 {M : Mem} {b : Nat} (h : LedS M b) : mR M b 8 = b + 9 := by rw [h.2.2.1 8 (by omega)]
theorem ld_k1 {M : Mem} {b : Nat} (h : LedS M b) : kd (b + 1) = (1, 4) := h.2.1 1 (by omega)
theorem ld_l1 {M : Mem} {b : Nat} (h : LedS M b) : (b + 1 < mN M) = True := eq_true (by have := h.1; omega)
theorem ld_a1 {M : Mem} {b k : Nat} (h : LedS M b) (hk : k < 4) : isA M (b + 1) (nI k) = True := eq_true ⟨by have := h.1; omega, by rw [ld_k1 h], by rw [ld_k1 h]; exact vp_in_nI hk (by omega)⟩
theorem ld_k2 {M : Mem} {b : Nat} (h : LedS M b) : kd (b + 2) = (1, 4) := h.2.1 2 (by omega)
theorem ld_l2 {M : Mem} {b : Nat} (h : LedS M b) : (b + 2 < mN M) = True := eq_true (by have := h.1; omega)
theorem ld_a2 {M : Mem} {b k : Nat} (h : LedS M b) (hk : k < 4) : isA M (b + 2) (nI k) = True := eq_true ⟨by have := h.1; omega, by rw [ld_k2 h], by rw [ld_k2 h]; exact vp_in_nI hk (by omega)⟩
theorem ld_k3 {M : Mem} {b : Nat} (h : LedS M b) : kd (b + 3) = (1, 4) := h.2.1 3 (by omega)
theorem ld_l3 {M : Mem} {b : Nat} (h : LedS M b) : (b + 3 < mN M) = True := eq_true (by have := h.1; omega)
theorem ld_a3 {M : Mem} {b k : Nat} (h : LedS M b) (hk : k < 4) : isA M (b + 3) (nI k) = True := eq_true ⟨by have := h.1; omega, by rw [ld_k3 h], by rw [ld_k3 h]; exact vp_in_nI hk (by omega)⟩
theorem ld_k4 {M : Mem} {b : Nat} (h : LedS M b) : kd (b + 4) = (1, 6) := h.2.1 4 (by omega)
theorem ld_l4 {M : Mem} {b : Nat} (h : LedS M b) : (b + 4 < mN M) = True := eq_true (by have := h.1; omega)
theorem ld_a4 {M : Mem} {b k : Nat} (h : LedS M b) (hk : k < 6) : isA M (b + 4) (nI k) = True := eq_true ⟨by have := h.1; omega, by rw [ld_k4 h], by rw [ld_k4 h]; exact vp_in_nI hk (by omega)⟩
theorem ld_k5 {M : Mem} {b : Nat} (h : LedS M b) : kd (b + 5) = (1, 6) := h.2.1 5 (by omega)
theorem ld_l5 {M : Mem} {b : Nat} (h : LedS M b) : (b + 5 < mN M) = True := eq_true (by have := h.1; omega)
theorem ld_a5 {M : Mem} {b k : Nat} (h : LedS M b) (hk : k < 6) : isA M (b + 5) (nI k) = True := eq_true ⟨by have := h.1; omega, by rw [ld_k5 h], by rw [ld_k5 h]; exact vp_in_nI hk (by omega)⟩
theorem ld_k6 {M : Mem} {b : Nat} (h : LedS M b) : kd (b + 6) = (1, 6) := h.2.1 6 (by omega)
theorem ld_l6 {M : Mem} {b : Nat} (h : LedS M b) : (b + 6 < mN M) = True := eq_true (by have := h.1; omega)
theorem ld_a6 {M : Mem} {b k : Nat} (h : LedS M b) (hk : k < 6) : isA M (b + 6) (nI k) = True := eq_true ⟨by have := h.1; omega, by rw [ld_k6 h], by rw [ld_k6 h]; exact vp_in_nI hk (by omega)⟩
theorem ld_k7 {M : Mem} {b : Nat} (h : LedS M b) : kd (b + 7) = (1, 24) := h.2.1 7 (by omega)
theorem ld_l7 {M : Mem} {b : Nat} (h : LedS M b) : (b + 7 < mN M) = True := eq_true (by have := h.1; omega)
theorem ld_a7 {M : Mem} {b k : Nat} (h : LedS M b) (hk : k < 24) : isA M (b + 7) (nI k) = True := eq_true ⟨by have := h.1; omega, by rw [ld_k7 h], by rw [ld_k7 h]; exact vp_in_nI hk (by omega)⟩
theorem ld_k8 {M : Mem} {b : Nat} (h : LedS M b) : kd (b + 8) = (1, 24) := h.2.1 8 (by omega)
theorem ld_l8 {M : Mem} {b : Nat} (h : LedS M b) : (b + 8 < mN M) = True := eq_true (by have := h.1; omega)
theorem ld_a8 {M : Mem} {b k : Nat} (h : LedS M b) (hk : k < 24) : isA M (b + 8) (nI k) = True := eq_true ⟨by have := h.1; omega, by rw [ld_k8 h], by rw [ld_k8 h]; exact vp_in_nI hk (by omega)⟩
theorem ld_k9 {M : Mem} {b : Nat} (h : LedS M b) : kd (b + 9) = (1, 24) := h.2.1 9 (by omega)
theorem ld_l9 {M : Mem} {b : Nat} (h : LedS M b) : (b + 9 < mN M) = True := eq_true (by have := h.1; omega)
theorem ld_a9 {M : Mem} {b k : Nat} (h : LedS M b) (hk : k < 24) : isA M (b + 9) (nI k) = True := eq_true ⟨by have := h.1; omega, by rw [ld_k9 h], by rw [ld_k9 h]; exact vp_in_nI hk (by omega)⟩
theorem ld_k11 {M : Mem} {b : Nat} (h : LedS M b) : kd (b + 11) = (1, 240) := h.2.1 11 (by omega)
theorem ld_l11 {M : Mem} {b : Nat} (h : LedS M b) : (b + 11 < mN M) = True := eq_true (by have := h.1; omega)
theorem ld_a11 {M : Mem} {b k : Nat} (h : LedS M b) (hk : k < 240) : isA M (b + 11) (nI k) = True := eq_true ⟨by have := h.1; omega, by rw [ld_k11 h], by rw [ld_k11 h]; exact vp_in_nI hk (by omega)⟩
theorem ld_k13 {M : Mem} {b : Nat} (h : LedS M b) : kd (b + 13) = (1, 144) := h.2.1 13 (by omega)
theorem ld_l13 {M : Mem} {b : Nat} (h : LedS M b) : (b + 13 < mN M) = True := eq_true (by have := h.1; omega)
theorem ld_a13 {M : Mem} {b k : Nat} (h : LedS M b) (hk : k < 144) : isA M (b + 13) (nI k) = True := eq_true ⟨by have := h.1; omega, by rw [ld_k13 h], by rw [ld_k13 h]; exact vp_in_nI hk (by omega)⟩
theorem ld_k14 {M : Mem} {b : Nat} (h : LedS M b) : kd (b + 14) = (1, 6) := h.2.1 14 (by omega)
theorem ld_l14 {M : Mem} {b : Nat} (h : LedS M b) : (b + 14 < mN M) = True := eq_true (by have := h.1; omega)
theorem ld_a14 {M : Mem} {b k : Nat} (h : LedS M b) (hk : k < 6) : isA M (b + 14) (nI k) = True := eq_true ⟨by have := h.1; omega, by rw [ld_k14 h], by rw [ld_k14 h]; exact vp_in_nI hk (by omega)⟩
theorem ccap_g {M : Mem} {b : Nat} (h : LedS M b) : ccap (b + 10) = 40 := by
  unfold ccap
  rw [ld_k11 h]
  rfl
theorem ccap_d {M : Mem} {b : Nat} (h : LedS M b) : ccap (b + 12) = 24 := by
  unfold ccap
  rw [ld_k13 h]
  rfl
theorem ld_cg {M : Mem} {b : Nat} (h : LedS M b) (h2 : LedD (mI M) b) : ClOk M (b + 10) := by
  have e := ccap_g h
  exact ⟨of_eq_true (ld_og h), of_eq_true (ld_l11 h), by rw [ld_k11 h], by rw [ld_k11 h, e], by omega, h.2.2.2.2.2.2.1, by rw [e]; exact h.2.2.2.2.2.2.2.1, h2.1, by rw [e]; exact h2.2.1⟩
theorem ld_cd {M : Mem} {b : Nat} (h : LedS M b) (h2 : LedD (mI M) b) : ClOk M (b + 12) := by
  have e := ccap_d h
  exact ⟨of_eq_true (ld_od h), of_eq_true (ld_l13 h), by rw [ld_k13 h], by rw [ld_k13 h, e], by omega, h.2.2.2.2.2.2.2.2.1, by rw [e]; exact h.2.2.2.2.2.2.2.2.2, h2.2.2.1, by rw [e]; exact h2.2.2.2.1⟩
def LedOk (M : Mem) (b : Nat) : Prop := LedS M b ∧ LedD (mI M) b
theorem ld_t {M : Mem} {b : Nat} (h : LedD (mI M) b) : mI M b 13 = nI (lnT (mI M) b) := h.2.2.2.2.1
theorem ld_t6 {M : Mem} {b : Nat} (h : LedD (mI M) b) : lnT (mI M) b ≤ 6 := h.2.2.2.2.2.1
theorem ld_b {M : Mem} {b : Nat} (h : LedD (mI M) b) : mI M b 12 = nI (lnB (mI M) b) := h.2.2.2.2.2.2.1
theorem ld_b6 {M : Mem} {b : Nat} (h : LedD (mI M) b) : lnB (mI M) b ≤ 6 := h.2.2.2.2.2.2.2
