/-! ===== the law's rows: which demand is next; rows that come and go ===== -/
theorem rw_swL {f : Nat → Nat → Int32} {a b : Nat} {u w : Nat → Int32} (h : b < a) : rwF (rwF f a u) b w = rwF (rwF f b w) a u := rw_sw h
theorem cpW_0 (a b : Nat → Int32) : (fun k => if k < 0 then b k else a k : Nat → Int32) = a := by
  funext k
  exact if_neg (Nat.not_lt_zero _)
/-- the first n numbers of a row taken over -/
def cpW (a b : Nat → Int32) (n : Nat) : Nat → Int32 := fun k => if k < n then b k else a k
theorem cpW_s (a b : Nat → Int32) (i : Nat) : upF (cpW a b i) i (b i) = cpW a b (i + 1) := by
  funext k
  show (if k = i then b i else if k < i then b k else a k) = if k < i + 1 then b k else a k
  by_cases h : k = i
  · rw [if_pos h, if_pos (by omega), h]
  · rw [if_neg h]
    by_cases h2 : k < i
    · rw [if_pos h2, if_pos (by omega)]
    · rw [if_neg h2, if_neg (by omega)]
def e_W_copies : Ent := (fun av M => ∃ (a : Nat) (b : Nat), av = [.ref a, .ref b] ∧ (Lw M a ∧ Lw M b ∧ a < b), fun av M r_ M_ => ∀ (a : Nat) (b : Nat), av = [.ref a, .ref b] → r_ = (none) ∧ M_ = (mW M (rwF (mI M) b (cpW (mI M b) (mI M a) 64))))
theorem pc_W_copies {a : Nat} {b : Nat} {M : Mem} {K : Option Value → Mem → Prop} (hp : Lw M a ∧ Lw M b ∧ a < b) : pcall e_W_copies [.ref a, .ref b] M K = K (none) (mW M (rwF (mI M) b (cpW (mI M b) (mI M a) 64))) := propext ⟨fun h => h.2 _ _ (fun a' b' e => by simp only [List.cons.injEq, Value.ref.injEq, Value.int.injEq, Value.long.injEq, and_true] at e; obtain ⟨q0, q1⟩ := e; obtain rfl := q0; obtain rfl := q1; exact ⟨rfl, rfl⟩), fun h => ⟨⟨a, b, rfl, hp⟩, fun r_ M_ q => by obtain ⟨rfl, rfl⟩ := q _ _ rfl; exact h⟩⟩
theorem mk_W_copies {Z : Zt} {d : Nat} (h : ∀ (a : Nat) (b : Nat) (M : Mem), (Lw M a ∧ Lw M b ∧ a < b) → Gm Z d s_W_copies [.ref a, .ref b] M (ex (none) (mW M (rwF (mI M) b (cpW (mI M b) (mI M a) 64))))) : okE Z d i_W_copies e_W_copies := by
  rintro av M ⟨a, b, rfl, hp⟩
  exact Gm.cons (h a b M  hp) (fun r_ M_ q a' b' e => by simp only [List.cons.injEq, Value.ref.injEq, Value.int.injEq, Value.long.injEq, and_true] at e; obtain ⟨q0, q1⟩ := e; obtain rfl := q0; obtain rfl := q1; exact q)
def C_W_copies : List (Nat × Ent) := []
abbrev S_W_copies : List Nat := [2]
def t_W_copies_20 : List PI := (20, 9, 5, 0, 0, 0, []) :: []
def t_W_copies_8 : List PI := (8, 1, 1, 1, 0, 0, []) :: (9, 1, 0, 2, 0, 0, []) :: (10, 1, 1, 0, 0, 0, []) :: (11, 1, 0, 2, 0, 0, []) :: (12, 8, 4, 0, 0, 0, []) :: (13, 10, 4, 0, 0, 0, []) :: (14, 1, 6, 2, 0, 1, []) :: (17, 6, 0, 2, 0, 0, []) :: t_W_copies_20
def t_W_copies_2 : List PI := (2, 1, 0, 2, 0, 0, []) :: (3, 0, 0, 0, 1, 64, []) :: (5, 4, 3, 20, 0, 0, []) :: t_W_copies_8
def t_W_copies_0 : List PI := (0, 0, 0, 0, 0, 0, []) :: (1, 1, 3, 2, 0, 0, []) :: t_W_copies_2
theorem kt_W_copies : okP s_W_copies t_W_copies_0 := k_W_copies
theorem g_W_copies_0 {Z : Zt} {nF f : Nat} {Kx : Nat → Kt} {Q : Option Value → Mem → Prop} {M : Mem} {x1 : Nat} {x2 : Nat} : run Z nF C_W_copies S_W_copies Kx Q (f + 2) t_W_copies_0 [some (.ref (x1)), some (.ref (x2)), none] [] M = (Kx 2 [some (.ref (x1)), some (.ref (x2)), some (.int ((nI 0)))] [] (M)) := id rfl
theorem g_W_copies_2 {Z : Zt} {nF f : Nat} {Kx : Nat → Kt} {Q : Option Value → Mem → Prop} {M : Mem} {x1 : Nat} {x2 : Nat} {x3 : Int32} : run Z nF C_W_copies S_W_copies Kx Q (f + 3) t_W_copies_2 [some (.ref (x1)), some (.ref (x2)), some (.int (x3))] [] M = ((if ((nI 64)) ≤ (x3) then run Z nF C_W_copies S_W_copies Kx Q f t_W_copies_20 [some (.ref (x1)), some (.ref (x2)), some (.int (x3))] [] (M) else run Z nF C_W_copies S_W_copies Kx Q f t_W_copies_8 [some (.ref (x1)), some (.ref (x2)), some (.int (x3))] [] (M))) := id rfl
theorem g_W_copies_8 {Z : Zt} {nF f : Nat} {Kx : Nat → Kt} {Q : Option Value → Mem → Prop} {M : Mem} {x1 : Nat} {x2 : Nat} {x3 : Int32} : run Z nF C_W_copies S_W_copies Kx Q (f + 8) t_W_copies_8 [some (.ref (x1)), some (.ref (x2)), some (.int (x3))] [] M = (isA (M) (x1) (x3) ∧ isA (M) (x2) (x3) ∧ Kx 2 [some (.ref (x1)), some (.ref (x2)), some (.int (x3 + (nI 1)))] [] (stI (M) (x2) (Int32.toNatClampNeg (x3)) (mI (M) (x1) (Int32.toNatClampNeg (x3))))) := id rfl
theorem g_W_copies_20 {Z : Zt} {nF f : Nat} {Kx : Nat → Kt} {Q : Option Value → Mem → Prop} {M : Mem} {x1 : Nat} {x2 : Nat} {x3 : Int32} : run Z nF C_W_copies S_W_copies Kx Q (f + 1) t_W_copies_20 [some (.ref (x1)), some (.ref (x2)), some (.int (x3))] [] M = (Q none (M)) := id rfl
set_option maxRecDepth 100000 in
set_option maxHeartbeats 4000000 in
theorem lp_W_copies (Z : Zt) (d : Nat) {M : Mem} {a b : Nat} (ha : Lw M a) (hb : Lw M b) (hab : a < b) : ∀ n i, i + n = 64 → X Z (d + 1) s_W_copies (mN M) (mN M) (ex none (mW M (rwF (mI M) b (cpW (mI M b) (mI M a) 64)))) 2 [some (.ref a), some (.ref b), some (.int (nI i))] [] (mW M (rwF (mI M) b (cpW (mI M b) (mI M a) i))) := by
  have hne : a ≠ b := by omega
  intro n
  induction n with
  | zero =>
    intro i hi
    obtain rfl : i = 64 := by omega
    refine X_runT (C := C_W_copies) (S := S_W_copies) (T := t_W_copies_2) 1000 kt_W_copies okE_nil ?_
    simp (maxSteps := 3000000) (disch := first | exact True.intro | assumption | omega) only [↓eq_self, Option.toList_some, Option.toList_none, List.nil_append, List.cons_append, wsum_0, wsum_1, wsum_2, wsum_3, wsum_4, lkill, ↓reduceIte, if_true, if_false, Bool.false_eq_true, and_true, true_and, and_self, or_self, true_or, or_true, not_true, not_false_iff, mR_stI, mN_stI, isO_stI, isA_stI, mI_stI, mR_mW, mN_mW, isO_mW, isA_mW, mI_mW, mW_mW, stI_mW, vp_0, nI_add, nI_ltI, nI_leI, nI_eq, vpi, nI_clamp, nI_toN, nI_geT, pk_mul, pk_sub, bv_0n, bv_1n, ↓bv_01n, n01a, n01b, Nat.reduceSub, Nat.reduceAdd, Nat.reduceMul, u2_rw, rw_rw, rw_at, rw_ne, up_at, up_ne, Nat.zero_add, Nat.add_zero, lw_mW, m1_lt0, ite_nt, ↓g_W_copies_0, ↓g_W_copies_2, ↓g_W_copies_8, ↓g_W_copies_20, Nat.le_refl]
    exact ⟨rfl, rfl⟩
  | succ n ih =>
    intro i hi
    have h1 : ¬ 64 ≤ i := by omega
    refine X_runT (C := C_W_copies) (S := S_W_copies) (T := t_W_copies_2) 1000 kt_W_copies okE_nil ?_
    simp (maxSteps := 3000000) (disch := first | exact True.intro | assumption | omega) only [↓eq_self, Option.toList_some, Option.toList_none, List.nil_append, List.cons_append, wsum_0, wsum_1, wsum_2, wsum_3, wsum_4, lkill, ↓reduceIte, if_true, if_false, Bool.false_eq_true, and_true, true_and, and_self, or_self, true_or, or_true, not_true, not_false_iff, mR_stI, mN_stI, isO_stI, isA_stI, mI_stI, mR_mW, mN_mW, isO_mW, isA_mW, mI_mW, mW_mW, stI_mW, vp_0, nI_add, nI_ltI, nI_leI, nI_eq, vpi, nI_clamp, nI_toN, nI_geT, pk_mul, pk_sub, bv_0n, bv_1n, ↓bv_01n, n01a, n01b, Nat.reduceSub, Nat.reduceAdd, Nat.reduceMul, u2_rw, rw_rw, rw_at, rw_ne, up_at, up_ne, Nat.zero_add, Nat.add_zero, lw_mW, m1_lt0, ite_nt, ↓g_W_copies_0, ↓g_W_copies_2, ↓g_W_copies_8, ↓g_W_copies_20, h1, lwA ha, lwA hb, rw_ne hne, cpW_s]
    exact ih (i + 1) (by omega)
set_option maxRecDepth 100000 in
set_option maxHeartbeats 4000000 in
theorem ok_W_copies (Z : Zt) (d : Nat) : okE Z (d + 1) i_W_copies e_W_copies := mk_W_copies fun a b M hp => by
  obtain ⟨ha, hb, hab⟩ := hp
  refine Gm_run (C := C_W_copies) (S := S_W_copies) [some (.ref a), some (.ref b), none] 1000 kt_W_copies okE_nil (ex_n rfl) ?_
  simp (maxSteps := 3000000) (disch := first | exact True.intro | assumption | omega) only [↓eq_self, Option.toList_some, Option.toList_none, List.nil_append, List.cons_append, wsum_0, wsum_1, wsum_2, wsum_3, wsum_4, lkill, ↓reduceIte, if_true, if_false, Bool.false_eq_true, and_true, true_and, and_self, or_self, true_or, or_true, not_true, not_false_iff, mR_stI, mN_stI, isO_stI, isA_stI, mI_stI, mR_mW, mN_mW, isO_mW, isA_mW, mI_mW, mW_mW, stI_mW, vp_0, nI_add, nI_ltI, nI_leI, nI_eq, vpi, nI_clamp, nI_toN, nI_geT, pk_mul, pk_sub, bv_0n, bv_1n, ↓bv_01n, n01a, n01b, Nat.reduceSub, Nat.reduceAdd, Nat.reduceMul, u2_rw, rw_rw, rw_at, rw_ne, up_at, up_ne, Nat.zero_add, Nat.add_zero, lw_mW, m1_lt0, ite_nt, ↓g_W_copies_0, ↓g_W_copies_2, ↓g_W_copies_8, ↓g_W_copies_20]
  have := lp_W_copies Z d ha hb hab 64 0 rfl
  rw [show cpW (mI M b) (mI M a) 0 = mI M b from cpW_0 _ _, rwF_self] at this
  exact this
/-- a row of demands that loses its k-th -/
def drP (w : Nat → Int32) (k i : Nat) : Nat → Int32 := fun y => if y = 63 then nI (wn w - 1) else if k ≤ y ∧ y < i then w (y + 1) else w y
def drW (w : Nat → Int32) (k : Nat) : Nat → Int32 := drP w k (wn w - 1)
theorem drP_63 (w : Nat → Int32) (k i : Nat) : drP w k i 63 = nI (wn w - 1) := if_pos rfl
theorem drP_hi {w : Nat → Int32} {k i y : Nat} (h : i ≤ y) (h2 : y ≠ 63) : drP w k i y = w y := by
  unfold drP
  rw [if_neg h2, if_neg (by omega)]
theorem drP_0 (w : Nat → Int32) (k : Nat) : upF w 63 (nI (wn w - 1)) = drP w k k := by
  funext y
  unfold upF drP
  by_cases h : y = 63
  · rw [if_pos h, if_pos h]
  · rw [if_neg h, if_neg h, if_neg (by omega)]
theorem drP_s {w : Nat → Int32} {k i : Nat} (hk : k ≤ i) (hi : i < 63) : upF (drP w k i) i (w (i + 1)) = drP w k (i + 1) := by
  funext y
  unfold upF drP
  by_cases h : y = i
  · rw [if_pos h, if_neg (by omega), if_pos (by omega), h]
  · rw [if_neg h]
    by_cases h3 : y = 63
    · rw [if_pos h3, if_pos h3]
    · rw [if_neg h3, if_neg h3]
      by_cases h4 : k ≤ y ∧ y < i
      · rw [if_pos h4, if_pos (by omega)]
      · rw [if_neg h4, if_neg (by omega)]
def e_W_drops : Ent := (fun av M => ∃ (a : Nat) (k : Nat), av = [.ref a, .int (nI k)] ∧ k < 2 ^ 31 ∧ (Lw M a ∧ WnD (mI M a) 40 ∧ k < wn (mI M a)), fun av M r_ M_ => ∀ (a : Nat) (k : Nat), k < 2 ^ 31 → av = [.ref a, .int (nI k)] → r_ = (none) ∧ M_ = (mW M (rwF (mI M) a (drW (mI M a) k))))
theorem pc_W_drops {a : Nat} {k : Nat} {M : Mem} {K : Option Value → Mem → Prop} (hp : Lw M a ∧ WnD (mI M a) 40 ∧ k < wn (mI M a)) (h_k : k < 2 ^ 31) : pcall e_W_drops [.ref a, .int (nI k)] M K = K (none) (mW M (rwF (mI M) a (drW (mI M a) k))) := propext ⟨fun h => h.2 _ _ (fun a' k' h_k' e => by simp only [List.cons.injEq, Value.ref.injEq, Value.int.injEq, Value.long.injEq, and_true] at e; obtain ⟨q0, q1⟩ := e; obtain rfl := q0; obtain rfl := (nI_eq h_k h_k').mp q1; exact ⟨rfl, rfl⟩), fun h => ⟨⟨a, k, rfl, h_k, hp⟩, fun r_ M_ q => by obtain ⟨rfl, rfl⟩ := q _ _ h_k rfl; exact h⟩⟩
theorem mk_W_drops {Z : Zt} {d : Nat} (h : ∀ (a : Nat) (k : Nat) (M : Mem), k < 2 ^ 31 → (Lw M a ∧ WnD (mI M a) 40 ∧ k < wn (mI M a)) → Gm Z d s_W_drops [.ref a, .int (nI k)] M (ex (none) (mW M (rwF (mI M) a (drW (mI M a) k))))) : okE Z d i_W_drops e_W_drops := by
  rintro av M ⟨a, k, rfl, h_k, hp⟩
  exact Gm.cons (h a k M h_k hp) (fun r_ M_ q a' k' h_k' e => by simp only [List.cons.injEq, Value.ref.injEq, Value.int.injEq, Value.long.injEq, and_true] at e; obtain ⟨q0, q1⟩ := e; obtain rfl := q0; obtain rfl := (nI_eq h_k h_k').mp q1; exact q)
def C_W_drops : List (Nat × Ent) := []
abbrev S_W_drops : List Nat := [10]
def t_W_drops_32 : List PI := (32, 9, 5, 0, 0, 0, []) :: []
def t_W_drops_18 : List PI := (18, 1, 1, 0, 0, 0, []) :: (19, 1, 0, 2, 0, 0, []) :: (20, 1, 1, 0, 0, 0, []) :: (21, 1, 0, 2, 0, 0, []) :: (22, 0, 0, 0, 0, 1, []) :: (23, 2, 0, 0, 0, 0, []) :: (24, 8, 4, 0, 0, 0, []) :: (25, 10, 4, 0, 0, 0, []) :: (26, 1, 6, 2, 0, 1, []) :: (29, 6, 0, 10, 0, 0, []) :: t_W_drops_32
def t_W_drops_10 : List PI := (10, 1, 0, 2, 0, 0, []) :: (11, 1, 1, 0, 0, 0, []) :: (12, 0, 0, 0, 1, 63, []) :: (14, 8, 4, 0, 0, 0, []) :: (15, 4, 3, 32, 0, 0, []) :: t_W_drops_18
def t_W_drops_0 : List PI := (0, 1, 1, 0, 0, 0, []) :: (1, 0, 0, 0, 1, 63, []) :: (3, 7, 1, 0, 0, 0, []) :: (4, 8, 4, 0, 0, 0, []) :: (5, 0, 0, 0, 0, 1, []) :: (6, 2, 1, 0, 0, 0, []) :: (7, 10, 4, 0, 0, 0, []) :: (8, 1, 0, 1, 0, 0, []) :: (9, 1, 3, 2, 0, 0, []) :: t_W_drops_10
theorem kt_W_drops : okP s_W_drops t_W_drops_0 := k_W_drops
theorem g_W_drops_0 {Z : Zt} {nF f : Nat} {Kx : Nat → Kt} {Q : Option Value → Mem → Prop} {M : Mem} {x1 : Nat} {x2 : Int32} : run Z nF C_W_drops S_W_drops Kx Q (f + 9) t_W_drops_0 [some (.ref (x1)), some (.int (x2)), none] [] M = (isA (M) (x1) ((nI 63)) ∧ isA (M) (x1) ((nI 63)) ∧ Kx 10 [some (.ref (x1)), some (.int (x2)), some (.int (x2))] [] (stI (M) (x1) (Int32.toNatClampNeg ((nI 63))) ((mI (M) (x1) (Int32.toNatClampNeg ((nI 63)))) - ((nI 1))))) := id rfl
theorem g_W_drops_10 {Z : Zt} {nF f : Nat} {Kx : Nat → Kt} {Q : Option Value → Mem → Prop} {M : Mem} {x1 : Nat} {x2 : Int32} {x3 : Int32} : run Z nF C_W_drops S_W_drops Kx Q (f + 5) t_W_drops_10 [some (.ref (x1)), some (.int (x2)), some (.int (x3))] [] M = (isA (M) (x1) ((nI 63)) ∧ (if (mI (M) (x1) (Int32.toNatClampNeg ((nI 63)))) ≤ (x3) then run Z nF C_W_drops S_W_drops Kx Q f t_W_drops_32 [some (.ref (x1)), some (.int (x2)), some (.int (x3))] [] (M) else run Z nF C_W_drops S_W_drops Kx Q f t_W_drops_18 [some (.ref (x1)), some (.int (x2)), some (.int (x3))] [] (M))) := id rfl
theorem g_W_drops_18 {Z : Zt} {nF f : Nat} {Kx : Nat → Kt} {Q : Option Value → Mem → Prop} {M : Mem} {x1 : Nat} {x2 : Int32} {x3 : Int32} : run Z nF C_W_drops S_W_drops Kx Q (f + 10) t_W_drops_18 [some (.ref (x1)), some (.int (x2)), some (.int (x3))] [] M = (isA (M) (x1) ((x3) + ((nI 1))) ∧ isA (M) (x1) (x3) ∧ Kx 10 [some (.ref (x1)), some (.int (x2)), some (.int (x3 + (nI 1)))] [] (stI (M) (x1) (Int32.toNatClampNeg (x3)) (mI (M) (x1) (Int32.toNatClampNeg ((x3) + ((nI 1))))))) := id rfl
theorem g_W_drops_32 {Z : Zt} {nF f : Nat} {Kx : Nat → Kt} {Q : Option Value → Mem → Prop} {M : Mem} {x1 : Nat} {x2 : Int32} {x3 : Int32} : run Z nF C_W_drops S_W_drops Kx Q (f + 1) t_W_drops_32 [some (.ref (x1)), some (.int (x2)), some (.int (x3))] [] M = (Q none (M)) := id rfl
set_option maxRecDepth 100000 in
set_option maxHeartbeats 4000000 in
theorem lp_W_drops (Z : Zt) (d : Nat) {M : Mem} {a k : Nat} (ha : Lw M a) (hG : WnD (mI M a) 40) (hk : k < wn (mI M a)) : ∀ n i, i + n = wn (mI M a) - 1 → k ≤ i → X Z (d + 1) s_W_drops (mN M) (mN M) (ex none (mW M (rwF (mI M) a (drW (mI M a) k)))) 10 [some (.ref a), some (.int (nI k)), some (.int (nI i))] [] (mW M (rwF (mI M) a (drP (mI M a) k i))) := by
  obtain ⟨e63, h40⟩ := hG
  have e := fun i => drP_63 (mI M a) k i
  intro n
  induction n with
  | zero =>
    intro i hi hki
    obtain rfl : i = wn (mI M a) - 1 := by omega
    refine X_runT (C := C_W_drops) (S := S_W_drops) (T := t_W_drops_10) 1000 kt_W_drops okE_nil ?_
    simp (maxSteps := 3000000) (disch := first | exact True.intro | assumption | omega) only [↓eq_self, Option.toList_some, Option.toList_none, List.nil_append, List.cons_append, wsum_0, wsum_1, wsum_2, wsum_3, wsum_4, lkill, ↓reduceIte, if_true, if_false, Bool.false_eq_true, and_true, true_and, and_self, or_self, true_or, or_true, not_true, not_false_iff, mR_stI, mN_stI, isO_stI, isA_stI, mI_stI, mR_mW, mN_mW, isO_mW, isA_mW, mI_mW, mW_mW, stI_mW, vp_0, nI_add, nI_ltI, nI_leI, nI_eq, vpi, nI_clamp, nI_toN, nI_geT, pk_mul, pk_sub, bv_0n, bv_1n, ↓bv_01n, n01a, n01b, Nat.reduceSub, Nat.reduceAdd, Nat.reduceMul, u2_rw, rw_rw, rw_at, rw_ne, up_at, up_ne, Nat.zero_add, Nat.add_zero, lw_mW, m1_lt0, ite_nt, ↓g_W_drops_0, ↓g_W_drops_10, ↓g_W_drops_18, ↓g_W_drops_32, lwA ha, e, Nat.le_refl]
    exact ⟨rfl, rfl⟩
  | succ n ih =>
    intro i hi hki
    have h1 : ¬ wn (mI M a) - 1 ≤ i := by omega
    have e2 : drP (mI M a) k i (i + 1) = mI M a (i + 1) := drP_hi (by omega) (by omega)
    have e3 : upF (drP (mI M a) k i) i (mI M a (i + 1)) = drP (mI M a) k (i + 1) := drP_s hki (by omega)
    refine X_runT (C := C_W_drops) (S := S_W_drops) (T := t_W_drops_10) 1000 kt_W_drops okE_nil ?_
    simp (maxSteps := 3000000) (disch := first | exact True.intro | assumption | omega) only [↓eq_self, Option.toList_some, Option.toList_none, List.nil_append, List.cons_append, wsum_0, wsum_1, wsum_2, wsum_3, wsum_4, lkill, ↓reduceIte, if_true, if_false, Bool.false_eq_true, and_true, true_and, and_self, or_self, true_or, or_true, not_true, not_false_iff, mR_stI, mN_stI, isO_stI, isA_stI, mI_stI, mR_mW, mN_mW, isO_mW, isA_mW, mI_mW, mW_mW, stI_mW, vp_0, nI_add, nI_ltI, nI_leI, nI_eq, vpi, nI_clamp, nI_toN, nI_geT, pk_mul, pk_sub, bv_0n, bv_1n, ↓bv_01n, n01a, n01b, Nat.reduceSub, Nat.reduceAdd, Nat.reduceMul, u2_rw, rw_rw, rw_at, rw_ne, up_at, up_ne, Nat.zero_add, Nat.add_zero, lw_mW, m1_lt0, ite_nt, ↓g_W_drops_0, ↓g_W_drops_10, ↓g_W_drops_18, ↓g_W_drops_32, lwA ha, e, h1, e2, e3]
    exact ih (i + 1) (by omega) (by omega)
set_option maxRecDepth 100000 in
set_option maxHeartbeats 4000000 in
theorem ok_W_drops (Z : Zt) (d : Nat) : okE Z (d + 1) i_W_drops e_W_drops := mk_W_drops fun a k M h1 hp => by
  obtain ⟨ha, hG, hk⟩ := hp
  have e63 := hG.1
  have e3 := drP_0 (mI M a) k
  refine Gm_run (C := C_W_drops) (S := S_W_drops) [some (.ref a), some (.int (nI k)), none] 1000 kt_W_drops okE_nil (ex_n rfl) ?_
  have hk1 : 1 ≤ wn (mI M a) := by omega
  simp (maxSteps := 3000000) (disch := first | exact True.intro | assumption | omega) only [↓eq_self, Option.toList_some, Option.toList_none, List.nil_append, List.cons_append, wsum_0, wsum_1, wsum_2, wsum_3, wsum_4, lkill, ↓reduceIte, if_true, if_false, Bool.false_eq_true, and_true, true_and, and_self, or_self, true_or, or_true, not_true, not_false_iff, mR_stI, mN_stI, isO_stI, isA_stI, mI_stI, mR_mW, mN_mW, isO_mW, isA_mW, mI_mW, mW_mW, stI_mW, vp_0, nI_add, nI_ltI, nI_leI, nI_eq, vpi, nI_clamp, nI_toN, nI_geT, pk_mul, pk_sub, bv_0n, bv_1n, ↓bv_01n, n01a, n01b, Nat.reduceSub, Nat.reduceAdd, Nat.reduceMul, u2_rw, rw_rw, rw_at, rw_ne, up_at, up_ne, Nat.zero_add, Nat.add_zero, lw_mW, m1_lt0, ite_nt, ↓g_W_drops_0, ↓g_W_drops_10, ↓g_W_drops_18, ↓g_W_drops_32, lwA ha, e63, e3]
  exact lp_W_drops Z d ha hG hk (wn (mI M a) - 1 - k) k (by omega) (Nat.le_refl _)
/-- a row of grants that loses its k-th, with its number -/
def enP (w : Nat → Int32) (k i : Nat) : Nat → Int32 := fun y => if y = 63 then nI (wn w - 1) else if (k ≤ y ∧ y < i) ∨ (40 + k ≤ y ∧ y < 40 + i) then w (y + 1) else w y
def enW (w : Nat → Int32) (k : Nat) : Nat → Int32 := enP w k (wn w - 1)
theorem enP_63 (w : Nat → Int32) (k i : Nat) : enP w k i 63 = nI (wn w - 1) := if_pos rfl
theorem enP_o {w : Nat → Int32} {k i y : Nat} (h : y ≠ 63) (h2 : ¬ ((k ≤ y ∧ y < i) ∨ (40 + k ≤ y ∧ y < 40 + i))) : enP w k i y = w y := by
  unfold enP
  rw [if_neg h, if_neg h2]
theorem enP_0 (w : Nat → Int32) (k : Nat) : upF w 63 (nI (wn w - 1)) = enP w k k := by
  funext y
  unfold upF enP
  by_cases h : y = 63
  · rw [if_pos h, if_pos h]
  · rw [if_neg h, if_neg h, if_neg (by omega)]
theorem enP_s {w : Nat → Int32} {k i : Nat} (hk : k ≤ i) (hi : i < 22) : upF (upF (enP w k i) i (w (i + 1))) (40 + i) (w (41 + i)) = enP w k (i + 1) := by
  funext y
  unfold upF enP
  by_cases h : y = 40 + i
  · rw [if_pos h, if_neg (by omega), if_pos (by omega), h, show 40 + i + 1 = 41 + i by omega]
  · rw [if_neg h]
    by_cases h2 : y = i
    · rw [if_pos h2, if_neg (by omega), if_pos (by omega), h2]
    · rw [if_neg h2]
      by_cases h3 : y = 63
      · rw [if_pos h3, if_pos h3]
      · rw [if_neg h3, if_neg h3]
        by_cases h4 : (k ≤ y ∧ y < i) ∨ (40 + k ≤ y ∧ y < 40 + i)
        · rw [if_pos h4, if_pos (by omega)]
        · rw [if_neg h4, if_neg (by omega)]
def e_W_ends : Ent := (fun av M => ∃ (a : Nat) (k : Nat), av = [.ref a, .int (nI k)] ∧ k < 2 ^ 31 ∧ (Lw M a ∧ WnD (mI M a) 22 ∧ k < wn (mI M a)), fun av M r_ M_ => ∀ (a : Nat) (k : Nat), k < 2 ^ 31 → av = [.ref a, .int (nI k)] → r_ = (none) ∧ M_ = (mW M (rwF (mI M) a (enW (mI M a) k))))
theorem pc_W_ends {a : Nat} {k : Nat} {M : Mem} {K : Option Value → Mem → Prop} (hp : Lw M a ∧ WnD (mI M a) 22 ∧ k < wn (mI M a)) (h_k : k < 2 ^ 31) : pcall e_W_ends [.ref a, .int (nI k)] M K = K (none) (mW M (rwF (mI M) a (enW (mI M a) k))) := propext ⟨fun h => h.2 _ _ (fun a' k' h_k' e => by simp only [List.cons.injEq, Value.ref.injEq, Value.int.injEq, Value.long.injEq, and_true] at e; obtain ⟨q0, q1⟩ := e; obtain rfl := q0; obtain rfl := (nI_eq h_k h_k').mp q1; exact ⟨rfl, rfl⟩), fun h => ⟨⟨a, k, rfl, h_k, hp⟩, fun r_ M_ q => by obtain ⟨rfl, rfl⟩ := q _ _ h_k rfl; exact h⟩⟩
theorem mk_W_ends {Z : Zt} {d : Nat} (h : ∀ (a : Nat) (k : Nat) (M : Mem), k < 2 ^ 31 → (Lw M a ∧ WnD (mI M a) 22 ∧ k < wn (mI M a)) → Gm Z d s_W_ends [.ref a, .int (nI k)] M (ex (none) (mW M (rwF (mI M) a (enW (mI M a) k))))) : okE Z d i_W_ends e_W_ends := by
  rintro av M ⟨a, k, rfl, h_k, hp⟩
  exact Gm.cons (h a k M h_k hp) (fun r_ M_ q a' k' h_k' e => by simp only [List.cons.injEq, Value.ref.injEq, Value.int.injEq, Value.long.injEq, and_true] at e; obtain ⟨q0, q1⟩ := e; obtain rfl := q0; obtain rfl := (nI_eq h_k h_k').mp q1; exact q)
def C_W_ends : List (Nat × Ent) := []
abbrev S_W_ends : List Nat := [10]
def t_W_ends_44 : List PI := (44, 9, 5, 0, 0, 0, []) :: []
def t_W_ends_38 : List PI := (38, 1, 6, 2, 0, 1, []) :: (41, 6, 0, 10, 0, 0, []) :: t_W_ends_44
def t_W_ends_18 : List PI := (18, 1, 1, 0, 0, 0, []) :: (19, 1, 0, 2, 0, 0, []) :: (20, 1, 1, 0, 0, 0, []) :: (21, 1, 0, 2, 0, 0, []) :: (22, 0, 0, 0, 0, 1, []) :: (23, 2, 0, 0, 0, 0, []) :: (24, 8, 4, 0, 0, 0, []) :: (25, 10, 4, 0, 0, 0, []) :: (26, 1, 1, 0, 0, 0, []) :: (27, 0, 0, 0, 1, 40, []) :: (29, 1, 0, 2, 0, 0, []) :: (30, 2, 0, 0, 0, 0, []) :: (31, 1, 1, 0, 0, 0, []) :: (32, 0, 0, 0, 1, 41, []) :: (34, 1, 0, 2, 0, 0, []) :: (35, 2, 0, 0, 0, 0, []) :: (36, 8, 4, 0, 0, 0, []) :: (37, 10, 4, 0, 0, 0, []) :: t_W_ends_38
def t_W_ends_10 : List PI := (10, 1, 0, 2, 0, 0, []) :: (11, 1, 1, 0, 0, 0, []) :: (12, 0, 0, 0, 1, 63, []) :: (14, 8, 4, 0, 0, 0, []) :: (15, 4, 3, 44, 0, 0, []) :: t_W_ends_18
def t_W_ends_0 : List PI := (0, 1, 1, 0, 0, 0, []) :: (1, 0, 0, 0, 1, 63, []) :: (3, 7, 1, 0, 0, 0, []) :: (4, 8, 4, 0, 0, 0, []) :: (5, 0, 0, 0, 0, 1, []) :: (6, 2, 1, 0, 0, 0, []) :: (7, 10, 4, 0, 0, 0, []) :: (8, 1, 0, 1, 0, 0, []) :: (9, 1, 3, 2, 0, 0, []) :: t_W_ends_10
theorem kt_W_ends : okP s_W_ends t_W_ends_0 := k_W_ends
theorem g_W_ends_0 {Z : Zt} {nF f : Nat} {Kx : Nat → Kt} {Q : Option Value → Mem → Prop} {M : Mem} {x1 : Nat} {x2 : Int32} : run Z nF C_W_ends S_W_ends Kx Q (f + 9) t_W_ends_0 [some (.ref (x1)), some (.int (x2)), none] [] M = (isA (M) (x1) ((nI 63)) ∧ isA (M) (x1) ((nI 63)) ∧ Kx 10 [some (.ref (x1)), some (.int (x2)), some (.int (x2))] [] (stI (M) (x1) (Int32.toNatClampNeg ((nI 63))) ((mI (M) (x1) (Int32.toNatClampNeg ((nI 63)))) - ((nI 1))))) := id rfl
theorem g_W_ends_10 {Z : Zt} {nF f : Nat} {Kx : Nat → Kt} {Q : Option Value → Mem → Prop} {M : Mem} {x1 : Nat} {x2 : Int32} {x3 : Int32} : run Z nF C_W_ends S_W_ends Kx Q (f + 5) t_W_ends_10 [some (.ref (x1)), some (.int (x2)), some (.int (x3))] [] M = (isA (M) (x1) ((nI 63)) ∧ (if (mI (M) (x1) (Int32.toNatClampNeg ((nI 63)))) ≤ (x3) then run Z nF C_W_ends S_W_ends Kx Q f t_W_ends_44 [some (.ref (x1)), some (.int (x2)), some (.int (x3))] [] (M) else run Z nF C_W_ends S_W_ends Kx Q f t_W_ends_18 [some (.ref (x1)), some (.int (x2)), some (.int (x3))] [] (M))) := id rfl
theorem g_W_ends_18 {Z : Zt} {nF f : Nat} {Kx : Nat → Kt} {Q : Option Value → Mem → Prop} {M : Mem} {x1 : Nat} {x2 : Int32} {x3 : Int32} : run Z nF C_W_ends S_W_ends Kx Q (f + 18) t_W_ends_18 [some (.ref (x1)), some (.int (x2)), some (.int (x3))] [] M = (isA (M) (x1) ((x3) + ((nI 1))) ∧ isA (M) (x1) (x3) ∧ isA (stI (M) (x1) (Int32.toNatClampNeg (x3)) (mI (M) (x1) (Int32.toNatClampNeg ((x3) + ((nI 1)))))) (x1) (((nI 41)) + (x3)) ∧ isA (stI (M) (x1) (Int32.toNatClampNeg (x3)) (mI (M) (x1) (Int32.toNatClampNeg ((x3) + ((nI 1)))))) (x1) (((nI 40)) + (x3)) ∧ run Z nF C_W_ends S_W_ends Kx Q f t_W_ends_38 [some (.ref (x1)), some (.int (x2)), some (.int (x3))] [] (stI (stI (M) (x1) (Int32.toNatClampNeg (x3)) (mI (M) (x1) (Int32.toNatClampNeg ((x3) + ((nI 1)))))) (x1) (Int32.toNatClampNeg (((nI 40)) + (x3))) (mI (stI (M) (x1) (Int32.toNatClampNeg (x3)) (mI (M) (x1) (Int32.toNatClampNeg ((x3) + ((nI 1)))))) (x1) (Int32.toNatClampNeg (((nI 41)) + (x3)))))) := id rfl
theorem g_W_ends_38 {Z : Zt} {nF f : Nat} {Kx : Nat → Kt} {Q : Option Value → Mem → Prop} {M : Mem} {x1 : Nat} {x2 : Int32} {x3 : Int32} : run Z nF C_W_ends S_W_ends Kx Q (f + 2) t_W_ends_38 [some (.ref (x1)), some (.int (x2)), some (.int (x3))] [] M = (Kx 10 [some (.ref (x1)), some (.int (x2)), some (.int (x3 + (nI 1)))] [] (M)) := id rfl
theorem g_W_ends_44 {Z : Zt} {nF f : Nat} {Kx : Nat → Kt} {Q : Option Value → Mem → Prop} {M : Mem} {x1 : Nat} {x2 : Int32} {x3 : Int32} : run Z nF C_W_ends S_W_ends Kx Q (f + 1) t_W_ends_44 [some (.ref (x1)), some (.int (x2)), some (.int (x3))] [] M = (Q none (M)) := id rfl
set_option maxRecDepth 100000 in
set_option maxHeartbeats 4000000 in
theorem lp_W_ends (Z : Zt) (d : Nat) {M : Mem} {a k : Nat} (ha : Lw M a) (hG : WnD (mI M a) 22) (hk : k < wn (mI M a)) : ∀ n i, i + n = wn (mI M a) - 1 → k ≤ i → X Z (d + 1) s_W_ends (mN M) (mN M) (ex none (mW M (rwF (mI M) a (enW (mI M a) k)))) 10 [some (.ref a), some (.int (nI k)), some (.int (nI i))] [] (mW M (rwF (mI M) a (enP (mI M a) k i))) := by
  obtain ⟨e63, h40⟩ := hG
  have e := fun i => enP_63 (mI M a) k i
  intro n
  induction n with
  | zero =>
    intro i hi hki
    obtain rfl : i = wn (mI M a) - 1 := by omega
    refine X_runT (C := C_W_ends) (S := S_W_ends) (T := t_W_ends_10) 1000 kt_W_ends okE_nil ?_
    simp (maxSteps := 3000000) (disch := first | exact True.intro | assumption | omega) only [↓eq_self, Option.toList_some, Option.toList_none, List.nil_append, List.cons_append, wsum_0, wsum_1, wsum_2, wsum_3, wsum_4, lkill, ↓reduceIte, if_true, if_false, Bool.false_eq_true, and_true, true_and, and_self, or_self, true_or, or_true, not_true, not_false_iff, mR_stI, mN_stI, isO_stI, isA_stI, mI_stI, mR_mW, mN_mW, isO_mW, isA_mW, mI_mW, mW_mW, stI_mW, vp_0, nI_add, nI_ltI, nI_leI, nI_eq, vpi, nI_clamp, nI_toN, nI_geT, pk_mul, pk_sub, bv_0n, bv_1n, ↓bv_01n, n01a, n01b, Nat.reduceSub, Nat.reduceAdd, Nat.reduceMul, u2_rw, rw_rw, rw_at, rw_ne, up_at, up_ne, Nat.zero_add, Nat.add_zero, lw_mW, m1_lt0, ite_nt, ↓g_W_ends_0, ↓g_W_ends_10, ↓g_W_ends_18, ↓g_W_ends_38, ↓g_W_ends_44, lwA ha, e, Nat.le_refl]
    exact ⟨rfl, rfl⟩
  | succ n ih =>
    intro i hi hki
    have h1 : ¬ wn (mI M a) - 1 ≤ i := by omega
    have e2 : enP (mI M a) k i (i + 1) = mI M a (i + 1) := enP_o (by omega) (by omega)
    have e4 : enP (mI M a) k i (41 + i) = mI M a (41 + i) := enP_o (by omega) (by omega)
    have e3 : upF (upF (enP (mI M a) k i) i (mI M a (i + 1))) (40 + i) (mI M a (41 + i)) = enP (mI M a) k (i + 1) := enP_s hki (by omega)
    refine X_runT (C := C_W_ends) (S := S_W_ends) (T := t_W_ends_10) 1000 kt_W_ends okE_nil ?_
    simp (maxSteps := 3000000) (disch := first | exact True.intro | assumption | omega) only [↓eq_self, Option.toList_some, Option.toList_none, List.nil_append, List.cons_append, wsum_0, wsum_1, wsum_2, wsum_3, wsum_4, lkill, ↓reduceIte, if_true, if_false, Bool.false_eq_true, and_true, true_and, and_self, or_self, true_or, or_true, not_true, not_false_iff, mR_stI, mN_stI, isO_stI, isA_stI, mI_stI, mR_mW, mN_mW, isO_mW, isA_mW, mI_mW, mW_mW, stI_mW, vp_0, nI_add, nI_ltI, nI_leI, nI_eq, vpi, nI_clamp, nI_toN, nI_geT, pk_mul, pk_sub, bv_0n, bv_1n, ↓bv_01n, n01a, n01b, Nat.reduceSub, Nat.reduceAdd, Nat.reduceMul, u2_rw, rw_rw, rw_at, rw_ne, up_at, up_ne, Nat.zero_add, Nat.add_zero, lw_mW, m1_lt0, ite_nt, ↓g_W_ends_0, ↓g_W_ends_10, ↓g_W_ends_18, ↓g_W_ends_38, ↓g_W_ends_44, lwA ha, e, h1, e2, e4, e3]
    exact ih (i + 1) (by omega) (by omega)
set_option maxRecDepth 100000 in
set_option maxHeartbeats 4000000 in
theorem ok_W_ends (Z : Zt) (d : Nat) : okE Z (d + 1) i_W_ends e_W_ends := mk_W_ends fun a k M h1 hp => by
  obtain ⟨ha, hG, hk⟩ := hp
  have e63 := hG.1
  have h22 := hG.2
  have e3 := enP_0 (mI M a) k
  refine Gm_run (C := C_W_ends) (S := S_W_ends) [some (.ref a), some (.int (nI k)), none] 1000 kt_W_ends okE_nil (ex_n rfl) ?_
  have hk1 : 1 ≤ wn (mI M a) := by omega
  simp (maxSteps := 3000000) (disch := first | exact True.intro | assumption | omega) only [↓eq_self, Option.toList_some, Option.toList_none, List.nil_append, List.cons_append, wsum_0, wsum_1, wsum_2, wsum_3, wsum_4, lkill, ↓reduceIte, if_true, if_false, Bool.false_eq_true, and_true, true_and, and_self, or_self, true_or, or_true, not_true, not_false_iff, mR_stI, mN_stI, isO_stI, isA_stI, mI_stI, mR_mW, mN_mW, isO_mW, isA_mW, mI_mW, mW_mW, stI_mW, vp_0, nI_add, nI_ltI, nI_leI, nI_eq, vpi, nI_clamp, nI_toN, nI_geT, pk_mul, pk_sub, bv_0n, bv_1n, ↓bv_01n, n01a, n01b, Nat.reduceSub, Nat.reduceAdd, Nat.reduceMul, u2_rw, rw_rw, rw_at, rw_ne, up_at, up_ne, Nat.zero_add, Nat.add_zero, lw_mW, m1_lt0, ite_nt, ↓g_W_ends_0, ↓g_W_ends_10, ↓g_W_ends_18, ↓g_W_ends_38, ↓g_W_ends_44, lwA ha, e63, e3]
  exact lp_W_ends Z d ha hG hk (wn (mI M a) - 1 - k) k (by omega) (Nat.le_refl _)
/-- a row of grants that gets one -/
def gnW (w : Nat → Int32) (v x : Int32) : Nat → Int32 := upF (upF (upF w (wn w) v) (40 + wn w) x) 63 (nI (wn w + 1))
def grG (f : Nat → Nat → Int32) (a g y k : Nat) : Nat → Nat → Int32 := rwF (rwF (rwF f a (upF (f a) 48 (f a 48 + nI 1))) g (gnW (f g) (f y k) (f a 48))) y (drW (f y) k)
def e_W_grants : Ent := (fun av M => ∃ (a : Nat) (g : Nat) (y : Nat) (k : Nat), av = [.ref a, .ref g, .ref y, .int (nI k)] ∧ k < 2 ^ 31 ∧ (Lw M a ∧ Lw M g ∧ Lw M y ∧ a < g ∧ g < y ∧ WnD (mI M g) 21 ∧ WnD (mI M y) 40 ∧ k < wn (mI M y)), fun av M r_ M_ => ∀ (a : Nat) (g : Nat) (y : Nat) (k : Nat), k < 2 ^ 31 → av = [.ref a, .ref g, .ref y, .int (nI k)] → r_ = (some (.int (owV (mI M y k)))) ∧ M_ = (mW M (grG (mI M) a g y k)))
theorem pc_W_grants {a : Nat} {g : Nat} {y : Nat} {k : Nat} {M : Mem} {K : Option Value → Mem → Prop} (hp : Lw M a ∧ Lw M g ∧ Lw M y ∧ a < g ∧ g < y ∧ WnD (mI M g) 21 ∧ WnD (mI M y) 40 ∧ k < wn (mI M y)) (h_k : k < 2 ^ 31) : pcall e_W_grants [.ref a, .ref g, .ref y, .int (nI k)] M K = K (some (.int (owV (mI M y k)))) (mW M (grG (mI M) a g y k)) := propext ⟨fun h => h.2 _ _ (fun a' g' y' k' h_k' e => by simp only [List.cons.injEq, Value.ref.injEq, Value.int.injEq, Value.long.injEq, and_true] at e; obtain ⟨q0, q1, q2, q3⟩ := e; obtain rfl := q0; obtain rfl := q1; obtain rfl := q2; obtain rfl := (nI_eq h_k h_k').mp q3; exact ⟨rfl, rfl⟩), fun h => ⟨⟨a, g, y, k, rfl, h_k, hp⟩, fun r_ M_ q => by obtain ⟨rfl, rfl⟩ := q _ _ _ _ h_k rfl; exact h⟩⟩
theorem mk_W_grants {Z : Zt} {d : Nat} (h : ∀ (a : Nat) (g : Nat) (y : Nat) (k : Nat) (M : Mem), k < 2 ^ 31 → (Lw M a ∧ Lw M g ∧ Lw M y ∧ a < g ∧ g < y ∧ WnD (mI M g) 21 ∧ WnD (mI M y) 40 ∧ k < wn (mI M y)) → Gm Z d s_W_grants [.ref a, .ref g, .ref y, .int (nI k)] M (ex (some (.int (owV (mI M y k)))) (mW M (grG (mI M) a g y k)))) : okE Z d i_W_grants e_W_grants := by
  rintro av M ⟨a, g, y, k, rfl, h_k, hp⟩
  exact Gm.cons (h a g y k M h_k hp) (fun r_ M_ q a' g' y' k' h_k' e => by simp only [List.cons.injEq, Value.ref.injEq, Value.int.injEq, Value.long.injEq, and_true] at e; obtain ⟨q0, q1, q2, q3⟩ := e; obtain rfl := q0; obtain rfl := q1; obtain rfl := q2; obtain rfl := (nI_eq h_k h_k').mp q3; exact q)
def C_W_grants : List (Nat × Ent) := [(i_W_drops, e_W_drops)]
abbrev S_W_grants : List Nat := []
def t_W_grants_45 : List PI := (45, 1, 1, 1, 0, 0, []) :: (46, 1, 0, 4, 0, 0, []) :: (48, 8, 4, 0, 0, 0, []) :: (49, 0, 0, 0, 1, 28, []) :: (51, 2, 9, 0, 0, 0, []) :: (52, 9, 0, 0, 0, 0, []) :: []
def t_W_grants_40 : List PI := (40, 1, 1, 2, 0, 0, []) :: (41, 1, 0, 3, 0, 0, []) :: (42, 11, 1, 0, 89, 0, [81, 2]) :: t_W_grants_45
def t_W_grants_24 : List PI := (24, 1, 1, 0, 0, 0, []) :: (25, 0, 0, 0, 1, 48, []) :: (27, 7, 1, 0, 0, 0, []) :: (28, 8, 4, 0, 0, 0, []) :: (29, 0, 0, 0, 0, 1, []) :: (30, 2, 0, 0, 0, 0, []) :: (31, 10, 4, 0, 0, 0, []) :: (32, 1, 1, 1, 0, 0, []) :: (33, 0, 0, 0, 1, 63, []) :: (35, 7, 1, 0, 0, 0, []) :: (36, 8, 4, 0, 0, 0, []) :: (37, 0, 0, 0, 0, 1, []) :: (38, 2, 0, 0, 0, 0, []) :: (39, 10, 4, 0, 0, 0, []) :: t_W_grants_40
def t_W_grants_0 : List PI := (0, 1, 1, 1, 0, 0, []) :: (1, 0, 0, 0, 1, 63, []) :: (3, 8, 4, 0, 0, 0, []) :: (4, 1, 3, 4, 0, 0, []) :: (6, 1, 1, 1, 0, 0, []) :: (7, 1, 0, 4, 0, 0, []) :: (9, 1, 1, 2, 0, 0, []) :: (10, 1, 0, 3, 0, 0, []) :: (11, 8, 4, 0, 0, 0, []) :: (12, 10, 4, 0, 0, 0, []) :: (13, 1, 1, 1, 0, 0, []) :: (14, 0, 0, 0, 1, 40, []) :: (16, 1, 0, 4, 0, 0, []) :: (18, 2, 0, 0, 0, 0, []) :: (19, 1, 1, 0, 0, 0, []) :: (20, 0, 0, 0, 1, 48, []) :: (22, 8, 4, 0, 0, 0, []) :: (23, 10, 4, 0, 0, 0, []) :: t_W_grants_24
theorem kt_W_grants : okP s_W_grants t_W_grants_0 := k_W_grants
theorem g_W_grants_0 {Z : Zt} {nF f : Nat} {Kx : Nat → Kt} {Q : Option Value → Mem → Prop} {M : Mem} {x1 : Nat} {x2 : Nat} {x3 : Nat} {x4 : Int32} : run Z nF C_W_grants S_W_grants Kx Q (f + 18) t_W_grants_0 [some (.ref (x1)), some (.ref (x2)), some (.ref (x3)), some (.int (x4)), none] [] M = (isA (M) (x2) ((nI 63)) ∧ isA (M) (x3) (x4) ∧ isA (M) (x2) (mI (M) (x2) (Int32.toNatClampNeg ((nI 63)))) ∧ isA (stI (M) (x2) (Int32.toNatClampNeg (mI (M) (x2) (Int32.toNatClampNeg ((nI 63))))) (mI (M) (x3) (Int32.toNatClampNeg (x4)))) (x1) ((nI 48)) ∧ isA (stI (M) (x2) (Int32.toNatClampNeg (mI (M) (x2) (Int32.toNatClampNeg ((nI 63))))) (mI (M) (x3) (Int32.toNatClampNeg (x4)))) (x2) (((nI 40)) + (mI (M) (x2) (Int32.toNatClampNeg ((nI 63))))) ∧ run Z nF C_W_grants S_W_grants Kx Q f t_W_grants_24 [some (.ref (x1)), some (.ref (x2)), some (.ref (x3)), some (.int (x4)), some (.int (mI (M) (x2) (Int32.toNatClampNeg ((nI 63)))))] [] (stI (stI (M) (x2) (Int32.toNatClampNeg (mI (M) (x2) (Int32.toNatClampNeg ((nI 63))))) (mI (M) (x3) (Int32.toNatClampNeg (x4)))) (x2) (Int32.toNatClampNeg (((nI 40)) + (mI (M) (x2) (Int32.toNatClampNeg ((nI 63)))))) (mI (stI (M) (x2) (Int32.toNatClampNeg (mI (M) (x2) (Int32.toNatClampNeg ((nI 63))))) (mI (M) (x3) (Int32.toNatClampNeg (x4)))) (x1) (Int32.toNatClampNeg ((nI 48)))))) := id rfl
theorem g_W_grants_24 {Z : Zt} {nF f : Nat} {Kx : Nat → Kt} {Q : Option Value → Mem → Prop} {M : Mem} {x1 : Nat} {x2 : Nat} {x3 : Nat} {x4 : Int32} {x5 : Int32} : run Z nF C_W_grants S_W_grants Kx Q (f + 14) t_W_grants_24 [some (.ref (x1)), some (.ref (x2)), some (.ref (x3)), some (.int (x4)), some (.int (x5))] [] M = (isA (M) (x1) ((nI 48)) ∧ isA (M) (x1) ((nI 48)) ∧ isA (stI (M) (x1) (Int32.toNatClampNeg ((nI 48))) ((mI (M) (x1) (Int32.toNatClampNeg ((nI 48)))) + ((nI 1)))) (x2) ((nI 63)) ∧ isA (stI (M) (x1) (Int32.toNatClampNeg ((nI 48))) ((mI (M) (x1) (Int32.toNatClampNeg ((nI 48)))) + ((nI 1)))) (x2) ((nI 63)) ∧ run Z nF C_W_grants S_W_grants Kx Q f t_W_grants_40 [some (.ref (x1)), some (.ref (x2)), some (.ref (x3)), some (.int (x4)), some (.int (x5))] [] (stI (stI (M) (x1) (Int32.toNatClampNeg ((nI 48))) ((mI (M) (x1) (Int32.toNatClampNeg ((nI 48)))) + ((nI 1)))) (x2) (Int32.toNatClampNeg ((nI 63))) ((mI (stI (M) (x1) (Int32.toNatClampNeg ((nI 48))) ((mI (M) (x1) (Int32.toNatClampNeg ((nI 48)))) + ((nI 1)))) (x2) (Int32.toNatClampNeg ((nI 63)))) + ((nI 1))))) := id rfl
theorem g_W_grants_40 {Z : Zt} {nF f : Nat} {Kx : Nat → Kt} {Q : Option Value → Mem → Prop} {M : Mem} {x1 : Nat} {x2 : Nat} {x3 : Nat} {x4 : Int32} {x5 : Int32} : run Z nF C_W_grants S_W_grants Kx Q (f + 3) t_W_grants_40 [some (.ref (x1)), some (.ref (x2)), some (.ref (x3)), some (.int (x4)), some (.int (x5))] [] M = (((True) ∧ wsum [] ≤ 8) ∧ pcall e_W_drops [.ref (x3), .int (x4)] (M) (fun v M_ => run Z nF C_W_grants S_W_grants Kx Q f t_W_grants_45 [some (.ref (x1)), some (.ref (x2)), some (.ref (x3)), some (.int (x4)), some (.int (x5))] (v.toList ++ []) M_)) := id rfl
theorem g_W_grants_45 {Z : Zt} {nF f : Nat} {Kx : Nat → Kt} {Q : Option Value → Mem → Prop} {M : Mem} {x1 : Nat} {x2 : Nat} {x3 : Nat} {x4 : Int32} {x5 : Int32} : run Z nF C_W_grants S_W_grants Kx Q (f + 6) t_W_grants_45 [some (.ref (x1)), some (.ref (x2)), some (.ref (x3)), some (.int (x4)), some (.int (x5))] [] M = (isA (M) (x2) (x5) ∧ Q (some (.int ((mI (M) (x2) (Int32.toNatClampNeg (x5))) >>> (((nI 28)) &&& 31)))) (M)) := id rfl
set_option maxRecDepth 100000 in
set_option maxHeartbeats 4000000 in
theorem ok_W_grants (Z : Zt) (d0 : Nat) : okE Z (d0 + 2) i_W_grants e_W_grants := mk_W_grants fun a g y k M h1 hp => by
  obtain ⟨ha, hg, hd, hag, hgd, hG, hD, hk⟩ := hp
  have e63 := hG.1
  have h21 := hG.2
  have h40 := hD.2
  have n1 : a ≠ g := by omega
  have n2 : g ≠ a := by omega
  have n3 : y ≠ g := by omega
  have n4 : y ≠ a := by omega
  have n5 : g ≠ y := by omega
  have n6 : a ≠ y := by omega
  have hdr : ∀ {f : Nat → Nat → Int32} {K : Option Value → Mem → Prop}, f y = mI M y → pcall e_W_drops [.ref y, .int (nI k)] (mW M f) K = K none (mW M (rwF f y (drW (mI M y) k))) := fun {f K} e => by
    have := pc_W_drops (a := y) (k := k) (M := mW M f) (K := K) ⟨hd, by rw [mI_mW, e]; exact hD, by rw [mI_mW, e]; exact hk⟩ (by omega)
    rw [this, mI_mW, e, mW_mW]
  refine Gm_run (C := C_W_grants) (S := S_W_grants) [some (.ref a), some (.ref g), some (.ref y), some (.int (nI k)), none] 1000 kt_W_grants (okE_cons (ok_W_drops Z d0) okE_nil) (ex_n rfl) ?_
  simp (maxSteps := 3000000) (disch := first | exact True.intro | assumption | omega) only [↓eq_self, Option.toList_some, Option.toList_none, List.nil_append, List.cons_append, wsum_0, wsum_1, wsum_2, wsum_3, wsum_4, lkill, ↓reduceIte, if_true, if_false, Bool.false_eq_true, and_true, true_and, and_self, or_self, true_or, or_true, not_true, not_false_iff, mR_stI, mN_stI, isO_stI, isA_stI, mI_stI, mR_mW, mN_mW, isO_mW, isA_mW, mI_mW, mW_mW, stI_mW, vp_0, nI_add, nI_ltI, nI_leI, nI_eq, vpi, nI_clamp, nI_toN, nI_geT, pk_mul, pk_sub, bv_0n, bv_1n, ↓bv_01n, n01a, n01b, Nat.reduceSub, Nat.reduceAdd, Nat.reduceMul, u2_rw, rw_rw, rw_at, rw_ne, up_at, up_ne, Nat.zero_add, Nat.add_zero, lw_mW, m1_lt0, ite_nt, ↓g_W_grants_0, ↓g_W_grants_24, ↓g_W_grants_40, ↓g_W_grants_45, lwA ha, lwA hg, lwA hd, e63, rw_ne n1, rw_ne n2, rw_ne n3, rw_ne n4, rw_ne n5, rw_ne n6, rw_swL hag]
  rw [hdr (by rw [rw_ne n3, rw_ne n4])]
  simp (maxSteps := 3000000) (disch := first | exact True.intro | assumption | omega) only [↓eq_self, Option.toList_some, Option.toList_none, List.nil_append, List.cons_append, wsum_0, wsum_1, wsum_2, wsum_3, wsum_4, lkill, ↓reduceIte, if_true, if_false, Bool.false_eq_true, and_true, true_and, and_self, or_self, true_or, or_true, not_true, not_false_iff, mR_stI, mN_stI, isO_stI, isA_stI, mI_stI, mR_mW, mN_mW, isO_mW, isA_mW, mI_mW, mW_mW, stI_mW, vp_0, nI_add, nI_ltI, nI_leI, nI_eq, vpi, nI_clamp, nI_toN, nI_geT, pk_mul, pk_sub, bv_0n, bv_1n, ↓bv_01n, n01a, n01b, Nat.reduceSub, Nat.reduceAdd, Nat.reduceMul, u2_rw, rw_rw, rw_at, rw_ne, up_at, up_ne, Nat.zero_add, Nat.add_zero, lw_mW, m1_lt0, ite_nt, ↓g_W_grants_0, ↓g_W_grants_24, ↓g_W_grants_40, ↓g_W_grants_45, lwA ha, lwA hg, lwA hd, e63, rw_ne n1, rw_ne n2, rw_ne n3, rw_ne n4, rw_ne n5, rw_ne n6]
  exact ⟨rfl, rfl⟩
/-! the next demand -/
abbrev fcW (a g y : Nat → Int32) (k t r : Nat) : Prop := ¬ a (8 + 12 * t + 4 + r) < usL g r (nI t) + unV (y k) r ∧ ¬ a r < usL g r (-1) + unV (y k) r
def ftW (a g y : Nat → Int32) (k t : Nat) : Prop := ∀ r, r < 4 → fcW a g y k t r
noncomputable def nxP (a g y : Nat → Int32) : Nat → Int32 × Int32
  | 0 => (-1, nI 0)
  | t + 1 => @ite _ (¬ foW y (nI t) < nI 0 ∧ ftW a g y (foW y (nI t)).toNatClampNeg t ∧ ((nxP a g y t).1 < nI 0 ∨ ¬ (nxP a g y t).2 ≤ shW a g t 4)) (Classical.propDecidable _) (foW y (nI t), shW a g t 4) (nxP a g y t)
def aT (a : Nat → Int32) : Nat := (a 44).toNatClampNeg
def ATD (a : Nat → Int32) : Prop := a 44 = nI (aT a) ∧ aT a ≤ 3
noncomputable def nxW (a g y : Nat → Int32) : Int32 := (nxP a g y (aT a)).1
def e_W_next : Ent := (fun av M => ∃ (a : Nat) (g : Nat) (y : Nat), av = [.ref a, .ref g, .ref y] ∧ (Lw M a ∧ Lw M g ∧ Lw M y ∧ WnD (mI M g) 40 ∧ WnD (mI M y) 40 ∧ ATD (mI M a) ∧ ∀ t, t < aT (mI M a) → ShOk (mI M a) t), fun av M r_ M_ => ∀ (a : Nat) (g : Nat) (y : Nat), av = [.ref a, .ref g, .ref y] → r_ = (some (.int (nxW (mI M a) (mI M g) (mI M y)))) ∧ M_ = (M))
theorem pc_W_next {a : Nat} {g : Nat} {y : Nat} {M : Mem} {K : Option Value → Mem → Prop} (hp : Lw M a ∧ Lw M g ∧ Lw M y ∧ WnD (mI M g) 40 ∧ WnD (mI M y) 40 ∧ ATD (mI M a) ∧ ∀ t, t < aT (mI M a) → ShOk (mI M a) t) : pcall e_W_next [.ref a, .ref g, .ref y] M K = K (some (.int (nxW (mI M a) (mI M g) (mI M y)))) (M) := propext ⟨fun h => h.2 _ _ (fun a' g' y' e => by simp only [List.cons.injEq, Value.ref.injEq, Value.int.injEq, Value.long.injEq, and_true] at e; obtain ⟨q0, q1, q2⟩ := e; obtain rfl := q0; obtain rfl := q1; obtain rfl := q2; exact ⟨rfl, rfl⟩), fun h => ⟨⟨a, g, y, rfl, hp⟩, fun r_ M_ q => by obtain ⟨rfl, rfl⟩ := q _ _ _ rfl; exact h⟩⟩
theorem mk_W_next {Z : Zt} {d : Nat} (h : ∀ (a : Nat) (g : Nat) (y : Nat) (M : Mem), (Lw M a ∧ Lw M g ∧ Lw M y ∧ WnD (mI M g) 40 ∧ WnD (mI M y) 40 ∧ ATD (mI M a) ∧ ∀ t, t < aT (mI M a) → ShOk (mI M a) t) → Gm Z d s_W_next [.ref a, .ref g, .ref y] M (ex (some (.int (nxW (mI M a) (mI M g) (mI M y)))) (M))) : okE Z d i_W_next e_W_next := by
  rintro av M ⟨a, g, y, rfl, hp⟩
  exact Gm.cons (h a g y M  hp) (fun r_ M_ q a' g' y' e => by simp only [List.cons.injEq, Value.ref.injEq, Value.int.injEq, Value.long.injEq, and_true] at e; obtain ⟨q0, q1, q2⟩ := e; obtain rfl := q0; obtain rfl := q1; obtain rfl := q2; exact q)
def C_W_next : List (Nat × Ent) := [(i_W_firstOf, e_W_firstOf), (i_W_units, e_W_units), (i_W_use, e_W_use), (i_W_share, e_W_share)]
abbrev S_W_next : List Nat := [8, 40]
def t_W_next_168 : List PI := (168, 1, 0, 3, 0, 0, []) :: (169, 9, 0, 0, 0, 0, []) :: []
def t_W_next_162 : List PI := (162, 1, 6, 5, 0, 1, []) :: (165, 6, 0, 8, 0, 0, []) :: t_W_next_168
def t_W_next_155 : List PI := (155, 1, 0, 6, 0, 0, []) :: (157, 1, 3, 3, 0, 0, []) :: (158, 1, 0, 8, 0, 0, []) :: (160, 1, 3, 4, 0, 0, []) :: t_W_next_162
def t_W_next_148 : List PI := (148, 1, 0, 8, 0, 0, []) :: (150, 1, 0, 4, 0, 0, []) :: (152, 4, 3, 162, 0, 0, []) :: t_W_next_155
def t_W_next_144 : List PI := (144, 1, 0, 3, 0, 0, []) :: (145, 5, 2, 155, 0, 0, []) :: t_W_next_148
def t_W_next_137 : List PI := (137, 1, 3, 8, 0, 0, []) :: (139, 1, 0, 7, 0, 0, []) :: (141, 5, 0, 162, 0, 0, []) :: t_W_next_144
def t_W_next_136 : List PI := (136, 0, 0, 0, 0, 0, []) :: t_W_next_137
def t_W_next_133 : List PI := (133, 6, 0, 137, 0, 0, []) :: t_W_next_136
def t_W_next_126 : List PI := (126, 1, 1, 0, 0, 0, []) :: (127, 1, 1, 1, 0, 0, []) :: (128, 1, 0, 5, 0, 0, []) :: (130, 11, 1, 0, 78, 0, [77, 3]) :: t_W_next_133
def t_W_next_121 : List PI := (121, 1, 0, 7, 0, 0, []) :: (123, 5, 0, 136, 0, 0, []) :: t_W_next_126
def t_W_next_113 : List PI := (113, 1, 3, 7, 0, 0, []) :: (115, 1, 6, 8, 0, 1, []) :: (118, 6, 0, 40, 0, 0, []) :: t_W_next_121
def t_W_next_112 : List PI := (112, 0, 0, 0, 0, 0, []) :: t_W_next_113
def t_W_next_108 : List PI := (108, 0, 0, 0, 0, 1, []) :: (109, 6, 0, 113, 0, 0, []) :: t_W_next_112
def t_W_next_98 : List PI := (98, 1, 0, 9, 0, 0, []) :: (100, 2, 0, 0, 0, 0, []) :: (101, 1, 1, 0, 0, 0, []) :: (102, 1, 0, 8, 0, 0, []) :: (104, 8, 4, 0, 0, 0, []) :: (105, 4, 4, 112, 0, 0, []) :: t_W_next_108
def t_W_next_91 : List PI := (91, 1, 1, 1, 0, 0, []) :: (92, 1, 0, 8, 0, 0, []) :: (94, 0, 0, 0, 0, -1, []) :: (95, 11, 1, 0, 76, 0, [15, 3]) :: t_W_next_98
def t_W_next_70 : List PI := (70, 1, 0, 9, 0, 0, []) :: (72, 2, 0, 0, 0, 0, []) :: (73, 1, 1, 0, 0, 0, []) :: (74, 0, 0, 0, 1, 8, []) :: (76, 0, 0, 0, 1, 12, []) :: (78, 1, 0, 5, 0, 0, []) :: (80, 2, 2, 0, 0, 0, []) :: (81, 2, 0, 0, 0, 0, []) :: (82, 0, 0, 0, 0, 4, []) :: (83, 2, 0, 0, 0, 0, []) :: (84, 1, 0, 8, 0, 0, []) :: (86, 2, 0, 0, 0, 0, []) :: (87, 8, 4, 0, 0, 0, []) :: (88, 4, 4, 112, 0, 0, []) :: t_W_next_91
def t_W_next_60 : List PI := (60, 1, 3, 9, 0, 0, []) :: (62, 1, 1, 1, 0, 0, []) :: (63, 1, 0, 8, 0, 0, []) :: (65, 1, 0, 5, 0, 0, []) :: (67, 11, 1, 0, 76, 0, [15, 3]) :: t_W_next_70
def t_W_next_51 : List PI := (51, 1, 1, 2, 0, 0, []) :: (52, 1, 0, 6, 0, 0, []) :: (54, 8, 4, 0, 0, 0, []) :: (55, 1, 0, 8, 0, 0, []) :: (57, 11, 1, 0, 75, 0, [9, 2]) :: t_W_next_60
def t_W_next_46 : List PI := (46, 1, 0, 7, 0, 0, []) :: (48, 5, 0, 121, 0, 0, []) :: t_W_next_51
def t_W_next_40 : List PI := (40, 1, 0, 8, 0, 0, []) :: (42, 0, 0, 0, 0, 4, []) :: (43, 4, 3, 121, 0, 0, []) :: t_W_next_46
def t_W_next_35 : List PI := (35, 1, 3, 7, 0, 0, []) :: (37, 0, 0, 0, 0, 0, []) :: (38, 1, 3, 8, 0, 0, []) :: t_W_next_40
def t_W_next_34 : List PI := (34, 0, 0, 0, 0, 0, []) :: t_W_next_35
def t_W_next_30 : List PI := (30, 0, 0, 0, 0, 1, []) :: (31, 6, 0, 35, 0, 0, []) :: t_W_next_34
def t_W_next_23 : List PI := (23, 1, 3, 6, 0, 0, []) :: (25, 1, 0, 6, 0, 0, []) :: (27, 5, 2, 34, 0, 0, []) :: t_W_next_30
def t_W_next_17 : List PI := (17, 1, 1, 2, 0, 0, []) :: (18, 1, 0, 5, 0, 0, []) :: (20, 11, 1, 0, 87, 0, [73, 2]) :: t_W_next_23
def t_W_next_8 : List PI := (8, 1, 0, 5, 0, 0, []) :: (10, 1, 1, 0, 0, 0, []) :: (11, 0, 0, 0, 1, 44, []) :: (13, 8, 4, 0, 0, 0, []) :: (14, 4, 3, 168, 0, 0, []) :: t_W_next_17
def t_W_next_0 : List PI := (0, 0, 0, 0, 0, -1, []) :: (1, 1, 3, 3, 0, 0, []) :: (2, 0, 0, 0, 0, 0, []) :: (3, 1, 3, 4, 0, 0, []) :: (5, 0, 0, 0, 0, 0, []) :: (6, 1, 3, 5, 0, 0, []) :: t_W_next_8
theorem kt_W_next : okP s_W_next t_W_next_0 := k_W_next
theorem g_W_next_0 {Z : Zt} {nF f : Nat} {Kx : Nat → Kt} {Q : Option Value → Mem → Prop} {M : Mem} {x1 : Nat} {x2 : Nat} {x3 : Nat} : run Z nF C_W_next S_W_next Kx Q (f + 6) t_W_next_0 [some (.ref (x1)), some (.ref (x2)), some (.ref (x3)), none, none, none, none, none, none, none] [] M = (Kx 8 [some (.ref (x1)), some (.ref (x2)), some (.ref (x3)), some (.int ((-1 : Int32))), some (.int ((nI 0))), some (.int ((nI 0))), none, none, none, none] [] (M)) := id rfl
theorem g_W_next_8 {Z : Zt} {nF f : Nat} {Kx : Nat → Kt} {Q : Option Value → Mem → Prop} {M : Mem} {x1 : Nat} {x2 : Nat} {x3 : Nat} {x4 : Int32} {x5 : Int32} {x6 : Int32} {x7 : Option Value} {x8 : Option Value} {x9 : Option Value} {x10 : Option Value} : run Z nF C_W_next S_W_next Kx Q (f + 5) t_W_next_8 [some (.ref (x1)), some (.ref (x2)), some (.ref (x3)), some (.int (x4)), some (.int (x5)), some (.int (x6)), x7, x8, x9, x10] [] M = (isA (M) (x1) ((nI 44)) ∧ (if (mI (M) (x1) (Int32.toNatClampNeg ((nI 44)))) ≤ (x6) then run Z nF C_W_next S_W_next Kx Q f t_W_next_168 [some (.ref (x1)), some (.ref (x2)), some (.ref (x3)), some (.int (x4)), some (.int (x5)), some (.int (x6)), x7, x8, x9, x10] [] (M) else run Z nF C_W_next S_W_next Kx Q f t_W_next_17 [some (.ref (x1)), some (.ref (x2)), some (.ref (x3)), some (.int (x4)), some (.int (x5)), some (.int (x6)), x7, x8, x9, x10] [] (M))) := id rfl
theorem g_W_next_17 {Z : Zt} {nF f : Nat} {Kx : Nat → Kt} {Q : Option Value → Mem → Prop} {M : Mem} {x1 : Nat} {x2 : Nat} {x3 : Nat} {x4 : Int32} {x5 : Int32} {x6 : Int32} {x7 : Option Value} {x8 : Option Value} {x9 : Option Value} {x10 : Option Value} : run Z nF C_W_next S_W_next Kx Q (f + 3) t_W_next_17 [some (.ref (x1)), some (.ref (x2)), some (.ref (x3)), some (.int (x4)), some (.int (x5)), some (.int (x6)), x7, x8, x9, x10] [] M = (((True) ∧ wsum [] ≤ 8) ∧ pcall e_W_firstOf [.ref (x3), .int (x6)] (M) (fun v M_ => run Z nF C_W_next S_W_next Kx Q f t_W_next_23 [some (.ref (x1)), some (.ref (x2)), some (.ref (x3)), some (.int (x4)), some (.int (x5)), some (.int (x6)), x7, x8, x9, x10] (v.toList ++ []) M_)) := id rfl
theorem g_W_next_23 {Z : Zt} {nF f : Nat} {Kx : Nat → Kt} {Q : Option Value → Mem → Prop} {M : Mem} {x1 : Nat} {x2 : Nat} {x3 : Nat} {x4 : Int32} {x5 : Int32} {x6 : Int32} {x7 : Option Value} {x8 : Option Value} {x9 : Option Value} {x10 : Option Value} {x11 : Int32} : run Z nF C_W_next S_W_next Kx Q (f + 3) t_W_next_23 [some (.ref (x1)), some (.ref (x2)), some (.ref (x3)), some (.int (x4)), some (.int (x5)), some (.int (x6)), x7, x8, x9, x10] [.int (x11)] M = ((if (x11) < nI 0 then run Z nF C_W_next S_W_next Kx Q f t_W_next_34 [some (.ref (x1)), some (.ref (x2)), some (.ref (x3)), some (.int (x4)), some (.int (x5)), some (.int (x6)), some (.int (x11)), x8, x9, x10] [] (M) else run Z nF C_W_next S_W_next Kx Q f t_W_next_30 [some (.ref (x1)), some (.ref (x2)), some (.ref (x3)), some (.int (x4)), some (.int (x5)), some (.int (x6)), some (.int (x11)), x8, x9, x10] [] (M))) := id rfl
theorem g_W_next_30 {Z : Zt} {nF f : Nat} {Kx : Nat → Kt} {Q : Option Value → Mem → Prop} {M : Mem} {x1 : Nat} {x2 : Nat} {x3 : Nat} {x4 : Int32} {x5 : Int32} {x6 : Int32} {x7 : Int32} {x8 : Option Value} {x9 : Option Value} {x10 : Option Value} : run Z nF C_W_next S_W_next Kx Q (f + 2) t_W_next_30 [some (.ref (x1)), some (.ref (x2)), some (.ref (x3)), some (.int (x4)), some (.int (x5)), some (.int (x6)), some (.int (x7)), x8, x9, x10] [] M = (run Z nF C_W_next S_W_next Kx Q f t_W_next_35 [some (.ref (x1)), some (.ref (x2)), some (.ref (x3)), some (.int (x4)), some (.int (x5)), some (.int (x6)), some (.int (x7)), x8, x9, x10] [.int ((nI 1))] (M)) := id rfl
theorem g_W_next_34 {Z : Zt} {nF f : Nat} {Kx : Nat → Kt} {Q : Option Value → Mem → Prop} {M : Mem} {x1 : Nat} {x2 : Nat} {x3 : Nat} {x4 : Int32} {x5 : Int32} {x6 : Int32} {x7 : Int32} {x8 : Option Value} {x9 : Option Value} {x10 : Option Value} : run Z nF C_W_next S_W_next Kx Q (f + 1) t_W_next_34 [some (.ref (x1)), some (.ref (x2)), some (.ref (x3)), some (.int (x4)), some (.int (x5)), some (.int (x6)), some (.int (x7)), x8, x9, x10] [] M = (run Z nF C_W_next S_W_next Kx Q f t_W_next_35 [some (.ref (x1)), some (.ref (x2)), some (.ref (x3)), some (.int (x4)), some (.int (x5)), some (.int (x6)), some (.int (x7)), x8, x9, x10] [.int ((nI 0))] (M)) := id rfl
theorem g_W_next_35 {Z : Zt} {nF f : Nat} {Kx : Nat → Kt} {Q : Option Value → Mem → Prop} {M : Mem} {x1 : Nat} {x2 : Nat} {x3 : Nat} {x4 : Int32} {x5 : Int32} {x6 : Int32} {x7 : Int32} {x8 : Option Value} {x9 : Option Value} {x10 : Option Value} {x11 : Int32} : run Z nF C_W_next S_W_next Kx Q (f + 3) t_W_next_35 [some (.ref (x1)), some (.ref (x2)), some (.ref (x3)), some (.int (x4)), some (.int (x5)), some (.int (x6)), some (.int (x7)), x8, x9, x10] [.int (x11)] M = (Kx 40 [some (.ref (x1)), some (.ref (x2)), some (.ref (x3)), some (.int (x4)), some (.int (x5)), some (.int (x6)), some (.int (x7)), some (.int (x11)), some (.int ((nI 0))), x10] [] (M)) := id rfl
theorem g_W_next_40 {Z : Zt} {nF f : Nat} {Kx : Nat → Kt} {Q : Option Value → Mem → Prop} {M : Mem} {x1 : Nat} {x2 : Nat} {x3 : Nat} {x4 : Int32} {x5 : Int32} {x6 : Int32} {x7 : Int32} {x8 : Int32} {x9 : Int32} {x10 : Option Value} : run Z nF C_W_next S_W_next Kx Q (f + 3) t_W_next_40 [some (.ref (x1)), some (.ref (x2)), some (.ref (x3)), some (.int (x4)), some (.int (x5)), some (.int (x6)), some (.int (x7)), some (.int (x8)), some (.int (x9)), x10] [] M = ((if ((nI 4)) ≤ (x9) then run Z nF C_W_next S_W_next Kx Q f t_W_next_121 [some (.ref (x1)), some (.ref (x2)), some (.ref (x3)), some (.int (x4)), some (.int (x5)), some (.int (x6)), some (.int (x7)), some (.int (x8)), some (.int (x9)), x10] [] (M) else run Z nF C_W_next S_W_next Kx Q f t_W_next_46 [some (.ref (x1)), some (.ref (x2)), some (.ref (x3)), some (.int (x4)), some (.int (x5)), some (.int (x6)), some (.int (x7)), some (.int (x8)), some (.int (x9)), x10] [] (M))) := id rfl
theorem g_W_next_46 {Z : Zt} {nF f : Nat} {Kx : Nat → Kt} {Q : Option Value → Mem → Prop} {M : Mem} {x1 : Nat} {x2 : Nat} {x3 : Nat} {x4 : Int32} {x5 : Int32} {x6 : Int32} {x7 : Int32} {x8 : Int32} {x9 : Int32} {x10 : Option Value} : run Z nF C_W_next S_W_next Kx Q (f + 2) t_W_next_46 [some (.ref (x1)), some (.ref (x2)), some (.ref (x3)), some (.int (x4)), some (.int (x5)), some (.int (x6)), some (.int (x7)), some (.int (x8)), some (.int (x9)), x10] [] M = ((if (x8) = nI 0 then run Z nF C_W_next S_W_next Kx Q f t_W_next_121 [some (.ref (x1)), some (.ref (x2)), some (.ref (x3)), some (.int (x4)), some (.int (x5)), some (.int (x6)), some (.int (x7)), some (.int (x8)), some (.int (x9)), x10] [] (M) else run Z nF C_W_next S_W_next Kx Q f t_W_next_51 [some (.ref (x1)), some (.ref (x2)), some (.ref (x3)), some (.int (x4)), some (.int (x5)), some (.int (x6)), some (.int (x7)), some (.int (x8)), some (.int (x9)), x10] [] (M))) := id rfl
theorem g_W_next_51 {Z : Zt} {nF f : Nat} {Kx : Nat → Kt} {Q : Option Value → Mem → Prop} {M : Mem} {x1 : Nat} {x2 : Nat} {x3 : Nat} {x4 : Int32} {x5 : Int32} {x6 : Int32} {x7 : Int32} {x8 : Int32} {x9 : Int32} {x10 : Option Value} : run Z nF C_W_next S_W_next Kx Q (f + 5) t_W_next_51 [some (.ref (x1)), some (.ref (x2)), some (.ref (x3)), some (.int (x4)), some (.int (x5)), some (.int (x6)), some (.int (x7)), some (.int (x8)), some (.int (x9)), x10] [] M = (isA (M) (x3) (x7) ∧ ((True) ∧ wsum [] ≤ 8) ∧ pcall e_W_units [.int (mI (M) (x3) (Int32.toNatClampNeg (x7))), .int (x9)] (M) (fun v M_ => run Z nF C_W_next S_W_next Kx Q f t_W_next_60 [some (.ref (x1)), some (.ref (x2)), some (.ref (x3)), some (.int (x4)), some (.int (x5)), some (.int (x6)), some (.int (x7)), some (.int (x8)), some (.int (x9)), x10] (v.toList ++ []) M_)) := id rfl
theorem g_W_next_60 {Z : Zt} {nF f : Nat} {Kx : Nat → Kt} {Q : Option Value → Mem → Prop} {M : Mem} {x1 : Nat} {x2 : Nat} {x3 : Nat} {x4 : Int32} {x5 : Int32} {x6 : Int32} {x7 : Int32} {x8 : Int32} {x9 : Int32} {x10 : Option Value} {x11 : Int32} : run Z nF C_W_next S_W_next Kx Q (f + 5) t_W_next_60 [some (.ref (x1)), some (.ref (x2)), some (.ref (x3)), some (.int (x4)), some (.int (x5)), some (.int (x6)), some (.int (x7)), some (.int (x8)), some (.int (x9)), x10] [.int (x11)] M = (((True) ∧ wsum [] ≤ 8) ∧ pcall e_W_use [.ref (x2), .int (x9), .int (x6)] (M) (fun v M_ => run Z nF C_W_next S_W_next Kx Q f t_W_next_70 [some (.ref (x1)), some (.ref (x2)), some (.ref (x3)), some (.int (x4)), some (.int (x5)), some (.int (x6)), some (.int (x7)), some (.int (x8)), some (.int (x9)), some (.int (x11))] (v.toList ++ []) M_)) := id rfl
theorem g_W_next_70 {Z : Zt} {nF f : Nat} {Kx : Nat → Kt} {Q : Option Value → Mem → Prop} {M : Mem} {x1 : Nat} {x2 : Nat} {x3 : Nat} {x4 : Int32} {x5 : Int32} {x6 : Int32} {x7 : Int32} {x8 : Int32} {x9 : Int32} {x10 : Int32} {x11 : Int32} : run Z nF C_W_next S_W_next Kx Q (f + 14) t_W_next_70 [some (.ref (x1)), some (.ref (x2)), some (.ref (x3)), some (.int (x4)), some (.int (x5)), some (.int (x6)), some (.int (x7)), some (.int (x8)), some (.int (x9)), some (.int (x10))] [.int (x11)] M = (isA (M) (x1) (((((nI 8)) + (((nI 12)) * (x6))) + ((nI 4))) + (x9)) ∧ (if (mI (M) (x1) (Int32.toNatClampNeg (((((nI 8)) + (((nI 12)) * (x6))) + ((nI 4))) + (x9)))) < ((x11) + (x10)) then run Z nF C_W_next S_W_next Kx Q f t_W_next_112 [some (.ref (x1)), some (.ref (x2)), some (.ref (x3)), some (.int (x4)), some (.int (x5)), some (.int (x6)), some (.int (x7)), some (.int (x8)), some (.int (x9)), some (.int (x10))] [] (M) else run Z nF C_W_next S_W_next Kx Q f t_W_next_91 [some (.ref (x1)), some (.ref (x2)), some (.ref (x3)), some (.int (x4)), some (.int (x5)), some (.int (x6)), some (.int (x7)), some (.int (x8)), some (.int (x9)), some (.int (x10))] [] (M))) := id rfl
theorem g_W_next_91 {Z : Zt} {nF f : Nat} {Kx : Nat → Kt} {Q : Option Value → Mem → Prop} {M : Mem} {x1 : Nat} {x2 : Nat} {x3 : Nat} {x4 : Int32} {x5 : Int32} {x6 : Int32} {x7 : Int32} {x8 : Int32} {x9 : Int32} {x10 : Int32} : run Z nF C_W_next S_W_next Kx Q (f + 4) t_W_next_91 [some (.ref (x1)), some (.ref (x2)), some (.ref (x3)), some (.int (x4)), some (.int (x5)), some (.int (x6)), some (.int (x7)), some (.int (x8)), some (.int (x9)), some (.int (x10))] [] M = (((True) ∧ wsum [] ≤ 8) ∧ pcall e_W_use [.ref (x2), .int (x9), .int ((-1 : Int32))] (M) (fun v M_ => run Z nF C_W_next S_W_next Kx Q f t_W_next_98 [some (.ref (x1)), some (.ref (x2)), some (.ref (x3)), some (.int (x4)), some (.int (x5)), some (.int (x6)), some (.int (x7)), some (.int (x8)), some (.int (x9)), some (.int (x10))] (v.toList ++ []) M_)) := id rfl
theorem g_W_next_98 {Z : Zt} {nF f : Nat} {Kx : Nat → Kt} {Q : Option Value → Mem → Prop} {M : Mem} {x1 : Nat} {x2 : Nat} {x3 : Nat} {x4 : Int32} {x5 : Int32} {x6 : Int32} {x7 : Int32} {x8 : Int32} {x9 : Int32} {x10 : Int32} {x11 : Int32} : run Z nF C_W_next S_W_next Kx Q (f + 6) t_W_next_98 [some (.ref (x1)), some (.ref (x2)), some (.ref (x3)), some (.int (x4)), some (.int (x5)), some (.int (x6)), some (.int (x7)), some (.int (x8)), some (.int (x9)), some (.int (x10))] [.int (x11)] M = (isA (M) (x1) (x9) ∧ (if (mI (M) (x1) (Int32.toNatClampNeg (x9))) < ((x11) + (x10)) then run Z nF C_W_next S_W_next Kx Q f t_W_next_112 [some (.ref (x1)), some (.ref (x2)), some (.ref (x3)), some (.int (x4)), some (.int (x5)), some (.int (x6)), some (.int (x7)), some (.int (x8)), some (.int (x9)), some (.int (x10))] [] (M) else run Z nF C_W_next S_W_next Kx Q f t_W_next_108 [some (.ref (x1)), some (.ref (x2)), some (.ref (x3)), some (.int (x4)), some (.int (x5)), some (.int (x6)), some (.int (x7)), some (.int (x8)), some (.int (x9)), some (.int (x10))] [] (M))) := id rfl
theorem g_W_next_108 {Z : Zt} {nF f : Nat} {Kx : Nat → Kt} {Q : Option Value → Mem → Prop} {M : Mem} {x1 : Nat} {x2 : Nat} {x3 : Nat} {x4 : Int32} {x5 : Int32} {x6 : Int32} {x7 : Int32} {x8 : Int32} {x9 : Int32} {x10 : Int32} : run Z nF C_W_next S_W_next Kx Q (f + 2) t_W_next_108 [some (.ref (x1)), some (.ref (x2)), some (.ref (x3)), some (.int (x4)), some (.int (x5)), some (.int (x6)), some (.int (x7)), some (.int (x8)), some (.int (x9)), some (.int (x10))] [] M = (run Z nF C_W_next S_W_next Kx Q f t_W_next_113 [some (.ref (x1)), some (.ref (x2)), some (.ref (x3)), some (.int (x4)), some (.int (x5)), some (.int (x6)), some (.int (x7)), some (.int (x8)), some (.int (x9)), some (.int (x10))] [.int ((nI 1))] (M)) := id rfl
theorem g_W_next_112 {Z : Zt} {nF f : Nat} {Kx : Nat → Kt} {Q : Option Value → Mem → Prop} {M : Mem} {x1 : Nat} {x2 : Nat} {x3 : Nat} {x4 : Int32} {x5 : Int32} {x6 : Int32} {x7 : Int32} {x8 : Int32} {x9 : Int32} {x10 : Int32} : run Z nF C_W_next S_W_next Kx Q (f + 1) t_W_next_112 [some (.ref (x1)), some (.ref (x2)), some (.ref (x3)), some (.int (x4)), some (.int (x5)), some (.int (x6)), some (.int (x7)), some (.int (x8)), some (.int (x9)), some (.int (x10))] [] M = (run Z nF C_W_next S_W_next Kx Q f t_W_next_113 [some (.ref (x1)), some (.ref (x2)), some (.ref (x3)), some (.int (x4)), some (.int (x5)), some (.int (x6)), some (.int (x7)), some (.int (x8)), some (.int (x9)), some (.int (x10))] [.int ((nI 0))] (M)) := id rfl
theorem g_W_next_113 {Z : Zt} {nF f : Nat} {Kx : Nat → Kt} {Q : Option Value → Mem → Prop} {M : Mem} {x1 : Nat} {x2 : Nat} {x3 : Nat} {x4 : Int32} {x5 : Int32} {x6 : Int32} {x7 : Int32} {x8 : Int32} {x9 : Int32} {x10 : Int32} {x11 : Int32} : run Z nF C_W_next S_W_next Kx Q (f + 3) t_W_next_113 [some (.ref (x1)), some (.ref (x2)), some (.ref (x3)), some (.int (x4)), some (.int (x5)), some (.int (x6)), some (.int (x7)), some (.int (x8)), some (.int (x9)), some (.int (x10))] [.int (x11)] M = (Kx 40 [some (.ref (x1)), some (.ref (x2)), some (.ref (x3)), some (.int (x4)), some (.int (x5)), some (.int (x6)), some (.int (x7)), some (.int (x11)), some (.int (x9 + (nI 1))), some (.int (x10))] [] (M)) := id rfl
theorem g_W_next_121 {Z : Zt} {nF f : Nat} {Kx : Nat → Kt} {Q : Option Value → Mem → Prop} {M : Mem} {x1 : Nat} {x2 : Nat} {x3 : Nat} {x4 : Int32} {x5 : Int32} {x6 : Int32} {x7 : Int32} {x8 : Int32} {x9 : Int32} {x10 : Option Value} : run Z nF C_W_next S_W_next Kx Q (f + 2) t_W_next_121 [some (.ref (x1)), some (.ref (x2)), some (.ref (x3)), some (.int (x4)), some (.int (x5)), some (.int (x6)), some (.int (x7)), some (.int (x8)), some (.int (x9)), x10] [] M = ((if (x8) = nI 0 then run Z nF C_W_next S_W_next Kx Q f t_W_next_136 [some (.ref (x1)), some (.ref (x2)), some (.ref (x3)), some (.int (x4)), some (.int (x5)), some (.int (x6)), some (.int (x7)), some (.int (x8)), some (.int (x9)), x10] [] (M) else run Z nF C_W_next S_W_next Kx Q f t_W_next_126 [some (.ref (x1)), some (.ref (x2)), some (.ref (x3)), some (.int (x4)), some (.int (x5)), some (.int (x6)), some (.int (x7)), some (.int (x8)), some (.int (x9)), x10] [] (M))) := id rfl
theorem g_W_next_126 {Z : Zt} {nF f : Nat} {Kx : Nat → Kt} {Q : Option Value → Mem → Prop} {M : Mem} {x1 : Nat} {x2 : Nat} {x3 : Nat} {x4 : Int32} {x5 : Int32} {x6 : Int32} {x7 : Int32} {x8 : Int32} {x9 : Int32} {x10 : Option Value} : run Z nF C_W_next S_W_next Kx Q (f + 4) t_W_next_126 [some (.ref (x1)), some (.ref (x2)), some (.ref (x3)), some (.int (x4)), some (.int (x5)), some (.int (x6)), some (.int (x7)), some (.int (x8)), some (.int (x9)), x10] [] M = (((True) ∧ wsum [] ≤ 8) ∧ pcall e_W_share [.ref (x1), .ref (x2), .int (x6)] (M) (fun v M_ => run Z nF C_W_next S_W_next Kx Q f t_W_next_133 [some (.ref (x1)), some (.ref (x2)), some (.ref (x3)), some (.int (x4)), some (.int (x5)), some (.int (x6)), some (.int (x7)), some (.int (x8)), some (.int (x9)), x10] (v.toList ++ []) M_)) := id rfl
theorem g_W_next_133 {Z : Zt} {nF f : Nat} {Kx : Nat → Kt} {Q : Option Value → Mem → Prop} {M : Mem} {x1 : Nat} {x2 : Nat} {x3 : Nat} {x4 : Int32} {x5 : Int32} {x6 : Int32} {x7 : Int32} {x8 : Int32} {x9 : Int32} {x10 : Option Value} {x11 : Int32} : run Z nF C_W_next S_W_next Kx Q (f + 1) t_W_next_133 [some (.ref (x1)), some (.ref (x2)), some (.ref (x3)), some (.int (x4)), some (.int (x5)), some (.int (x6)), some (.int (x7)), some (.int (x8)), some (.int (x9)), x10] [.int (x11)] M = (run Z nF C_W_next S_W_next Kx Q f t_W_next_137 [some (.ref (x1)), some (.ref (x2)), some (.ref (x3)), some (.int (x4)), some (.int (x5)), some (.int (x6)), some (.int (x7)), some (.int (x8)), some (.int (x9)), x10] [.int (x11)] (M)) := id rfl
theorem g_W_next_136 {Z : Zt} {nF f : Nat} {Kx : Nat → Kt} {Q : Option Value → Mem → Prop} {M : Mem} {x1 : Nat} {x2 : Nat} {x3 : Nat} {x4 : Int32} {x5 : Int32} {x6 : Int32} {x7 : Int32} {x8 : Int32} {x9 : Int32} {x10 : Option Value} : run Z nF C_W_next S_W_next Kx Q (f + 1) t_W_next_136 [some (.ref (x1)), some (.ref (x2)), some (.ref (x3)), some (.int (x4)), some (.int (x5)), some (.int (x6)), some (.int (x7)), some (.int (x8)), some (.int (x9)), x10] [] M = (run Z nF C_W_next S_W_next Kx Q f t_W_next_137 [some (.ref (x1)), some (.ref (x2)), some (.ref (x3)), some (.int (x4)), some (.int (x5)), some (.int (x6)), some (.int (x7)), some (.int (x8)), some (.int (x9)), x10] [.int ((nI 0))] (M)) := id rfl
theorem g_W_next_137 {Z : Zt} {nF f : Nat} {Kx : Nat → Kt} {Q : Option Value → Mem → Prop} {M : Mem} {x1 : Nat} {x2 : Nat} {x3 : Nat} {x4 : Int32} {x5 : Int32} {x6 : Int32} {x7 : Int32} {x8 : Int32} {x9 : Int32} {x10 : Option Value} {x11 : Int32} : run Z nF C_W_next S_W_next Kx Q (f + 3) t_W_next_137 [some (.ref (x1)), some (.ref (x2)), some (.ref (x3)), some (.int (x4)), some (.int (x5)), some (.int (x6)), some (.int (x7)), some (.int (x8)), some (.int (x9)), x10] [.int (x11)] M = ((if (x8) = nI 0 then run Z nF C_W_next S_W_next Kx Q f t_W_next_162 [some (.ref (x1)), some (.ref (x2)), some (.ref (x3)), some (.int (x4)), some (.int (x5)), some (.int (x6)), some (.int (x7)), some (.int (x8)), some (.int (x11)), x10] [] (M) else run Z nF C_W_next S_W_next Kx Q f t_W_next_144 [some (.ref (x1)), some (.ref (x2)), some (.ref (x3)), some (.int (x4)), some (.int (x5)), some (.int (x6)), some (.int (x7)), some (.int (x8)), some (.int (x11)), x10] [] (M))) := id rfl
theorem g_W_next_144 {Z : Zt} {nF f : Nat} {Kx : Nat → Kt} {Q : Option Value → Mem → Prop} {M : Mem} {x1 : Nat} {x2 : Nat} {x3 : Nat} {x4 : Int32} {x5 : Int32} {x6 : Int32} {x7 : Int32} {x8 : Int32} {x9 : Int32} {x10 : Option Value} : run Z nF C_W_next S_W_next Kx Q (f + 2) t_W_next_144 [some (.ref (x1)), some (.ref (x2)), some (.ref (x3)), some (.int (x4)), some (.int (x5)), some (.int (x6)), some (.int (x7)), some (.int (x8)), some (.int (x9)), x10] [] M = ((if (x4) < nI 0 then run Z nF C_W_next S_W_next Kx Q f t_W_next_155 [some (.ref (x1)), some (.ref (x2)), some (.ref (x3)), some (.int (x4)), some (.int (x5)), some (.int (x6)), some (.int (x7)), some (.int (x8)), some (.int (x9)), x10] [] (M) else run Z nF C_W_next S_W_next Kx Q f t_W_next_148 [some (.ref (x1)), some (.ref (x2)), some (.ref (x3)), some (.int (x4)), some (.int (x5)), some (.int (x6)), some (.int (x7)), some (.int (x8)), some (.int (x9)), x10] [] (M))) := id rfl
theorem g_W_next_148 {Z : Zt} {nF f : Nat} {Kx : Nat → Kt} {Q : Option Value → Mem → Prop} {M : Mem} {x1 : Nat} {x2 : Nat} {x3 : Nat} {x4 : Int32} {x5 : Int32} {x6 : Int32} {x7 : Int32} {x8 : Int32} {x9 : Int32} {x10 : Option Value} : run Z nF C_W_next S_W_next Kx Q (f + 3) t_W_next_148 [some (.ref (x1)), some (.ref (x2)), some (.ref (x3)), some (.int (x4)), some (.int (x5)), some (.int (x6)), some (.int (x7)), some (.int (x8)), some (.int (x9)), x10] [] M = ((if (x5) ≤ (x9) then run Z nF C_W_next S_W_next Kx Q f t_W_next_162 [some (.ref (x1)), some (.ref (x2)), some (.ref (x3)), some (.int (x4)), some (.int (x5)), some (.int (x6)), some (.int (x7)), some (.int (x8)), some (.int (x9)), x10] [] (M) else run Z nF C_W_next S_W_next Kx Q f t_W_next_155 [some (.ref (x1)), some (.ref (x2)), some (.ref (x3)), some (.int (x4)), some (.int (x5)), some (.int (x6)), some (.int (x7)), some (.int (x8)), some (.int (x9)), x10] [] (M))) := id rfl
theorem g_W_next_155 {Z : Zt} {nF f : Nat} {Kx : Nat → Kt} {Q : Option Value → Mem → Prop} {M : Mem} {x1 : Nat} {x2 : Nat} {x3 : Nat} {x4 : Int32} {x5 : Int32} {x6 : Int32} {x7 : Int32} {x8 : Int32} {x9 : Int32} {x10 : Option Value} : run Z nF C_W_next S_W_next Kx Q (f + 4) t_W_next_155 [some (.ref (x1)), some (.ref (x2)), some (.ref (x3)), some (.int (x4)), some (.int (x5)), some (.int (x6)), some (.int (x7)), some (.int (x8)), some (.int (x9)), x10] [] M = (run Z nF C_W_next S_W_next Kx Q f t_W_next_162 [some (.ref (x1)), some (.ref (x2)), some (.ref (x3)), some (.int (x7)), some (.int (x9)), some (.int (x6)), some (.int (x7)), some (.int (x8)), some (.int (x9)), x10] [] (M)) := id rfl
theorem g_W_next_162 {Z : Zt} {nF f : Nat} {Kx : Nat → Kt} {Q : Option Value → Mem → Prop} {M : Mem} {x1 : Nat} {x2 : Nat} {x3 : Nat} {x4 : Int32} {x5 : Int32} {x6 : Int32} {x7 : Int32} {x8 : Int32} {x9 : Int32} {x10 : Option Value} : run Z nF C_W_next S_W_next Kx Q (f + 2) t_W_next_162 [some (.ref (x1)), some (.ref (x2)), some (.ref (x3)), some (.int (x4)), some (.int (x5)), some (.int (x6)), some (.int (x7)), some (.int (x8)), some (.int (x9)), x10] [] M = (Kx 8 [some (.ref (x1)), some (.ref (x2)), some (.ref (x3)), some (.int (x4)), some (.int (x5)), some (.int (x6 + (nI 1))), some (.int (x7)), some (.int (x8)), some (.int (x9)), x10] [] (M)) := id rfl
theorem g_W_next_168 {Z : Zt} {nF f : Nat} {Kx : Nat → Kt} {Q : Option Value → Mem → Prop} {M : Mem} {x1 : Nat} {x2 : Nat} {x3 : Nat} {x4 : Int32} {x5 : Int32} {x6 : Int32} {x7 : Option Value} {x8 : Option Value} {x9 : Option Value} {x10 : Option Value} : run Z nF C_W_next S_W_next Kx Q (f + 2) t_W_next_168 [some (.ref (x1)), some (.ref (x2)), some (.ref (x3)), some (.int (x4)), some (.int (x5)), some (.int (x6)), x7, x8, x9, x10] [] M = (Q (some (.int (x4))) (M)) := id rfl
section Nx
variable {Z : Zt} {d : Nat} {M : Mem} {a g y t : Nat} {Q : Option Value → Mem → Prop}
theorem l0_W_next {k : Int32} {b l : Int32} {x : Option Value} (i : Nat) (hx : ∀ x7 x8 x9 x10 : Option Value, X Z (d + 4) s_W_next (mN M) (mN M) Q 8 [some (.ref a), some (.ref g), some (.ref y), some (.int b), some (.int l), some (.int (nI (t + 1))), x7, x8, x9, x10] [] M) : X Z (d + 4) s_W_next (mN M) (mN M) Q 40 [some (.ref a), some (.ref g), some (.ref y), some (.int b), some (.int l), some (.int (nI t)), some (.int k), some (.int (nI 0)), some (.int (nI i)), x] [] M := by
  refine X_runT (C := C_W_next) (S := S_W_next) (T := t_W_next_40) 1000 kt_W_next (okE_cons (ok_W_firstOf Z (d + 2)) (okE_cons (ok_W_units Z (d + 2)) (okE_cons (ok_W_use Z (d + 1)) (okE_cons (ok_W_share Z d) okE_nil)))) ?_
  have := hx (some (.int k)) (some (.int (nI 0))) (some (.int (nI 0))) x
  simp (maxSteps := 3000000) (disch := first | exact True.intro | assumption | omega) only [↓eq_self, Option.toList_some, Option.toList_none, List.nil_append, List.cons_append, wsum_0, wsum_1, wsum_2, wsum_3, wsum_4, lkill, ↓reduceIte, if_true, if_false, Bool.false_eq_true, and_true, true_and, and_self, or_self, true_or, or_true, not_true, not_false_iff, mR_stI, mN_stI, isO_stI, isA_stI, mI_stI, mR_mW, mN_mW, isO_mW, isA_mW, mI_mW, mW_mW, stI_mW, vp_0, nI_add, nI_ltI, nI_leI, nI_eq, vpi, nI_clamp, nI_toN, nI_geT, pk_mul, pk_sub, bv_0n, bv_1n, ↓bv_01n, n01a, n01b, Nat.reduceSub, Nat.reduceAdd, Nat.reduceMul, u2_rw, rw_rw, rw_at, rw_ne, up_at, up_ne, Nat.zero_add, Nat.add_zero, lw_mW, m1_lt0, ite_nt, ↓g_W_next_0, ↓g_W_next_8, ↓g_W_next_17, ↓g_W_next_23, ↓g_W_next_30, ↓g_W_next_34, ↓g_W_next_35, ↓g_W_next_40, ↓g_W_next_46, ↓g_W_next_51, ↓g_W_next_60, ↓g_W_next_70, ↓g_W_next_91, ↓g_W_next_98, ↓g_W_next_108, ↓g_W_next_112, ↓g_W_next_113, ↓g_W_next_121, ↓g_W_next_126, ↓g_W_next_133, ↓g_W_next_136, ↓g_W_next_137, ↓g_W_next_144, ↓g_W_next_148, ↓g_W_next_155, ↓g_W_next_162, ↓g_W_next_168, ite_self]
  exact this
theorem l1_W_next {k : Nat} {b l : Int32} (ha : Lw M a) (hg : Lw M g) (hd : Lw M y) (hG : WnD (mI M g) 40) (ht : t < 3) (hk : k < 40) (hs : ShOk (mI M a) t) (hb : b < nI 0 ∨ ¬ l ≤ shW (mI M a) (mI M g) t 4 → ftW (mI M a) (mI M g) (mI M y) k t → ∀ x7 x8 x9 x10 : Option Value, X Z (d + 4) s_W_next (mN M) (mN M) Q 8 [some (.ref a), some (.ref g), some (.ref y), some (.int (nI k)), some (.int (shW (mI M a) (mI M g) t 4)), some (.int (nI (t + 1))), x7, x8, x9, x10] [] M)
    (hx : ¬ ((b < nI 0 ∨ ¬ l ≤ shW (mI M a) (mI M g) t 4) ∧ ftW (mI M a) (mI M g) (mI M y) k t) → ∀ x7 x8 x9 x10 : Option Value, X Z (d + 4) s_W_next (mN M) (mN M) Q 8 [some (.ref a), some (.ref g), some (.ref y), some (.int b), some (.int l), some (.int (nI (t + 1))), x7, x8, x9, x10] [] M) : ∀ n i x, i + n = 4 → (∀ j, j < i → fcW (mI M a) (mI M g) (mI M y) k t j) → X Z (d + 4) s_W_next (mN M) (mN M) Q 40 [some (.ref a), some (.ref g), some (.ref y), some (.int b), some (.int l), some (.int (nI t)), some (.int (nI k)), some (.int (nI 1)), some (.int (nI i)), x] [] M := by
  have hsh : ∀ {K : Option Value → Mem → Prop}, pcall e_W_share [.ref a, .ref g, .int (nI t)] M K = K (some (.int (shW (mI M a) (mI M g) t 4))) M := pc_W_share (a := a) (g := g) (t := t) ⟨ha, hg, hG, ht, hs⟩ (by omega)
  have h10 : (nI 1 = nI 0) = False := nI_n0 (by omega) (by omega)
  intro n
  induction n with
  | zero =>
    intro i x hi hj
    obtain rfl : i = 4 := by omega
    refine X_runT (C := C_W_next) (S := S_W_next) (T := t_W_next_40) 1000 kt_W_next (okE_cons (ok_W_firstOf Z (d + 2)) (okE_cons (ok_W_units Z (d + 2)) (okE_cons (ok_W_use Z (d + 1)) (okE_cons (ok_W_share Z d) okE_nil)))) ?_
    by_cases q : b < nI 0
    · have := hb (Or.inl q) hj (some (.int (nI k))) (some (.int (nI 1))) (some (.int (shW (mI M a) (mI M g) t 4))) x
      simp (maxSteps := 3000000) (disch := first | exact True.intro | assumption | omega) only [↓eq_self, Option.toList_some, Option.toList_none, List.nil_append, List.cons_append, wsum_0, wsum_1, wsum_2, wsum_3, wsum_4, lkill, ↓reduceIte, if_true, if_false, Bool.false_eq_true, and_true, true_and, and_self, or_self, true_or, or_true, not_true, not_false_iff, mR_stI, mN_stI, isO_stI, isA_stI, mI_stI, mR_mW, mN_mW, isO_mW, isA_mW, mI_mW, mW_mW, stI_mW, vp_0, nI_add, nI_ltI, nI_leI, nI_eq, vpi, nI_clamp, nI_toN, nI_geT, pk_mul, pk_sub, bv_0n, bv_1n, ↓bv_01n, n01a, n01b, Nat.reduceSub, Nat.reduceAdd, Nat.reduceMul, u2_rw, rw_rw, rw_at, rw_ne, up_at, up_ne, Nat.zero_add, Nat.add_zero, lw_mW, m1_lt0, ite_nt, ↓g_W_next_0, ↓g_W_next_8, ↓g_W_next_17, ↓g_W_next_23, ↓g_W_next_30, ↓g_W_next_34, ↓g_W_next_35, ↓g_W_next_40, ↓g_W_next_46, ↓g_W_next_51, ↓g_W_next_60, ↓g_W_next_70, ↓g_W_next_91, ↓g_W_next_98, ↓g_W_next_108, ↓g_W_next_112, ↓g_W_next_113, ↓g_W_next_121, ↓g_W_next_126, ↓g_W_next_133, ↓g_W_next_136, ↓g_W_next_137, ↓g_W_next_144, ↓g_W_next_148, ↓g_W_next_155, ↓g_W_next_162, ↓g_W_next_168, Nat.le_refl, h10, hsh, q]
      exact this
    · by_cases q2 : l ≤ shW (mI M a) (mI M g) t 4
      · have := hx (fun z => z.1.elim q (fun z => z q2)) (some (.int (nI k))) (some (.int (nI 1))) (some (.int (shW (mI M a) (mI M g) t 4))) x
        simp (maxSteps := 3000000) (disch := first | exact True.intro | assumption | omega) only [↓eq_self, Option.toList_some, Option.toList_none, List.nil_append, List.cons_append, wsum_0, wsum_1, wsum_2, wsum_3, wsum_4, lkill, ↓reduceIte, if_true, if_false, Bool.false_eq_true, and_true, true_and, and_self, or_self, true_or, or_true, not_true, not_false_iff, mR_stI, mN_stI, isO_stI, isA_stI, mI_stI, mR_mW, mN_mW, isO_mW, isA_mW, mI_mW, mW_mW, stI_mW, vp_0, nI_add, nI_ltI, nI_leI, nI_eq, vpi, nI_clamp, nI_toN, nI_geT, pk_mul, pk_sub, bv_0n, bv_1n, ↓bv_01n, n01a, n01b, Nat.reduceSub, Nat.reduceAdd, Nat.reduceMul, u2_rw, rw_rw, rw_at, rw_ne, up_at, up_ne, Nat.zero_add, Nat.add_zero, lw_mW, m1_lt0, ite_nt, ↓g_W_next_0, ↓g_W_next_8, ↓g_W_next_17, ↓g_W_next_23, ↓g_W_next_30, ↓g_W_next_34, ↓g_W_next_35, ↓g_W_next_40, ↓g_W_next_46, ↓g_W_next_51, ↓g_W_next_60, ↓g_W_next_70, ↓g_W_next_91, ↓g_W_next_98, ↓g_W_next_108, ↓g_W_next_112, ↓g_W_next_113, ↓g_W_next_121, ↓g_W_next_126, ↓g_W_next_133, ↓g_W_next_136, ↓g_W_next_137, ↓g_W_next_144, ↓g_W_next_148, ↓g_W_next_155, ↓g_W_next_162, ↓g_W_next_168, Nat.le_refl, h10, hsh, q, q2]
        exact this
      · have := hb (Or.inr q2) hj (some (.int (nI k))) (some (.int (nI 1))) (some (.int (shW (mI M a) (mI M g) t 4))) x
        simp (maxSteps := 3000000) (disch := first | exact True.intro | assumption | omega) only [↓eq_self, Option.toList_some, Option.toList_none, List.nil_append, List.cons_append, wsum_0, wsum_1, wsum_2, wsum_3, wsum_4, lkill, ↓reduceIte, if_true, if_false, Bool.false_eq_true, and_true, true_and, and_self, or_self, true_or, or_true, not_true, not_false_iff, mR_stI, mN_stI, isO_stI, isA_stI, mI_stI, mR_mW, mN_mW, isO_mW, isA_mW, mI_mW, mW_mW, stI_mW, vp_0, nI_add, nI_ltI, nI_leI, nI_eq, vpi, nI_clamp, nI_toN, nI_geT, pk_mul, pk_sub, bv_0n, bv_1n, ↓bv_01n, n01a, n01b, Nat.reduceSub, Nat.reduceAdd, Nat.reduceMul, u2_rw, rw_rw, rw_at, rw_ne, up_at, up_ne, Nat.zero_add, Nat.add_zero, lw_mW, m1_lt0, ite_nt, ↓g_W_next_0, ↓g_W_next_8, ↓g_W_next_17, ↓g_W_next_23, ↓g_W_next_30, ↓g_W_next_34, ↓g_W_next_35, ↓g_W_next_40, ↓g_W_next_46, ↓g_W_next_51, ↓g_W_next_60, ↓g_W_next_70, ↓g_W_next_91, ↓g_W_next_98, ↓g_W_next_108, ↓g_W_next_112, ↓g_W_next_113, ↓g_W_next_121, ↓g_W_next_126, ↓g_W_next_133, ↓g_W_next_136, ↓g_W_next_137, ↓g_W_next_144, ↓g_W_next_148, ↓g_W_next_155, ↓g_W_next_162, ↓g_W_next_168, Nat.le_refl, h10, hsh, q, q2]
        exact this
  | succ n ih =>
    intro i x hi hj
    have h1 : ¬ 4 ≤ i := by omega
    have hu : ∀ {t : Int32} {K : Option Value → Mem → Prop}, pcall e_W_use [.ref g, .int (nI i), .int t] M K = K (some (.int (usL (mI M g) i t))) M := pc_W_use (g := g) (r := i) ⟨hg, hG⟩ (by omega)
    have hno : ∀ x, ¬ fcW (mI M a) (mI M g) (mI M y) k t i → X Z (d + 4) s_W_next (mN M) (mN M) Q 40 [some (.ref a), some (.ref g), some (.ref y), some (.int b), some (.int l), some (.int (nI t)), some (.int (nI k)), some (.int (nI 0)), some (.int (nI (i + 1))), x] [] M := fun x q => l0_W_next (i + 1) (hx (fun z => q (z.2 i (by omega))))
    refine X_runT (C := C_W_next) (S := S_W_next) (T := t_W_next_40) 1000 kt_W_next (okE_cons (ok_W_firstOf Z (d + 2)) (okE_cons (ok_W_units Z (d + 2)) (okE_cons (ok_W_use Z (d + 1)) (okE_cons (ok_W_share Z d) okE_nil)))) ?_
    by_cases q1 : mI M a (8 + 12 * t + 4 + i) < usL (mI M g) i (nI t) + unV (mI M y k) i
    · have := hno (some (.int (unV (mI M y k) i))) (fun z => z.1 q1)
      simp (maxSteps := 3000000) (disch := first | exact True.intro | assumption | omega) only [↓eq_self, Option.toList_some, Option.toList_none, List.nil_append, List.cons_append, wsum_0, wsum_1, wsum_2, wsum_3, wsum_4, lkill, ↓reduceIte, if_true, if_false, Bool.false_eq_true, and_true, true_and, and_self, or_self, true_or, or_true, not_true, not_false_iff, mR_stI, mN_stI, isO_stI, isA_stI, mI_stI, mR_mW, mN_mW, isO_mW, isA_mW, mI_mW, mW_mW, stI_mW, vp_0, nI_add, nI_ltI, nI_leI, nI_eq, vpi, nI_clamp, nI_toN, nI_geT, pk_mul, pk_sub, bv_0n, bv_1n, ↓bv_01n, n01a, n01b, Nat.reduceSub, Nat.reduceAdd, Nat.reduceMul, u2_rw, rw_rw, rw_at, rw_ne, up_at, up_ne, Nat.zero_add, Nat.add_zero, lw_mW, m1_lt0, ite_nt, ↓g_W_next_0, ↓g_W_next_8, ↓g_W_next_17, ↓g_W_next_23, ↓g_W_next_30, ↓g_W_next_34, ↓g_W_next_35, ↓g_W_next_40, ↓g_W_next_46, ↓g_W_next_51, ↓g_W_next_60, ↓g_W_next_70, ↓g_W_next_91, ↓g_W_next_98, ↓g_W_next_108, ↓g_W_next_112, ↓g_W_next_113, ↓g_W_next_121, ↓g_W_next_126, ↓g_W_next_133, ↓g_W_next_136, ↓g_W_next_137, ↓g_W_next_144, ↓g_W_next_148, ↓g_W_next_155, ↓g_W_next_162, ↓g_W_next_168, h1, h10, hu, lwA ha, lwA hd, pc_W_units, q1]
      exact this
    · by_cases q2 : mI M a i < usL (mI M g) i (-1) + unV (mI M y k) i
      · have := hno (some (.int (unV (mI M y k) i))) (fun z => z.2 q2)
        simp (maxSteps := 3000000) (disch := first | exact True.intro | assumption | omega) only [↓eq_self, Option.toList_some, Option.toList_none, List.nil_append, List.cons_append, wsum_0, wsum_1, wsum_2, wsum_3, wsum_4, lkill, ↓reduceIte, if_true, if_false, Bool.false_eq_true, and_true, true_and, and_self, or_self, true_or, or_true, not_true, not_false_iff, mR_stI, mN_stI, isO_stI, isA_stI, mI_stI, mR_mW, mN_mW, isO_mW, isA_mW, mI_mW, mW_mW, stI_mW, vp_0, nI_add, nI_ltI, nI_leI, nI_eq, vpi, nI_clamp, nI_toN, nI_geT, pk_mul, pk_sub, bv_0n, bv_1n, ↓bv_01n, n01a, n01b, Nat.reduceSub, Nat.reduceAdd, Nat.reduceMul, u2_rw, rw_rw, rw_at, rw_ne, up_at, up_ne, Nat.zero_add, Nat.add_zero, lw_mW, m1_lt0, ite_nt, ↓g_W_next_0, ↓g_W_next_8, ↓g_W_next_17, ↓g_W_next_23, ↓g_W_next_30, ↓g_W_next_34, ↓g_W_next_35, ↓g_W_next_40, ↓g_W_next_46, ↓g_W_next_51, ↓g_W_next_60, ↓g_W_next_70, ↓g_W_next_91, ↓g_W_next_98, ↓g_W_next_108, ↓g_W_next_112, ↓g_W_next_113, ↓g_W_next_121, ↓g_W_next_126, ↓g_W_next_133, ↓g_W_next_136, ↓g_W_next_137, ↓g_W_next_144, ↓g_W_next_148, ↓g_W_next_155, ↓g_W_next_162, ↓g_W_next_168, h1, h10, hu, lwA ha, lwA hd, pc_W_units, q1, q2]
        exact this
      · have := ih (i + 1) (some (.int (unV (mI M y k) i))) (by omega) (fun j hj2 => by
          by_cases z : j = i
          · rw [z]
            exact ⟨q1, q2⟩
          · exact hj j (by omega))
        simp (maxSteps := 3000000) (disch := first | exact True.intro | assumption | omega) only [↓eq_self, Option.toList_some, Option.toList_none, List.nil_append, List.cons_append, wsum_0, wsum_1, wsum_2, wsum_3, wsum_4, lkill, ↓reduceIte, if_true, if_false, Bool.false_eq_true, and_true, true_and, and_self, or_self, true_or, or_true, not_true, not_false_iff, mR_stI, mN_stI, isO_stI, isA_stI, mI_stI, mR_mW, mN_mW, isO_mW, isA_mW, mI_mW, mW_mW, stI_mW, vp_0, nI_add, nI_ltI, nI_leI, nI_eq, vpi, nI_clamp, nI_toN, nI_geT, pk_mul, pk_sub, bv_0n, bv_1n, ↓bv_01n, n01a, n01b, Nat.reduceSub, Nat.reduceAdd, Nat.reduceMul, u2_rw, rw_rw, rw_at, rw_ne, up_at, up_ne, Nat.zero_add, Nat.add_zero, lw_mW, m1_lt0, ite_nt, ↓g_W_next_0, ↓g_W_next_8, ↓g_W_next_17, ↓g_W_next_23, ↓g_W_next_30, ↓g_W_next_34, ↓g_W_next_35, ↓g_W_next_40, ↓g_W_next_46, ↓g_W_next_51, ↓g_W_next_60, ↓g_W_next_70, ↓g_W_next_91, ↓g_W_next_98, ↓g_W_next_108, ↓g_W_next_112, ↓g_W_next_113, ↓g_W_next_121, ↓g_W_next_126, ↓g_W_next_133, ↓g_W_next_136, ↓g_W_next_137, ↓g_W_next_144, ↓g_W_next_148, ↓g_W_next_155, ↓g_W_next_162, ↓g_W_next_168, h1, h10, hu, lwA ha, lwA hd, pc_W_units, q1, q2]
        exact this
end Nx
theorem foW_cases (w : Nat → Int32) (t : Int32) : foW w t = -1 ∨ ∃ k, k < wn w ∧ foW w t = nI k := by
  have : ∀ n i, fwR (fun k => owV (w k) = t) n i = -1 ∨ ∃ k, k < i + n ∧ fwR (fun k => owV (w k) = t) n i = nI k := by
    intro n
    induction n with
    | zero => intro i; exact Or.inl rfl
    | succ n ih =>
      intro i
      unfold fwR
      by_cases q : owV (w i) = t
      · rw [if_pos q]
        exact Or.inr ⟨i, by omega, rfl⟩
      · rw [if_neg q]
        rcases ih (i + 1) with h | ⟨k, h1, h2⟩
        · exact Or.inl h
        · exact Or.inr ⟨k, by omega, h2⟩
  rcases this (wn w) 0 with h | ⟨k, h1, h2⟩
  · exact Or.inl h
  · exact Or.inr ⟨k, by omega, h2⟩
theorem m1_n0 : (-1 : Int32) < nI 0 := by decide
theorem nI_nn {k : Nat} (h : k < 2 ^ 31) : ¬ nI k < nI 0 := by
  rw [nI_ltI h (by omega)]
  omega
set_option maxRecDepth 100000 in
set_option maxHeartbeats 4000000 in
theorem lp_W_next (Z : Zt) (d : Nat) {M : Mem} {a g y : Nat} (ha : Lw M a) (hg : Lw M g) (hd : Lw M y) (hG : WnD (mI M g) 40) (hD : WnD (mI M y) 40) (hA : ATD (mI M a)) (hs : ∀ t, t < aT (mI M a) → ShOk (mI M a) t) : ∀ n t x7 x8 x9 x10, t + n = aT (mI M a) → X Z (d + 4) s_W_next (mN M) (mN M) (ex (some (.int (nxW (mI M a) (mI M g) (mI M y)))) M) 8 [some (.ref a), some (.ref g), some (.ref y), some (.int (nxP (mI M a) (mI M g) (mI M y) t).1), some (.int (nxP (mI M a) (mI M g) (mI M y) t).2), some (.int (nI t)), x7, x8, x9, x10] [] M := by
  have e44 := hA.1
  have hT3 := hA.2
  have h40 := hD.2
  intro n
  induction n with
  | zero =>
    intro t x7 x8 x9 x10 hi
    obtain rfl : t = aT (mI M a) := by omega
    refine X_runT (C := C_W_next) (S := S_W_next) (T := t_W_next_8) 1000 kt_W_next (okE_cons (ok_W_firstOf Z (d + 2)) (okE_cons (ok_W_units Z (d + 2)) (okE_cons (ok_W_use Z (d + 1)) (okE_cons (ok_W_share Z d) okE_nil)))) ?_
    simp (maxSteps := 3000000) (disch := first | exact True.intro | assumption | omega) only [↓eq_self, Option.toList_some, Option.toList_none, List.nil_append, List.cons_append, wsum_0, wsum_1, wsum_2, wsum_3, wsum_4, lkill, ↓reduceIte, if_true, if_false, Bool.false_eq_true, and_true, true_and, and_self, or_self, true_or, or_true, not_true, not_false_iff, mR_stI, mN_stI, isO_stI, isA_stI, mI_stI, mR_mW, mN_mW, isO_mW, isA_mW, mI_mW, mW_mW, stI_mW, vp_0, nI_add, nI_ltI, nI_leI, nI_eq, vpi, nI_clamp, nI_toN, nI_geT, pk_mul, pk_sub, bv_0n, bv_1n, ↓bv_01n, n01a, n01b, Nat.reduceSub, Nat.reduceAdd, Nat.reduceMul, u2_rw, rw_rw, rw_at, rw_ne, up_at, up_ne, Nat.zero_add, Nat.add_zero, lw_mW, m1_lt0, ite_nt, ↓g_W_next_8, ↓g_W_next_17, ↓g_W_next_168, lwA ha, e44, Nat.le_refl]
    exact ⟨rfl, rfl⟩
  | succ n ih =>
    intro t x7 x8 x9 x10 hi
    have h1 : ¬ aT (mI M a) ≤ t := by omega
    have hf : ∀ {K : Option Value → Mem → Prop}, pcall e_W_firstOf [.ref y, .int (nI t)] M K = K (some (.int (foW (mI M y) (nI t)))) M := pc_W_firstOf (a := y) (t := nI t) ⟨hd, hD⟩
    refine X_runT (C := C_W_next) (S := S_W_next) (T := t_W_next_8) 1000 kt_W_next (okE_cons (ok_W_firstOf Z (d + 2)) (okE_cons (ok_W_units Z (d + 2)) (okE_cons (ok_W_use Z (d + 1)) (okE_cons (ok_W_share Z d) okE_nil)))) ?_
    rcases foW_cases (mI M y) (nI t) with q | ⟨k, hk, q⟩
    · have hx := fun x7 x8 x9 x10 => ih (t + 1) x7 x8 x9 x10 (by omega)
      have en : nxP (mI M a) (mI M g) (mI M y) (t + 1) = nxP (mI M a) (mI M g) (mI M y) t := by
        rw [nxP, if_neg (fun z => z.1 (by rw [q]; exact m1_n0))]
      rw [en] at hx
      have := l0_W_next (k := -1) (x := x10) 0 hx
      have q0 := eq_true m1_n0
      simp (maxSteps := 3000000) (disch := first | exact True.intro | assumption | omega) only [↓eq_self, Option.toList_some, Option.toList_none, List.nil_append, List.cons_append, wsum_0, wsum_1, wsum_2, wsum_3, wsum_4, lkill, ↓reduceIte, if_true, if_false, Bool.false_eq_true, and_true, true_and, and_self, or_self, true_or, or_true, not_true, not_false_iff, mR_stI, mN_stI, isO_stI, isA_stI, mI_stI, mR_mW, mN_mW, isO_mW, isA_mW, mI_mW, mW_mW, stI_mW, vp_0, nI_add, nI_ltI, nI_leI, nI_eq, vpi, nI_clamp, nI_toN, nI_geT, pk_mul, pk_sub, bv_0n, bv_1n, ↓bv_01n, n01a, n01b, Nat.reduceSub, Nat.reduceAdd, Nat.reduceMul, u2_rw, rw_rw, rw_at, rw_ne, up_at, up_ne, Nat.zero_add, Nat.add_zero, lw_mW, m1_lt0, ite_nt, ↓g_W_next_8, ↓g_W_next_17, ↓g_W_next_23, ↓g_W_next_30, ↓g_W_next_34, ↓g_W_next_35, lwA ha, e44, h1, hf, q, q0]
      exact this
    · have q0 := eq_false (nI_nn (k := k) (by omega))
      have hx := fun x7 x8 x9 x10 => ih (t + 1) x7 x8 x9 x10 (by omega)
      rw [nxP, q, nI_clamp (by omega)] at hx
      have := l1_W_next (d := d) (Q := ex (some (.int (nxW (mI M a) (mI M g) (mI M y)))) M) (b := (nxP (mI M a) (mI M g) (mI M y) t).1) (l := (nxP (mI M a) (mI M g) (mI M y) t).2) (k := k) ha hg hd hG (t := t) (by omega) (by omega) (hs t (by omega)) (fun z1 z2 => by
        rw [if_pos ⟨nI_nn (by omega), z2, z1⟩] at hx
        exact hx) (fun z => by
        rw [if_neg (fun z3 => z ⟨z3.2.2, z3.2.1⟩)] at hx
        exact hx) 4 0 x10 rfl (fun j hj => absurd hj (Nat.not_lt_zero _))
      simp (maxSteps := 3000000) (disch := first | exact True.intro | assumption | omega) only [↓eq_self, Option.toList_some, Option.toList_none, List.nil_append, List.cons_append, wsum_0, wsum_1, wsum_2, wsum_3, wsum_4, lkill, ↓reduceIte, if_true, if_false, Bool.false_eq_true, and_true, true_and, and_self, or_self, true_or, or_true, not_true, not_false_iff, mR_stI, mN_stI, isO_stI, isA_stI, mI_stI, mR_mW, mN_mW, isO_mW, isA_mW, mI_mW, mW_mW, stI_mW, vp_0, nI_add, nI_ltI, nI_leI, nI_eq, vpi, nI_clamp, nI_toN, nI_geT, pk_mul, pk_sub, bv_0n, bv_1n, ↓bv_01n, n01a, n01b, Nat.reduceSub, Nat.reduceAdd, Nat.reduceMul, u2_rw, rw_rw, rw_at, rw_ne, up_at, up_ne, Nat.zero_add, Nat.add_zero, lw_mW, m1_lt0, ite_nt, ↓g_W_next_8, ↓g_W_next_17, ↓g_W_next_23, ↓g_W_next_30, ↓g_W_next_34, ↓g_W_next_35, lwA ha, e44, h1, hf, q, q0]
      exact this
set_option maxRecDepth 100000 in
set_option maxHeartbeats 4000000 in
theorem ok_W_next (Z : Zt) (d : Nat) : okE Z (d + 4) i_W_next e_W_next := mk_W_next fun a g y M hp => by
  obtain ⟨ha, hg, hd, hG, hD, hA, hs⟩ := hp
  refine Gm_run (C := C_W_next) (S := S_W_next) [some (.ref a), some (.ref g), some (.ref y), none, none, none, none, none, none, none] 1000 kt_W_next (okE_cons (ok_W_firstOf Z (d + 2)) (okE_cons (ok_W_units Z (d + 2)) (okE_cons (ok_W_use Z (d + 1)) (okE_cons (ok_W_share Z d) okE_nil)))) (ex_n rfl) ?_
  simp (maxSteps := 3000000) (disch := first | exact True.intro | assumption | omega) only [↓eq_self, Option.toList_some, Option.toList_none, List.nil_append, List.cons_append, wsum_0, wsum_1, wsum_2, wsum_3, wsum_4, lkill, ↓reduceIte, if_true, if_false, Bool.false_eq_true, and_true, true_and, and_self, or_self, true_or, or_true, not_true, not_false_iff, mR_stI, mN_stI, isO_stI, isA_stI, mI_stI, mR_mW, mN_mW, isO_mW, isA_mW, mI_mW, mW_mW, stI_mW, vp_0, nI_add, nI_ltI, nI_leI, nI_eq, vpi, nI_clamp, nI_toN, nI_geT, pk_mul, pk_sub, bv_0n, bv_1n, ↓bv_01n, n01a, n01b, Nat.reduceSub, Nat.reduceAdd, Nat.reduceMul, u2_rw, rw_rw, rw_at, rw_ne, up_at, up_ne, Nat.zero_add, Nat.add_zero, lw_mW, m1_lt0, ite_nt, ↓g_W_next_0]
  exact lp_W_next Z d ha hg hd hG hD hA hs _ 0 none none none none (Nat.zero_add _)
/-! a vector out of a number -/
def vcN (x : Int32) (r : Nat) : Nat := if lowF (x >>> (nI (3 * r) &&& 31)) 3 = 0 then 0 else lowF (x >>> (nI (5 * r) &&& 31)) 30
def vcW (x : Int32) : Nat → Int32
  | 0 => nI 0
  | r + 1 => vcW x r ||| (nI (vcN x r) <<< (nI (7 * r) &&& 31))
def e_W_vector : Ent := (fun av M => ∃ (x : Int32), av = [.int x] ∧ (True), fun av M r_ M_ => ∀ (x : Int32), av = [.int x] → r_ = (some (.int (vcW x 4))) ∧ M_ = (M))
theorem pc_W_vector {x : Int32} {M : Mem} {K : Option Value → Mem → Prop} (hp : True) : pcall e_W_vector [.int x] M K = K (some (.int (vcW x 4))) (M) := propext ⟨fun h => h.2 _ _ (fun x' e => by simp only [List.cons.injEq, Value.ref.injEq, Value.int.injEq, Value.long.injEq, and_true] at e; have q0 := e; obtain rfl := q0; exact ⟨rfl, rfl⟩), fun h => ⟨⟨x, rfl, hp⟩, fun r_ M_ q => by obtain ⟨rfl, rfl⟩ := q _ rfl; exact h⟩⟩
theorem mk_W_vector {Z : Zt} {d : Nat} (h : ∀ (x : Int32) (M : Mem), (True) → Gm Z d s_W_vector [.int x] M (ex (some (.int (vcW x 4))) (M))) : okE Z d i_W_vector e_W_vector := by
  rintro av M ⟨x, rfl, hp⟩
  exact Gm.cons (h x M  hp) (fun r_ M_ q x' e => by simp only [List.cons.injEq, Value.ref.injEq, Value.int.injEq, Value.long.injEq, and_true] at e; have q0 := e; obtain rfl := q0; exact q)
def C_W_vector : List (Nat × Ent) := [(i_W_low, e_W_low)]
abbrev S_W_vector : List Nat := [4]
def t_W_vector_49 : List PI := (49, 1, 0, 1, 0, 0, []) :: (50, 9, 0, 0, 0, 0, []) :: []
def t_W_vector_36 : List PI := (36, 0, 0, 0, 1, 7, []) :: (38, 1, 0, 2, 0, 0, []) :: (39, 2, 2, 0, 0, 0, []) :: (40, 2, 8, 0, 0, 0, []) :: (41, 2, 7, 0, 0, 0, []) :: (42, 1, 3, 1, 0, 0, []) :: (43, 1, 6, 2, 0, 1, []) :: (46, 6, 0, 4, 0, 0, []) :: t_W_vector_49
def t_W_vector_26 : List PI := (26, 1, 0, 0, 0, 0, []) :: (27, 0, 0, 0, 0, 5, []) :: (28, 1, 0, 2, 0, 0, []) :: (29, 2, 2, 0, 0, 0, []) :: (30, 2, 9, 0, 0, 0, []) :: (31, 0, 0, 0, 1, 30, []) :: (33, 11, 1, 0, 74, 0, [33, 2]) :: t_W_vector_36
def t_W_vector_22 : List PI := (22, 0, 0, 0, 0, 0, []) :: (23, 6, 0, 36, 0, 0, []) :: t_W_vector_26
def t_W_vector_19 : List PI := (19, 5, 1, 26, 0, 0, []) :: t_W_vector_22
def t_W_vector_9 : List PI := (9, 1, 0, 1, 0, 0, []) :: (10, 1, 0, 0, 0, 0, []) :: (11, 0, 0, 0, 0, 3, []) :: (12, 1, 0, 2, 0, 0, []) :: (13, 2, 2, 0, 0, 0, []) :: (14, 2, 9, 0, 0, 0, []) :: (15, 0, 0, 0, 0, 3, []) :: (16, 11, 1, 0, 74, 0, [33, 2]) :: t_W_vector_19
def t_W_vector_4 : List PI := (4, 1, 0, 2, 0, 0, []) :: (5, 0, 0, 0, 0, 4, []) :: (6, 4, 3, 49, 0, 0, []) :: t_W_vector_9
def t_W_vector_0 : List PI := (0, 0, 0, 0, 0, 0, []) :: (1, 1, 3, 1, 0, 0, []) :: (2, 0, 0, 0, 0, 0, []) :: (3, 1, 3, 2, 0, 0, []) :: t_W_vector_4
theorem kt_W_vector : okP s_W_vector t_W_vector_0 := k_W_vector
theorem g_W_vector_0 {Z : Zt} {nF f : Nat} {Kx : Nat → Kt} {Q : Option Value → Mem → Prop} {M : Mem} {x1 : Int32} : run Z nF C_W_vector S_W_vector Kx Q (f + 4) t_W_vector_0 [some (.int (x1)), none, none] [] M = (Kx 4 [some (.int (x1)), some (.int ((nI 0))), some (.int ((nI 0)))] [] (M)) := id rfl
theorem g_W_vector_4 {Z : Zt} {nF f : Nat} {Kx : Nat → Kt} {Q : Option Value → Mem → Prop} {M : Mem} {x1 : Int32} {x2 : Int32} {x3 : Int32} : run Z nF C_W_vector S_W_vector Kx Q (f + 3) t_W_vector_4 [some (.int (x1)), some (.int (x2)), some (.int (x3))] [] M = ((if ((nI 4)) ≤ (x3) then run Z nF C_W_vector S_W_vector Kx Q f t_W_vector_49 [some (.int (x1)), some (.int (x2)), some (.int (x3))] [] (M) else run Z nF C_W_vector S_W_vector Kx Q f t_W_vector_9 [some (.int (x1)), some (.int (x2)), some (.int (x3))] [] (M))) := id rfl
theorem g_W_vector_9 {Z : Zt} {nF f : Nat} {Kx : Nat → Kt} {Q : Option Value → Mem → Prop} {M : Mem} {x1 : Int32} {x2 : Int32} {x3 : Int32} : run Z nF C_W_vector S_W_vector Kx Q (f + 8) t_W_vector_9 [some (.int (x1)), some (.int (x2)), some (.int (x3))] [] M = (((True) ∧ wsum [.int (x2)] ≤ 8) ∧ pcall e_W_low [.int ((x1) >>> ((((nI 3)) * (x3)) &&& 31)), .int ((nI 3))] (M) (fun v M_ => run Z nF C_W_vector S_W_vector Kx Q f t_W_vector_19 [some (.int (x1)), some (.int (x2)), some (.int (x3))] (v.toList ++ [.int (x2)]) M_)) := id rfl
theorem g_W_vector_19 {Z : Zt} {nF f : Nat} {Kx : Nat → Kt} {Q : Option Value → Mem → Prop} {M : Mem} {x1 : Int32} {x2 : Int32} {x3 : Int32} {x4 : Int32} {x5 : Int32} : run Z nF C_W_vector S_W_vector Kx Q (f + 1) t_W_vector_19 [some (.int (x1)), some (.int (x2)), some (.int (x3))] [.int (x4), .int (x5)] M = ((if (x4) = nI 0 then run Z nF C_W_vector S_W_vector Kx Q f t_W_vector_22 [some (.int (x1)), some (.int (x2)), some (.int (x3))] [.int (x5)] (M) else run Z nF C_W_vector S_W_vector Kx Q f t_W_vector_26 [some (.int (x1)), some (.int (x2)), some (.int (x3))] [.int (x5)] (M))) := id rfl
theorem g_W_vector_22 {Z : Zt} {nF f : Nat} {Kx : Nat → Kt} {Q : Option Value → Mem → Prop} {M : Mem} {x1 : Int32} {x2 : Int32} {x3 : Int32} {x4 : Int32} : run Z nF C_W_vector S_W_vector Kx Q (f + 2) t_W_vector_22 [some (.int (x1)), some (.int (x2)), some (.int (x3))] [.int (x4)] M = (run Z nF C_W_vector S_W_vector Kx Q f t_W_vector_36 [some (.int (x1)), some (.int (x2)), some (.int (x3))] [.int ((nI 0)), .int (x4)] (M)) := id rfl
theorem g_W_vector_26 {Z : Zt} {nF f : Nat} {Kx : Nat → Kt} {Q : Option Value → Mem → Prop} {M : Mem} {x1 : Int32} {x2 : Int32} {x3 : Int32} {x4 : Int32} : run Z nF C_W_vector S_W_vector Kx Q (f + 7) t_W_vector_26 [some (.int (x1)), some (.int (x2)), some (.int (x3))] [.int (x4)] M = (((True) ∧ wsum [.int (x4)] ≤ 8) ∧ pcall e_W_low [.int ((x1) >>> ((((nI 5)) * (x3)) &&& 31)), .int ((nI 30))] (M) (fun v M_ => run Z nF C_W_vector S_W_vector Kx Q f t_W_vector_36 [some (.int (x1)), some (.int (x2)), some (.int (x3))] (v.toList ++ [.int (x4)]) M_)) := id rfl
theorem g_W_vector_36 {Z : Zt} {nF f : Nat} {Kx : Nat → Kt} {Q : Option Value → Mem → Prop} {M : Mem} {x1 : Int32} {x2 : Int32} {x3 : Int32} {x4 : Int32} {x5 : Int32} : run Z nF C_W_vector S_W_vector Kx Q (f + 8) t_W_vector_36 [some (.int (x1)), some (.int (x2)), some (.int (x3))] [.int (x4), .int (x5)] M = (Kx 4 [some (.int (x1)), some (.int ((x5) ||| ((x4) <<< ((((nI 7)) * (x3)) &&& 31)))), some (.int (x3 + (nI 1)))] [] (M)) := id rfl
theorem g_W_vector_49 {Z : Zt} {nF f : Nat} {Kx : Nat → Kt} {Q : Option Value → Mem → Prop} {M : Mem} {x1 : Int32} {x2 : Int32} {x3 : Int32} : run Z nF C_W_vector S_W_vector Kx Q (f + 2) t_W_vector_49 [some (.int (x1)), some (.int (x2)), some (.int (x3))] [] M = (Q (some (.int (x2))) (M)) := id rfl
set_option maxRecDepth 100000 in
set_option maxHeartbeats 4000000 in
theorem lp_W_vector (Z : Zt) (d : Nat) {M : Mem} {x : Int32} : ∀ n i, i + n = 4 → X Z (d + 2) s_W_vector (mN M) (mN M) (ex (some (.int (vcW x 4))) M) 4 [some (.int x), some (.int (vcW x i)), some (.int (nI i))] [] M := by
  intro n
  induction n with
  | zero =>
    intro i hi
    obtain rfl : i = 4 := by omega
    refine X_runT (C := C_W_vector) (S := S_W_vector) (T := t_W_vector_4) 1000 kt_W_vector (okE_cons (ok_W_low Z d) okE_nil) ?_
    simp (maxSteps := 3000000) (disch := first | exact True.intro | assumption | omega) only [↓eq_self, Option.toList_some, Option.toList_none, List.nil_append, List.cons_append, wsum_0, wsum_1, wsum_2, wsum_3, wsum_4, lkill, ↓reduceIte, if_true, if_false, Bool.false_eq_true, and_true, true_and, and_self, or_self, true_or, or_true, not_true, not_false_iff, mR_stI, mN_stI, isO_stI, isA_stI, mI_stI, mR_mW, mN_mW, isO_mW, isA_mW, mI_mW, mW_mW, stI_mW, vp_0, nI_add, nI_ltI, nI_leI, nI_eq, vpi, nI_clamp, nI_toN, nI_geT, pk_mul, pk_sub, bv_0n, bv_1n, ↓bv_01n, n01a, n01b, Nat.reduceSub, Nat.reduceAdd, Nat.reduceMul, u2_rw, rw_rw, rw_at, rw_ne, up_at, up_ne, Nat.zero_add, Nat.add_zero, lw_mW, m1_lt0, ite_nt, ↓g_W_vector_0, ↓g_W_vector_4, ↓g_W_vector_9, ↓g_W_vector_19, ↓g_W_vector_22, ↓g_W_vector_26, ↓g_W_vector_36, ↓g_W_vector_49, Nat.le_refl]
    exact ⟨rfl, rfl⟩
  | succ n ih =>
    intro i hi
    have h1 : ¬ 4 ≤ i := by omega
    have hx := ih (i + 1) (by omega)
    rw [show vcW x (i + 1) = vcW x i ||| (nI (vcN x i) <<< (nI (7 * i) &&& 31)) from rfl] at hx
    refine X_runT (C := C_W_vector) (S := S_W_vector) (T := t_W_vector_4) 1000 kt_W_vector (okE_cons (ok_W_low Z d) okE_nil) ?_
    have hl := lowF_lt (x >>> (nI (3 * i) &&& 31)) (m := 3) (by omega)
    by_cases q : lowF (x >>> (nI (3 * i) &&& 31)) 3 = 0
    · rw [vcN, if_pos q] at hx
      simp (maxSteps := 3000000) (disch := first | exact True.intro | assumption | omega) only [↓eq_self, Option.toList_some, Option.toList_none, List.nil_append, List.cons_append, wsum_0, wsum_1, wsum_2, wsum_3, wsum_4, lkill, ↓reduceIte, if_true, if_false, Bool.false_eq_true, and_true, true_and, and_self, or_self, true_or, or_true, not_true, not_false_iff, mR_stI, mN_stI, isO_stI, isA_stI, mI_stI, mR_mW, mN_mW, isO_mW, isA_mW, mI_mW, mW_mW, stI_mW, vp_0, nI_add, nI_ltI, nI_leI, nI_eq, vpi, nI_clamp, nI_toN, nI_geT, pk_mul, pk_sub, bv_0n, bv_1n, ↓bv_01n, n01a, n01b, Nat.reduceSub, Nat.reduceAdd, Nat.reduceMul, u2_rw, rw_rw, rw_at, rw_ne, up_at, up_ne, Nat.zero_add, Nat.add_zero, lw_mW, m1_lt0, ite_nt, ↓g_W_vector_0, ↓g_W_vector_4, ↓g_W_vector_9, ↓g_W_vector_19, ↓g_W_vector_22, ↓g_W_vector_26, ↓g_W_vector_36, ↓g_W_vector_49, h1, pc_W_low, q]
      exact hx
    · have q2 := nI_n0 (m := lowF (x >>> (nI (3 * i) &&& 31)) 3) (by omega) (by omega)
      rw [vcN, if_neg q] at hx
      simp (maxSteps := 3000000) (disch := first | exact True.intro | assumption | omega) only [↓eq_self, Option.toList_some, Option.toList_none, List.nil_append, List.cons_append, wsum_0, wsum_1, wsum_2, wsum_3, wsum_4, lkill, ↓reduceIte, if_true, if_false, Bool.false_eq_true, and_true, true_and, and_self, or_self, true_or, or_true, not_true, not_false_iff, mR_stI, mN_stI, isO_stI, isA_stI, mI_stI, mR_mW, mN_mW, isO_mW, isA_mW, mI_mW, mW_mW, stI_mW, vp_0, nI_add, nI_ltI, nI_leI, nI_eq, vpi, nI_clamp, nI_toN, nI_geT, pk_mul, pk_sub, bv_0n, bv_1n, ↓bv_01n, n01a, n01b, Nat.reduceSub, Nat.reduceAdd, Nat.reduceMul, u2_rw, rw_rw, rw_at, rw_ne, up_at, up_ne, Nat.zero_add, Nat.add_zero, lw_mW, m1_lt0, ite_nt, ↓g_W_vector_0, ↓g_W_vector_4, ↓g_W_vector_9, ↓g_W_vector_19, ↓g_W_vector_22, ↓g_W_vector_26, ↓g_W_vector_36, ↓g_W_vector_49, h1, pc_W_low, q, q2]
      exact hx
set_option maxRecDepth 100000 in
set_option maxHeartbeats 4000000 in
theorem ok_W_vector (Z : Zt) (d : Nat) : okE Z (d + 2) i_W_vector e_W_vector := mk_W_vector fun x M hp => by
  refine Gm_run (C := C_W_vector) (S := S_W_vector) [some (.int x), none, none] 1000 kt_W_vector (okE_cons (ok_W_low Z d) okE_nil) (ex_n rfl) ?_
  simp (maxSteps := 3000000) (disch := first | exact True.intro | assumption | omega) only [↓eq_self, Option.toList_some, Option.toList_none, List.nil_append, List.cons_append, wsum_0, wsum_1, wsum_2, wsum_3, wsum_4, lkill, ↓reduceIte, if_true, if_false, Bool.false_eq_true, and_true, true_and, and_self, or_self, true_or, or_true, not_true, not_false_iff, mR_stI, mN_stI, isO_stI, isA_stI, mI_stI, mR_mW, mN_mW, isO_mW, isA_mW, mI_mW, mW_mW, stI_mW, vp_0, nI_add, nI_ltI, nI_leI, nI_eq, vpi, nI_clamp, nI_toN, nI_geT, pk_mul, pk_sub, bv_0n, bv_1n, ↓bv_01n, n01a, n01b, Nat.reduceSub, Nat.reduceAdd, Nat.reduceMul, u2_rw, rw_rw, rw_at, rw_ne, up_at, up_ne, Nat.zero_add, Nat.add_zero, lw_mW, m1_lt0, ite_nt, ↓g_W_vector_0, ↓g_W_vector_4, ↓g_W_vector_9, ↓g_W_vector_19, ↓g_W_vector_22, ↓g_W_vector_26, ↓g_W_vector_36, ↓g_W_vector_49]
  exact lp_W_vector Z d 4 0 rfl
