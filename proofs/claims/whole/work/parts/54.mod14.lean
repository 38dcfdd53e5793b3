/-! words and names -/
def wdC (B : Int32) (n k : Nat) : Int32 := (B >>> (nI (8 * (n - 1 - k)) &&& 31)) &&& nI 127
def wdP (f : Nat → Nat → Int32) (a e : Nat) (B : Int32) (n i : Nat) : Prop := e - a = n ∧ ∀ k, k < i → f 178 (a + k) = wdC B n k
abbrev wdQ (f : Nat → Nat → Int32) (a e : Nat) (B : Int32) (n : Nat) : Prop := wdP f a e B n n
theorem wdP_s {f : Nat → Nat → Int32} {a e n i : Nat} {B : Int32} : wdP f a e B n (i + 1) ↔ wdP f a e B n i ∧ f 178 (a + i) = wdC B n i := by
  refine ⟨fun h => ⟨⟨h.1, fun k hk => h.2 k (by omega)⟩, h.2 i (by omega)⟩, fun h => ⟨h.1.1, fun k hk => ?_⟩⟩
  by_cases q : k = i
  · rw [q]; exact h.2
  · exact h.1.2 k (by omega)
def e_M_isWord : Ent := (fun av M => ∃ (o : Nat) (a : Nat) (B : Int32) (n : Nat), av = [.ref o, .int (nI a), .int B, .int (nI n)] ∧ a < 2 ^ 31 ∧ n < 2 ^ 31 ∧ (o = 174 ∧ BkS M ∧ RdS (mI M) ∧ a ≤ tA (mI M) ∧ n < 8), fun av M r_ M_ => ∀ (o : Nat) (a : Nat) (B : Int32) (n : Nat), a < 2 ^ 31 → n < 2 ^ 31 → av = [.ref o, .int (nI a), .int B, .int (nI n)] → r_ = (some (.int (bv (wdQ (mI M) a (tA (mI M)) B n)))) ∧ M_ = (M))
theorem pc_M_isWord {o : Nat} {a : Nat} {B : Int32} {n : Nat} {M : Mem} {K : Option Value → Mem → Prop} (hp : o = 174 ∧ BkS M ∧ RdS (mI M) ∧ a ≤ tA (mI M) ∧ n < 8) (h_a : a < 2 ^ 31) (h_n : n < 2 ^ 31) : pcall e_M_isWord [.ref o, .int (nI a), .int B, .int (nI n)] M K = K (some (.int (bv (wdQ (mI M) a (tA (mI M)) B n)))) (M) := propext ⟨fun h => h.2 _ _ (fun o' a' B' n' h_a' h_n' e => by simp only [List.cons.injEq, Value.ref.injEq, Value.int.injEq, Value.long.injEq, and_true] at e; obtain ⟨q0, q1, q2, q3⟩ := e; obtain rfl := q0; obtain rfl := (nI_eq h_a h_a').mp q1; obtain rfl := q2; obtain rfl := (nI_eq h_n h_n').mp q3; exact ⟨rfl, rfl⟩), fun h => ⟨⟨o, a, B, n, rfl, h_a, h_n, hp⟩, fun r_ M_ q => by obtain ⟨rfl, rfl⟩ := q _ _ _ _ h_a h_n rfl; exact h⟩⟩
theorem mk_M_isWord {Z : Zt} {d : Nat} (h : ∀ (o : Nat) (a : Nat) (B : Int32) (n : Nat) (M : Mem), a < 2 ^ 31 → n < 2 ^ 31 → (o = 174 ∧ BkS M ∧ RdS (mI M) ∧ a ≤ tA (mI M) ∧ n < 8) → Gm Z d s_M_isWord [.ref o, .int (nI a), .int B, .int (nI n)] M (ex (some (.int (bv (wdQ (mI M) a (tA (mI M)) B n)))) (M))) : okE Z d i_M_isWord e_M_isWord := by
  rintro av M ⟨o, a, B, n, rfl, h_a, h_n, hp⟩
  exact Gm.cons (h o a B n M h_a h_n hp) (fun r_ M_ q o' a' B' n' h_a' h_n' e => by simp only [List.cons.injEq, Value.ref.injEq, Value.int.injEq, Value.long.injEq, and_true] at e; obtain ⟨q0, q1, q2, q3⟩ := e; obtain rfl := q0; obtain rfl := (nI_eq h_a h_a').mp q1; obtain rfl := q2; obtain rfl := (nI_eq h_n h_n').mp q3; exact q)
def C_M_isWord : List (Nat × Ent) := []
abbrev S_M_isWord : List Nat := [20]
def t_M_isWord_70 : List PI := (70, 1, 0, 4, 0, 0, []) :: (72, 9, 1, 0, 0, 0, []) :: []
def t_M_isWord_62 : List PI := (62, 1, 3, 4, 0, 0, []) :: (64, 1, 6, 5, 0, 1, []) :: (67, 6, 0, 20, 0, 0, []) :: t_M_isWord_70
def t_M_isWord_61 : List PI := (61, 0, 0, 0, 0, 0, []) :: t_M_isWord_62
def t_M_isWord_57 : List PI := (57, 0, 0, 0, 0, 1, []) :: (58, 6, 0, 62, 0, 0, []) :: t_M_isWord_61
def t_M_isWord_31 : List PI := (31, 1, 1, 0, 0, 0, []) :: (32, 8, 1, 5, 4, 0, [19]) :: (35, 1, 0, 1, 0, 0, []) :: (36, 1, 0, 5, 0, 0, []) :: (38, 2, 0, 0, 0, 0, []) :: (39, 8, 4, 0, 0, 0, []) :: (40, 1, 0, 2, 0, 0, []) :: (41, 0, 0, 0, 1, 8, []) :: (43, 1, 0, 3, 0, 0, []) :: (44, 0, 0, 0, 0, 1, []) :: (45, 2, 1, 0, 0, 0, []) :: (46, 1, 0, 5, 0, 0, []) :: (48, 2, 1, 0, 0, 0, []) :: (49, 2, 2, 0, 0, 0, []) :: (50, 2, 9, 0, 0, 0, []) :: (51, 0, 0, 0, 1, 127, []) :: (53, 2, 6, 0, 0, 0, []) :: (54, 4, 1, 61, 0, 0, []) :: t_M_isWord_57
def t_M_isWord_26 : List PI := (26, 1, 0, 4, 0, 0, []) :: (28, 5, 0, 70, 0, 0, []) :: t_M_isWord_31
def t_M_isWord_20 : List PI := (20, 1, 0, 5, 0, 0, []) :: (22, 1, 0, 3, 0, 0, []) :: (23, 4, 3, 70, 0, 0, []) :: t_M_isWord_26
def t_M_isWord_15 : List PI := (15, 1, 3, 4, 0, 0, []) :: (17, 0, 0, 0, 0, 0, []) :: (18, 1, 3, 5, 0, 0, []) :: t_M_isWord_20
def t_M_isWord_14 : List PI := (14, 0, 0, 0, 0, 0, []) :: t_M_isWord_15
def t_M_isWord_10 : List PI := (10, 0, 0, 0, 0, 1, []) :: (11, 6, 0, 15, 0, 0, []) :: t_M_isWord_14
def t_M_isWord_0 : List PI := (0, 1, 1, 0, 0, 0, []) :: (1, 8, 0, 5, 7, 0, [42]) :: (4, 1, 0, 1, 0, 0, []) :: (5, 2, 1, 0, 0, 0, []) :: (6, 1, 0, 3, 0, 0, []) :: (7, 4, 1, 14, 0, 0, []) :: t_M_isWord_10
theorem kt_M_isWord : okP s_M_isWord t_M_isWord_0 := k_M_isWord
theorem g_M_isWord_0 {Z : Zt} {nF f : Nat} {Kx : Nat → Kt} {Q : Option Value → Mem → Prop} {M : Mem} {x1 : Nat} {x2 : Int32} {x3 : Int32} {x4 : Int32} : run Z nF C_M_isWord S_M_isWord Kx Q (f + 6) t_M_isWord_0 [some (.ref (x1)), some (.int (x2)), some (.int (x3)), some (.int (x4)), none, none] [] M = (isO (M) (x1) 5 ∧ (if ((mI (M) (x1) 7) - (x2)) = (x4) then run Z nF C_M_isWord S_M_isWord Kx Q f t_M_isWord_10 [some (.ref (x1)), some (.int (x2)), some (.int (x3)), some (.int (x4)), none, none] [] (M) else run Z nF C_M_isWord S_M_isWord Kx Q f t_M_isWord_14 [some (.ref (x1)), some (.int (x2)), some (.int (x3)), some (.int (x4)), none, none] [] (M))) := rfl
theorem g_M_isWord_10 {Z : Zt} {nF f : Nat} {Kx : Nat → Kt} {Q : Option Value → Mem → Prop} {M : Mem} {x1 : Nat} {x2 : Int32} {x3 : Int32} {x4 : Int32} : run Z nF C_M_isWord S_M_isWord Kx Q (f + 2) t_M_isWord_10 [some (.ref (x1)), some (.int (x2)), some (.int (x3)), some (.int (x4)), none, none] [] M = (run Z nF C_M_isWord S_M_isWord Kx Q f t_M_isWord_15 [some (.ref (x1)), some (.int (x2)), some (.int (x3)), some (.int (x4)), none, none] [.int ((nI 1))] (M)) := rfl
theorem g_M_isWord_14 {Z : Zt} {nF f : Nat} {Kx : Nat → Kt} {Q : Option Value → Mem → Prop} {M : Mem} {x1 : Nat} {x2 : Int32} {x3 : Int32} {x4 : Int32} : run Z nF C_M_isWord S_M_isWord Kx Q (f + 1) t_M_isWord_14 [some (.ref (x1)), some (.int (x2)), some (.int (x3)), some (.int (x4)), none, none] [] M = (run Z nF C_M_isWord S_M_isWord Kx Q f t_M_isWord_15 [some (.ref (x1)), some (.int (x2)), some (.int (x3)), some (.int (x4)), none, none] [.int ((nI 0))] (M)) := rfl
theorem g_M_isWord_15 {Z : Zt} {nF f : Nat} {Kx : Nat → Kt} {Q : Option Value → Mem → Prop} {M : Mem} {x1 : Nat} {x2 : Int32} {x3 : Int32} {x4 : Int32} {x5 : Int32} : run Z nF C_M_isWord S_M_isWord Kx Q (f + 3) t_M_isWord_15 [some (.ref (x1)), some (.int (x2)), some (.int (x3)), some (.int (x4)), none, none] [.int (x5)] M = (Kx 20 [some (.ref (x1)), some (.int (x2)), some (.int (x3)), some (.int (x4)), some (.int (x5)), some (.int ((nI 0)))] [] (M)) := rfl
theorem g_M_isWord_20 {Z : Zt} {nF f : Nat} {Kx : Nat → Kt} {Q : Option Value → Mem → Prop} {M : Mem} {x1 : Nat} {x2 : Int32} {x3 : Int32} {x4 : Int32} {x5 : Int32} {x6 : Int32} : run Z nF C_M_isWord S_M_isWord Kx Q (f + 3) t_M_isWord_20 [some (.ref (x1)), some (.int (x2)), some (.int (x3)), some (.int (x4)), some (.int (x5)), some (.int (x6))] [] M = ((if (x4) ≤ (x6) then run Z nF C_M_isWord S_M_isWord Kx Q f t_M_isWord_70 [some (.ref (x1)), some (.int (x2)), some (.int (x3)), some (.int (x4)), some (.int (x5)), some (.int (x6))] [] (M) else run Z nF C_M_isWord S_M_isWord Kx Q f t_M_isWord_26 [some (.ref (x1)), some (.int (x2)), some (.int (x3)), some (.int (x4)), some (.int (x5)), some (.int (x6))] [] (M))) := rfl
theorem g_M_isWord_26 {Z : Zt} {nF f : Nat} {Kx : Nat → Kt} {Q : Option Value → Mem → Prop} {M : Mem} {x1 : Nat} {x2 : Int32} {x3 : Int32} {x4 : Int32} {x5 : Int32} {x6 : Int32} : run Z nF C_M_isWord S_M_isWord Kx Q (f + 2) t_M_isWord_26 [some (.ref (x1)), some (.int (x2)), some (.int (x3)), some (.int (x4)), some (.int (x5)), some (.int (x6))] [] M = ((if (x5) = nI 0 then run Z nF C_M_isWord S_M_isWord Kx Q f t_M_isWord_70 [some (.ref (x1)), some (.int (x2)), some (.int (x3)), some (.int (x4)), some (.int (x5)), some (.int (x6))] [] (M) else run Z nF C_M_isWord S_M_isWord Kx Q f t_M_isWord_31 [some (.ref (x1)), some (.int (x2)), some (.int (x3)), some (.int (x4)), some (.int (x5)), some (.int (x6))] [] (M))) := rfl
theorem g_M_isWord_31 {Z : Zt} {nF f : Nat} {Kx : Nat → Kt} {Q : Option Value → Mem → Prop} {M : Mem} {x1 : Nat} {x2 : Int32} {x3 : Int32} {x4 : Int32} {x5 : Int32} {x6 : Int32} : run Z nF C_M_isWord S_M_isWord Kx Q (f + 18) t_M_isWord_31 [some (.ref (x1)), some (.int (x2)), some (.int (x3)), some (.int (x4)), some (.int (x5)), some (.int (x6))] [] M = (isO (M) (x1) 5 ∧ isA (M) (mR (M) (x1) 4) ((x2) + (x6)) ∧ (if (mI (M) (mR (M) (x1) 4) (Int32.toNatClampNeg ((x2) + (x6)))) = (((x3) >>> ((((nI 8)) * (((x4) - ((nI 1))) - (x6))) &&& 31)) &&& ((nI 127))) then run Z nF C_M_isWord S_M_isWord Kx Q f t_M_isWord_57 [some (.ref (x1)), some (.int (x2)), some (.int (x3)), some (.int (x4)), some (.int (x5)), some (.int (x6))] [] (M) else run Z nF C_M_isWord S_M_isWord Kx Q f t_M_isWord_61 [some (.ref (x1)), some (.int (x2)), some (.int (x3)), some (.int (x4)), some (.int (x5)), some (.int (x6))] [] (M))) := rfl
theorem g_M_isWord_57 {Z : Zt} {nF f : Nat} {Kx : Nat → Kt} {Q : Option Value → Mem → Prop} {M : Mem} {x1 : Nat} {x2 : Int32} {x3 : Int32} {x4 : Int32} {x5 : Int32} {x6 : Int32} : run Z nF C_M_isWord S_M_isWord Kx Q (f + 2) t_M_isWord_57 [some (.ref (x1)), some (.int (x2)), some (.int (x3)), some (.int (x4)), some (.int (x5)), some (.int (x6))] [] M = (run Z nF C_M_isWord S_M_isWord Kx Q f t_M_isWord_62 [some (.ref (x1)), some (.int (x2)), some (.int (x3)), some (.int (x4)), some (.int (x5)), some (.int (x6))] [.int ((nI 1))] (M)) := rfl
theorem g_M_isWord_61 {Z : Zt} {nF f : Nat} {Kx : Nat → Kt} {Q : Option Value → Mem → Prop} {M : Mem} {x1 : Nat} {x2 : Int32} {x3 : Int32} {x4 : Int32} {x5 : Int32} {x6 : Int32} : run Z nF C_M_isWord S_M_isWord Kx Q (f + 1) t_M_isWord_61 [some (.ref (x1)), some (.int (x2)), some (.int (x3)), some (.int (x4)), some (.int (x5)), some (.int (x6))] [] M = (run Z nF C_M_isWord S_M_isWord Kx Q f t_M_isWord_62 [some (.ref (x1)), some (.int (x2)), some (.int (x3)), some (.int (x4)), some (.int (x5)), some (.int (x6))] [.int ((nI 0))] (M)) := rfl
theorem g_M_isWord_62 {Z : Zt} {nF f : Nat} {Kx : Nat → Kt} {Q : Option Value → Mem → Prop} {M : Mem} {x1 : Nat} {x2 : Int32} {x3 : Int32} {x4 : Int32} {x5 : Int32} {x6 : Int32} {x7 : Int32} : run Z nF C_M_isWord S_M_isWord Kx Q (f + 3) t_M_isWord_62 [some (.ref (x1)), some (.int (x2)), some (.int (x3)), some (.int (x4)), some (.int (x5)), some (.int (x6))] [.int (x7)] M = (Kx 20 [some (.ref (x1)), some (.int (x2)), some (.int (x3)), some (.int (x4)), some (.int (x7)), some (.int (x6 + (nI 1)))] [] (M)) := rfl
theorem g_M_isWord_70 {Z : Zt} {nF f : Nat} {Kx : Nat → Kt} {Q : Option Value → Mem → Prop} {M : Mem} {x1 : Nat} {x2 : Int32} {x3 : Int32} {x4 : Int32} {x5 : Int32} {x6 : Int32} : run Z nF C_M_isWord S_M_isWord Kx Q (f + 2) t_M_isWord_70 [some (.ref (x1)), some (.int (x2)), some (.int (x3)), some (.int (x4)), some (.int (x5)), some (.int (x6))] [] M = (((x5) = nI 0 ∨ (x5) = nI 1) ∧ Q (some (.int (x5))) (M)) := rfl
set_option maxRecDepth 100000 in
set_option maxHeartbeats 4000000 in
theorem lp_M_isWord (Z : Zt) (d : Nat) {M : Mem} {a n : Nat} {B : Int32} (hB : BkS M) (hR : RdS (mI M)) (ha : a ≤ tA (mI M)) (hn : n < 8) : ∀ m i, i + m = n → X Z (d + 1) s_M_isWord (mN M) (mN M) (ex (some (.int (bv (wdQ (mI M) a (tA (mI M)) B n)))) M) 20 [some (.ref 174), some (.int (nI a)), some (.int B), some (.int (nI n)), some (.int (bv (wdP (mI M) a (tA (mI M)) B n i))), some (.int (nI i))] [] M := by
  have h60 := hR.1.2
  have hle := hR.2.2
  intro m
  induction m with
  | zero =>
    intro i hi
    obtain rfl : i = n := by omega
    refine X_runT (C := C_M_isWord) (S := S_M_isWord) (T := t_M_isWord_20) 1000 kt_M_isWord okE_nil ?_
    simp (maxSteps := 3000000) (disch := first | exact True.intro | assumption | omega) only [↓eq_self, Option.toList_some, Option.toList_none, List.nil_append, List.cons_append, wsum_0, wsum_1, wsum_2, wsum_3, wsum_4, lkill, ↓reduceIte, if_true, if_false, Bool.false_eq_true, and_true, true_and, and_self, or_self, true_or, or_true, not_true, not_false_iff, mR_stI, mN_stI, isO_stI, isA_stI, mI_stI, mR_mW, mN_mW, isO_mW, isA_mW, mI_mW, mW_mW, stI_mW, vp_0, nI_addL, nI_mulL, nI_subL, nI_ltL, nI_leL, nI_Llt, nI_Lle, nI_eqL, nI_Leq, nI_add, pk_mul, nI_ltI, nI_leI, nI_eq, vpi, nI_clamp, nI_toN, ↓g_M_isWord_20, ↓g_M_isWord_70, nI_leI, Nat.le_refl, ↓bv_01n]
    exact ⟨rfl, rfl⟩
  | succ m ih =>
    intro i hi
    have h1 : ¬ n ≤ i := by omega
    have hx := ih (i + 1) (by omega)
    refine X_runT (C := C_M_isWord) (S := S_M_isWord) (T := t_M_isWord_20) 1000 kt_M_isWord okE_nil ?_
    by_cases h : wdP (mI M) a (tA (mI M)) B n i
    · have hia : a + i < 60 := by have := h.1; omega
      have e1 : nI n - nI 1 = nI (n - 1) := pk_sub (by omega)
      have e2 : nI (n - 1) - nI i = nI (n - 1 - i) := pk_sub (by omega)
      simp (maxSteps := 3000000) (disch := first | exact True.intro | assumption | omega) only [↓eq_self, Option.toList_some, Option.toList_none, List.nil_append, List.cons_append, wsum_0, wsum_1, wsum_2, wsum_3, wsum_4, lkill, ↓reduceIte, if_true, if_false, Bool.false_eq_true, and_true, true_and, and_self, or_self, true_or, or_true, not_true, not_false_iff, mR_stI, mN_stI, isO_stI, isA_stI, mI_stI, mR_mW, mN_mW, isO_mW, isA_mW, mI_mW, mW_mW, stI_mW, vp_0, nI_addL, nI_mulL, nI_subL, nI_ltL, nI_leL, nI_Llt, nI_Lle, nI_eqL, nI_Leq, nI_add, pk_mul, nI_ltI, nI_leI, nI_eq, vpi, nI_clamp, nI_toN, ↓g_M_isWord_20, ↓g_M_isWord_26, ↓g_M_isWord_31, ↓g_M_isWord_57, ↓g_M_isWord_61, ↓g_M_isWord_62, nI_leI, h1, h, bv_0n, bk_oM hB, bk_m4 hB, md_t hB, nI_add, nI_toN, hia, e1, e2, pk_mul]
      by_cases h2 : mI M 178 (a + i) = wdC B n i
      · rw [bv_T (wdP_s.mpr ⟨h, h2⟩)] at hx
        rw [if_pos (show mI M 178 (a + i) = B >>> (nI (8 * (n - 1 - i)) &&& 31) &&& nI 127 from h2)]
        exact hx
      · rw [bv_F (fun q => h2 (wdP_s.mp q).2)] at hx
        rw [if_neg (show ¬ mI M 178 (a + i) = B >>> (nI (8 * (n - 1 - i)) &&& 31) &&& nI 127 from h2)]
        exact hx
    · have e : bv (wdQ (mI M) a (tA (mI M)) B n) = bv (wdP (mI M) a (tA (mI M)) B n i) := by
        rw [bv_F h, bv_F (fun q => h ⟨q.1, fun k hk => q.2 k (by omega)⟩)]
      rw [e]
      simp (maxSteps := 3000000) (disch := first | exact True.intro | assumption | omega) only [↓eq_self, Option.toList_some, Option.toList_none, List.nil_append, List.cons_append, wsum_0, wsum_1, wsum_2, wsum_3, wsum_4, lkill, ↓reduceIte, if_true, if_false, Bool.false_eq_true, and_true, true_and, and_self, or_self, true_or, or_true, not_true, not_false_iff, mR_stI, mN_stI, isO_stI, isA_stI, mI_stI, mR_mW, mN_mW, isO_mW, isA_mW, mI_mW, mW_mW, stI_mW, vp_0, nI_addL, nI_mulL, nI_subL, nI_ltL, nI_leL, nI_Llt, nI_Lle, nI_eqL, nI_Leq, nI_add, pk_mul, nI_ltI, nI_leI, nI_eq, vpi, nI_clamp, nI_toN, ↓g_M_isWord_20, ↓g_M_isWord_26, ↓g_M_isWord_70, nI_leI, h1, h, bv_0n, ↓bv_01n]
      exact ⟨rfl, rfl⟩
set_option maxRecDepth 100000 in
set_option maxHeartbeats 4000000 in
theorem ok_M_isWord (Z : Zt) (d : Nat) : okE Z (d + 1) i_M_isWord e_M_isWord := mk_M_isWord fun o a B n M h1 h2 hp => by
  obtain ⟨rfl, hB, hR, ha, hn⟩ := hp
  have h60 := hR.1.2
  have hle := hR.2.2
  have e1 : nI (tA (mI M)) - nI a = nI (tA (mI M) - a) := pk_sub ha
  have hx := lp_M_isWord Z d (B := B) hB hR ha hn n 0 (Nat.zero_add _)
  refine Gm_run (C := C_M_isWord) (S := S_M_isWord) [some (.ref 174), some (.int (nI a)), some (.int B), some (.int (nI n)), none, none] 1000 kt_M_isWord okE_nil (ex_n rfl) ?_
  by_cases h : tA (mI M) - a = n
  · rw [bv_T (show wdP (mI M) a (tA (mI M)) B n 0 from ⟨h, fun k hk => absurd hk (Nat.not_lt_zero _)⟩)] at hx
    simp (maxSteps := 3000000) (disch := first | exact True.intro | assumption | omega) only [↓eq_self, Option.toList_some, Option.toList_none, List.nil_append, List.cons_append, wsum_0, wsum_1, wsum_2, wsum_3, wsum_4, lkill, ↓reduceIte, if_true, if_false, Bool.false_eq_true, and_true, true_and, and_self, or_self, true_or, or_true, not_true, not_false_iff, mR_stI, mN_stI, isO_stI, isA_stI, mI_stI, mR_mW, mN_mW, isO_mW, isA_mW, mI_mW, mW_mW, stI_mW, vp_0, nI_addL, nI_mulL, nI_subL, nI_ltL, nI_leL, nI_Llt, nI_Lle, nI_eqL, nI_Leq, nI_add, pk_mul, nI_ltI, nI_leI, nI_eq, vpi, nI_clamp, nI_toN, ↓g_M_isWord_0, ↓g_M_isWord_10, ↓g_M_isWord_14, ↓g_M_isWord_15, bk_oM hB, hR.2.1, e1, nI_eq, h]
    exact hx
  · rw [bv_F (fun q : wdP (mI M) a (tA (mI M)) B n 0 => h q.1)] at hx
    simp (maxSteps := 3000000) (disch := first | exact True.intro | assumption | omega) only [↓eq_self, Option.toList_some, Option.toList_none, List.nil_append, List.cons_append, wsum_0, wsum_1, wsum_2, wsum_3, wsum_4, lkill, ↓reduceIte, if_true, if_false, Bool.false_eq_true, and_true, true_and, and_self, or_self, true_or, or_true, not_true, not_false_iff, mR_stI, mN_stI, isO_stI, isA_stI, mI_stI, mR_mW, mN_mW, isO_mW, isA_mW, mI_mW, mW_mW, stI_mW, vp_0, nI_addL, nI_mulL, nI_subL, nI_ltL, nI_leL, nI_Llt, nI_Lle, nI_eqL, nI_Leq, nI_add, pk_mul, nI_ltI, nI_leI, nI_eq, vpi, nI_clamp, nI_toN, ↓g_M_isWord_0, ↓g_M_isWord_10, ↓g_M_isWord_14, ↓g_M_isWord_15, bk_oM hB, hR.2.1, e1, nI_eq, h]
    exact hx
noncomputable def nmR (f : Nat → Nat → Int32) (a e : Nat) : Int32 := @ite _ (wdQ f a e (nI 6516853) 3) (Classical.propDecidable _) (nI 0) (@ite _ (wdQ f a e (nI 7169389) 3) (Classical.propDecidable _) (nI 1) (@ite _ (wdQ f a e (nI 7234932) 3) (Classical.propDecidable _) (nI 2) (@ite _ (wdQ f a e (nI 1684632427) 4) (Classical.propDecidable _) (nI 3) (-1000003))))
abbrev alU (f : Nat → Nat → Int32) (A : Nat) : Nat := skF isL_ (f 178) (tL f) A
abbrev abU (f : Nat → Nat → Int32) (A : Nat) : Nat := skF isB_ (f 178) (tL f) A
def e_M_name : Ent := (fun av M => ∃ (o : Nat), av = [.ref o] ∧ (o = 174 ∧ BkS M ∧ RdS (mI M)), fun av M r_ M_ => ∀ (o : Nat), av = [.ref o] → r_ = (some (.int (nmR (mI M) (tA (mI M)) (alU (mI M) (tA (mI M)))))) ∧ M_ = (mW M (atF (mI M) (alU (mI M) (tA (mI M))))))
theorem pc_M_name {o : Nat} {M : Mem} {K : Option Value → Mem → Prop} (hp : o = 174 ∧ BkS M ∧ RdS (mI M)) : pcall e_M_name [.ref o] M K = K (some (.int (nmR (mI M) (tA (mI M)) (alU (mI M) (tA (mI M)))))) (mW M (atF (mI M) (alU (mI M) (tA (mI M))))) := propext ⟨fun h => h.2 _ _ (fun o' e => by simp only [List.cons.injEq, Value.ref.injEq, Value.int.injEq, Value.long.injEq, and_true] at e; have q0 := e; obtain rfl := q0; exact ⟨rfl, rfl⟩), fun h => ⟨⟨o, rfl, hp⟩, fun r_ M_ q => by obtain ⟨rfl, rfl⟩ := q _ rfl; exact h⟩⟩
theorem mk_M_name {Z : Zt} {d : Nat} (h : ∀ (o : Nat) (M : Mem), (o = 174 ∧ BkS M ∧ RdS (mI M)) → Gm Z d s_M_name [.ref o] M (ex (some (.int (nmR (mI M) (tA (mI M)) (alU (mI M) (tA (mI M)))))) (mW M (atF (mI M) (alU (mI M) (tA (mI M))))))) : okE Z d i_M_name e_M_name := by
  rintro av M ⟨o, rfl, hp⟩
  exact Gm.cons (h o M  hp) (fun r_ M_ q o' e => by simp only [List.cons.injEq, Value.ref.injEq, Value.int.injEq, Value.long.injEq, and_true] at e; have q0 := e; obtain rfl := q0; exact q)
def C_M_name : List (Nat × Ent) := [(i_M_next, e_M_next), (i_M_in, e_M_in), (i_M_isWord, e_M_isWord)]
abbrev S_M_name : List Nat := [5]
def t_M_name_94 : List PI := (94, 9, 0, 0, 0, 0, []) :: []
def t_M_name_92 : List PI := (92, 0, 0, 52, 3, -1000003, []) :: t_M_name_94
def t_M_name_88 : List PI := (88, 0, 0, 0, 0, 3, []) :: (89, 6, 0, 94, 0, 0, []) :: t_M_name_92
def t_M_name_85 : List PI := (85, 5, 0, 92, 0, 0, []) :: t_M_name_88
def t_M_name_77 : List PI := (77, 1, 1, 0, 0, 0, []) :: (78, 1, 0, 1, 0, 0, []) :: (79, 0, 0, 59, 3, 1684632427, []) :: (81, 0, 0, 0, 0, 4, []) :: (82, 11, 0, 5, 117, 0, [54, 4]) :: t_M_name_85
def t_M_name_73 : List PI := (73, 0, 0, 0, 0, 2, []) :: (74, 6, 0, 94, 0, 0, []) :: t_M_name_77
def t_M_name_70 : List PI := (70, 5, 0, 77, 0, 0, []) :: t_M_name_73
def t_M_name_62 : List PI := (62, 1, 1, 0, 0, 0, []) :: (63, 1, 0, 1, 0, 0, []) :: (64, 0, 0, 58, 3, 7234932, []) :: (66, 0, 0, 0, 0, 3, []) :: (67, 11, 0, 5, 117, 0, [54, 4]) :: t_M_name_70
def t_M_name_58 : List PI := (58, 0, 0, 0, 0, 1, []) :: (59, 6, 0, 94, 0, 0, []) :: t_M_name_62
def t_M_name_55 : List PI := (55, 5, 0, 62, 0, 0, []) :: t_M_name_58
def t_M_name_47 : List PI := (47, 1, 1, 0, 0, 0, []) :: (48, 1, 0, 1, 0, 0, []) :: (49, 0, 0, 57, 3, 7169389, []) :: (51, 0, 0, 0, 0, 3, []) :: (52, 11, 0, 5, 117, 0, [54, 4]) :: t_M_name_55
def t_M_name_43 : List PI := (43, 0, 0, 0, 0, 0, []) :: (44, 6, 0, 94, 0, 0, []) :: t_M_name_47
def t_M_name_40 : List PI := (40, 5, 0, 47, 0, 0, []) :: t_M_name_43
def t_M_name_32 : List PI := (32, 1, 1, 0, 0, 0, []) :: (33, 1, 0, 1, 0, 0, []) :: (34, 0, 0, 53, 3, 6516853, []) :: (36, 0, 0, 0, 0, 3, []) :: (37, 11, 0, 5, 117, 0, [54, 4]) :: t_M_name_40
def t_M_name_19 : List PI := (19, 1, 1, 0, 0, 0, []) :: (20, 7, 0, 0, 0, 0, []) :: (21, 8, 0, 5, 7, 0, [42]) :: (24, 0, 0, 0, 0, 1, []) :: (25, 2, 0, 0, 0, 0, []) :: (26, 10, 0, 5, 7, 0, [42]) :: (29, 6, 0, 5, 0, 0, []) :: t_M_name_32
def t_M_name_16 : List PI := (16, 5, 0, 32, 0, 0, []) :: t_M_name_19
def t_M_name_9 : List PI := (9, 0, 0, 0, 1, 97, []) :: (11, 0, 0, 0, 1, 122, []) :: (13, 11, 1, 0, 101, 0, [28, 3]) :: t_M_name_16
def t_M_name_5 : List PI := (5, 1, 1, 0, 0, 0, []) :: (6, 11, 0, 5, 113, 0, [45, 1]) :: t_M_name_9
def t_M_name_0 : List PI := (0, 1, 1, 0, 0, 0, []) :: (1, 8, 0, 5, 7, 0, [42]) :: (4, 1, 3, 1, 0, 0, []) :: t_M_name_5
theorem kt_M_name : okP s_M_name t_M_name_0 := k_M_name
theorem g_M_name_0 {Z : Zt} {nF f : Nat} {Kx : Nat → Kt} {Q : Option Value → Mem → Prop} {M : Mem} {x1 : Nat} : run Z nF C_M_name S_M_name Kx Q (f + 3) t_M_name_0 [some (.ref (x1)), none] [] M = (isO (M) (x1) 5 ∧ Kx 5 [some (.ref (x1)), some (.int (mI (M) (x1) 7))] [] (M)) := rfl
theorem g_M_name_5 {Z : Zt} {nF f : Nat} {Kx : Nat → Kt} {Q : Option Value → Mem → Prop} {M : Mem} {x1 : Nat} {x2 : Int32} : run Z nF C_M_name S_M_name Kx Q (f + 2) t_M_name_5 [some (.ref (x1)), some (.int (x2))] [] M = (((isO (M) (x1) 5) ∧ wsum [] ≤ 8) ∧ pcall e_M_next [.ref (x1)] (M) (fun v M_ => run Z nF C_M_name S_M_name Kx Q f t_M_name_9 [some (.ref (x1)), some (.int (x2))] (v.toList ++ []) M_)) := rfl
theorem g_M_name_9 {Z : Zt} {nF f : Nat} {Kx : Nat → Kt} {Q : Option Value → Mem → Prop} {M : Mem} {x1 : Nat} {x2 : Int32} {x3 : Int32} : run Z nF C_M_name S_M_name Kx Q (f + 3) t_M_name_9 [some (.ref (x1)), some (.int (x2))] [.int (x3)] M = (((True) ∧ wsum [] ≤ 8) ∧ pcall e_M_in [.int (x3), .int ((nI 97)), .int ((nI 122))] (M) (fun v M_ => run Z nF C_M_name S_M_name Kx Q f t_M_name_16 [some (.ref (x1)), some (.int (x2))] (v.toList ++ []) M_)) := rfl
theorem g_M_name_16 {Z : Zt} {nF f : Nat} {Kx : Nat → Kt} {Q : Option Value → Mem → Prop} {M : Mem} {x1 : Nat} {x2 : Int32} {x3 : Int32} : run Z nF C_M_name S_M_name Kx Q (f + 1) t_M_name_16 [some (.ref (x1)), some (.int (x2))] [.int (x3)] M = ((if (x3) = nI 0 then run Z nF C_M_name S_M_name Kx Q f t_M_name_32 [some (.ref (x1)), some (.int (x2))] [] (M) else run Z nF C_M_name S_M_name Kx Q f t_M_name_19 [some (.ref (x1)), some (.int (x2))] [] (M))) := rfl
theorem g_M_name_19 {Z : Zt} {nF f : Nat} {Kx : Nat → Kt} {Q : Option Value → Mem → Prop} {M : Mem} {x1 : Nat} {x2 : Int32} : run Z nF C_M_name S_M_name Kx Q (f + 7) t_M_name_19 [some (.ref (x1)), some (.int (x2))] [] M = (isO (M) (x1) 5 ∧ isO (M) (x1) 5 ∧ Kx 5 [some (.ref (x1)), some (.int (x2))] [] (stI (M) (x1) 7 ((mI (M) (x1) 7) + ((nI 1))))) := rfl
theorem g_M_name_32 {Z : Zt} {nF f : Nat} {Kx : Nat → Kt} {Q : Option Value → Mem → Prop} {M : Mem} {x1 : Nat} {x2 : Int32} : run Z nF C_M_name S_M_name Kx Q (f + 5) t_M_name_32 [some (.ref (x1)), some (.int (x2))] [] M = (((isO (M) (x1) 5) ∧ wsum [] ≤ 8) ∧ pcall e_M_isWord [.ref (x1), .int (x2), .int ((nI 6516853)), .int ((nI 3))] (M) (fun v M_ => run Z nF C_M_name S_M_name Kx Q f t_M_name_40 [some (.ref (x1)), some (.int (x2))] (v.toList ++ []) M_)) := rfl
theorem g_M_name_40 {Z : Zt} {nF f : Nat} {Kx : Nat → Kt} {Q : Option Value → Mem → Prop} {M : Mem} {x1 : Nat} {x2 : Int32} {x3 : Int32} : run Z nF C_M_name S_M_name Kx Q (f + 1) t_M_name_40 [some (.ref (x1)), some (.int (x2))] [.int (x3)] M = ((if (x3) = nI 0 then run Z nF C_M_name S_M_name Kx Q f t_M_name_47 [some (.ref (x1)), some (.int (x2))] [] (M) else run Z nF C_M_name S_M_name Kx Q f t_M_name_43 [some (.ref (x1)), some (.int (x2))] [] (M))) := rfl
theorem g_M_name_43 {Z : Zt} {nF f : Nat} {Kx : Nat → Kt} {Q : Option Value → Mem → Prop} {M : Mem} {x1 : Nat} {x2 : Int32} : run Z nF C_M_name S_M_name Kx Q (f + 2) t_M_name_43 [some (.ref (x1)), some (.int (x2))] [] M = (run Z nF C_M_name S_M_name Kx Q f t_M_name_94 [some (.ref (x1)), some (.int (x2))] [.int ((nI 0))] (M)) := rfl
theorem g_M_name_47 {Z : Zt} {nF f : Nat} {Kx : Nat → Kt} {Q : Option Value → Mem → Prop} {M : Mem} {x1 : Nat} {x2 : Int32} : run Z nF C_M_name S_M_name Kx Q (f + 5) t_M_name_47 [some (.ref (x1)), some (.int (x2))] [] M = (((isO (M) (x1) 5) ∧ wsum [] ≤ 8) ∧ pcall e_M_isWord [.ref (x1), .int (x2), .int ((nI 7169389)), .int ((nI 3))] (M) (fun v M_ => run Z nF C_M_name S_M_name Kx Q f t_M_name_55 [some (.ref (x1)), some (.int (x2))] (v.toList ++ []) M_)) := rfl
theorem g_M_name_55 {Z : Zt} {nF f : Nat} {Kx : Nat → Kt} {Q : Option Value → Mem → Prop} {M : Mem} {x1 : Nat} {x2 : Int32} {x3 : Int32} : run Z nF C_M_name S_M_name Kx Q (f + 1) t_M_name_55 [some (.ref (x1)), some (.int (x2))] [.int (x3)] M = ((if (x3) = nI 0 then run Z nF C_M_name S_M_name Kx Q f t_M_name_62 [some (.ref (x1)), some (.int (x2))] [] (M) else run Z nF C_M_name S_M_name Kx Q f t_M_name_58 [some (.ref (x1)), some (.int (x2))] [] (M))) := rfl
theorem g_M_name_58 {Z : Zt} {nF f : Nat} {Kx : Nat → Kt} {Q : Option Value → Mem → Prop} {M : Mem} {x1 : Nat} {x2 : Int32} : run Z nF C_M_name S_M_name Kx Q (f + 2) t_M_name_58 [some (.ref (x1)), some (.int (x2))] [] M = (run Z nF C_M_name S_M_name Kx Q f t_M_name_94 [some (.ref (x1)), some (.int (x2))] [.int ((nI 1))] (M)) := rfl
theorem g_M_name_62 {Z : Zt} {nF f : Nat} {Kx : Nat → Kt} {Q : Option Value → Mem → Prop} {M : Mem} {x1 : Nat} {x2 : Int32} : run Z nF C_M_name S_M_name Kx Q (f + 5) t_M_name_62 [some (.ref (x1)), some (.int (x2))] [] M = (((isO (M) (x1) 5) ∧ wsum [] ≤ 8) ∧ pcall e_M_isWord [.ref (x1), .int (x2), .int ((nI 7234932)), .int ((nI 3))] (M) (fun v M_ => run Z nF C_M_name S_M_name Kx Q f t_M_name_70 [some (.ref (x1)), some (.int (x2))] (v.toList ++ []) M_)) := rfl
theorem g_M_name_70 {Z : Zt} {nF f : Nat} {Kx : Nat → Kt} {Q : Option Value → Mem → Prop} {M : Mem} {x1 : Nat} {x2 : Int32} {x3 : Int32} : run Z nF C_M_name S_M_name Kx Q (f + 1) t_M_name_70 [some (.ref (x1)), some (.int (x2))] [.int (x3)] M = ((if (x3) = nI 0 then run Z nF C_M_name S_M_name Kx Q f t_M_name_77 [some (.ref (x1)), some (.int (x2))] [] (M) else run Z nF C_M_name S_M_name Kx Q f t_M_name_73 [some (.ref (x1)), some (.int (x2))] [] (M))) := rfl
theorem g_M_name_73 {Z : Zt} {nF f : Nat} {Kx : Nat → Kt} {Q : Option Value → Mem → Prop} {M : Mem} {x1 : Nat} {x2 : Int32} : run Z nF C_M_name S_M_name Kx Q (f + 2) t_M_name_73 [some (.ref (x1)), some (.int (x2))] [] M = (run Z nF C_M_name S_M_name Kx Q f t_M_name_94 [some (.ref (x1)), some (.int (x2))] [.int ((nI 2))] (M)) := rfl
theorem g_M_name_77 {Z : Zt} {nF f : Nat} {Kx : Nat → Kt} {Q : Option Value → Mem → Prop} {M : Mem} {x1 : Nat} {x2 : Int32} : run Z nF C_M_name S_M_name Kx Q (f + 5) t_M_name_77 [some (.ref (x1)), some (.int (x2))] [] M = (((isO (M) (x1) 5) ∧ wsum [] ≤ 8) ∧ pcall e_M_isWord [.ref (x1), .int (x2), .int ((nI 1684632427)), .int ((nI 4))] (M) (fun v M_ => run Z nF C_M_name S_M_name Kx Q f t_M_name_85 [some (.ref (x1)), some (.int (x2))] (v.toList ++ []) M_)) := rfl
theorem g_M_name_85 {Z : Zt} {nF f : Nat} {Kx : Nat → Kt} {Q : Option Value → Mem → Prop} {M : Mem} {x1 : Nat} {x2 : Int32} {x3 : Int32} : run Z nF C_M_name S_M_name Kx Q (f + 1) t_M_name_85 [some (.ref (x1)), some (.int (x2))] [.int (x3)] M = ((if (x3) = nI 0 then run Z nF C_M_name S_M_name Kx Q f t_M_name_92 [some (.ref (x1)), some (.int (x2))] [] (M) else run Z nF C_M_name S_M_name Kx Q f t_M_name_88 [some (.ref (x1)), some (.int (x2))] [] (M))) := rfl
theorem g_M_name_88 {Z : Zt} {nF f : Nat} {Kx : Nat → Kt} {Q : Option Value → Mem → Prop} {M : Mem} {x1 : Nat} {x2 : Int32} : run Z nF C_M_name S_M_name Kx Q (f + 2) t_M_name_88 [some (.ref (x1)), some (.int (x2))] [] M = (run Z nF C_M_name S_M_name Kx Q f t_M_name_94 [some (.ref (x1)), some (.int (x2))] [.int ((nI 3))] (M)) := rfl
theorem g_M_name_92 {Z : Zt} {nF f : Nat} {Kx : Nat → Kt} {Q : Option Value → Mem → Prop} {M : Mem} {x1 : Nat} {x2 : Int32} : run Z nF C_M_name S_M_name Kx Q (f + 1) t_M_name_92 [some (.ref (x1)), some (.int (x2))] [] M = (run Z nF C_M_name S_M_name Kx Q f t_M_name_94 [some (.ref (x1)), some (.int (x2))] [.int ((-1000003 : Int32))] (M)) := rfl
theorem g_M_name_94 {Z : Zt} {nF f : Nat} {Kx : Nat → Kt} {Q : Option Value → Mem → Prop} {M : Mem} {x1 : Nat} {x2 : Int32} {x3 : Int32} : run Z nF C_M_name S_M_name Kx Q (f + 1) t_M_name_94 [some (.ref (x1)), some (.int (x2))] [.int (x3)] M = (Q (some (.int (x3))) (M)) := rfl
theorem isL_ne {f : Nat → Nat → Int32} {A : Nat} (h : A < tL f) : (nI 97 ≤ nxB f A ∧ nxB f A ≤ nI 122) ↔ isL_ (f 178 A) = true := by
  rw [show nxB f A = f 178 A from if_pos h]
  exact ⟨fun q => decide_eq_true q, fun q => of_decide_eq_true q⟩
set_option maxRecDepth 100000 in
set_option maxHeartbeats 4000000 in
theorem lp_M_name (Z : Zt) (d : Nat) {M : Mem} {f : Nat → Nat → Int32} {a : Nat} (hB : BkS M) (hR : RdS f) : ∀ n A, tL f - A = n → a ≤ A → A ≤ tL f → X Z (d + 2) s_M_name (mN M) (mN M) (ex (some (.int (nmR f a (alU f A)))) (mW M (atF f (alU f A)))) 5 [some (.ref 174), some (.int (nI a))] [] (mW M (atF f A)) := by
  have h60 := hR.1.2
  have hend : ∀ A, a ≤ A → A ≤ tL f → alU f A = A → ¬ (nI 97 ≤ nxB f A ∧ nxB f A ≤ nI 122) → X Z (d + 2) s_M_name (mN M) (mN M) (ex (some (.int (nmR f a (alU f A)))) (mW M (atF f (alU f A)))) 5 [some (.ref 174), some (.int (nI a))] [] (mW M (atF f A)) := by
    intro A ha hA e hne
    rw [e]
    have hx : ∀ {K : Option Value → Mem → Prop}, pcall e_M_next [.ref 174] (mW M (atF f A)) K = K (some (.int (nxB f A))) (mW M (atF f A)) := nx_v hB hR hA
    have hw : ∀ {B : Int32} {n : Nat} {K : Option Value → Mem → Prop}, n < 8 → pcall e_M_isWord [.ref 174, .int (nI a), .int B, .int (nI n)] (mW M (atF f A)) K = K (some (.int (bv (wdQ f a A B n)))) (mW M (atF f A)) := fun {B n K} hn => by
      rw [pc_M_isWord (o := 174) (a := a) (B := B) (n := n) (M := mW M (atF f A)) ⟨rfl, hB, atF_R hR hA, by rw [mI_mW, atF_A (by omega)]; exact ha, hn⟩ (by omega) (by omega), mI_mW, atF_A (by omega)]
      have e2 : wdQ (atF f A) a A B n = wdQ f a A B n := by unfold wdQ wdP; rw [atF_178]
      rw [e2]
    refine X_runT (C := C_M_name) (S := S_M_name) (T := t_M_name_5) 1000 kt_M_name (okE_cons (ok_M_next Z d) (okE_cons (ok_M_in Z d) (okE_cons (ok_M_isWord Z d) okE_nil))) ?_
    simp (maxSteps := 3000000) (disch := first | exact True.intro | assumption | omega) only [↓eq_self, Option.toList_some, Option.toList_none, List.nil_append, List.cons_append, wsum_0, wsum_1, wsum_2, wsum_3, wsum_4, lkill, ↓reduceIte, if_true, if_false, Bool.false_eq_true, and_true, true_and, and_self, or_self, true_or, or_true, not_true, not_false_iff, mR_stI, mN_stI, isO_stI, isA_stI, mI_stI, mR_mW, mN_mW, isO_mW, isA_mW, mI_mW, mW_mW, stI_mW, vp_0, nI_addL, nI_mulL, nI_subL, nI_ltL, nI_leL, nI_Llt, nI_Lle, nI_eqL, nI_Leq, nI_add, pk_mul, nI_ltI, nI_leI, nI_eq, vpi, nI_clamp, nI_toN, ↓g_M_name_5, ↓g_M_name_9, ↓g_M_name_16, bk_oM hB, hx, pc_M_in, bv_0n, hne]
    unfold nmR
    by_cases g0 : wdQ f a A (nI 6516853) 3
    · rw [if_pos g0]
      simp (maxSteps := 3000000) (disch := first | exact True.intro | assumption | omega) only [↓eq_self, Option.toList_some, Option.toList_none, List.nil_append, List.cons_append, wsum_0, wsum_1, wsum_2, wsum_3, wsum_4, lkill, ↓reduceIte, if_true, if_false, Bool.false_eq_true, and_true, true_and, and_self, or_self, true_or, or_true, not_true, not_false_iff, mR_stI, mN_stI, isO_stI, isA_stI, mI_stI, mR_mW, mN_mW, isO_mW, isA_mW, mI_mW, mW_mW, stI_mW, vp_0, nI_addL, nI_mulL, nI_subL, nI_ltL, nI_leL, nI_Llt, nI_Lle, nI_eqL, nI_Leq, nI_add, pk_mul, nI_ltI, nI_leI, nI_eq, vpi, nI_clamp, nI_toN, ↓g_M_name_32, ↓g_M_name_40, ↓g_M_name_43, ↓g_M_name_47, ↓g_M_name_55, ↓g_M_name_58, ↓g_M_name_62, ↓g_M_name_70, ↓g_M_name_73, ↓g_M_name_77, ↓g_M_name_85, ↓g_M_name_88, ↓g_M_name_92, ↓g_M_name_94, bk_oM hB, hw, bv_0n, g0]
      exact ⟨rfl, rfl⟩
    · rw [if_neg g0]
      by_cases g1 : wdQ f a A (nI 7169389) 3
      · rw [if_pos g1]
        simp (maxSteps := 3000000) (disch := first | exact True.intro | assumption | omega) only [↓eq_self, Option.toList_some, Option.toList_none, List.nil_append, List.cons_append, wsum_0, wsum_1, wsum_2, wsum_3, wsum_4, lkill, ↓reduceIte, if_true, if_false, Bool.false_eq_true, and_true, true_and, and_self, or_self, true_or, or_true, not_true, not_false_iff, mR_stI, mN_stI, isO_stI, isA_stI, mI_stI, mR_mW, mN_mW, isO_mW, isA_mW, mI_mW, mW_mW, stI_mW, vp_0, nI_addL, nI_mulL, nI_subL, nI_ltL, nI_leL, nI_Llt, nI_Lle, nI_eqL, nI_Leq, nI_add, pk_mul, nI_ltI, nI_leI, nI_eq, vpi, nI_clamp, nI_toN, ↓g_M_name_32, ↓g_M_name_40, ↓g_M_name_43, ↓g_M_name_47, ↓g_M_name_55, ↓g_M_name_58, ↓g_M_name_62, ↓g_M_name_70, ↓g_M_name_73, ↓g_M_name_77, ↓g_M_name_85, ↓g_M_name_88, ↓g_M_name_92, ↓g_M_name_94, bk_oM hB, hw, bv_0n, g0, g1]
        exact ⟨rfl, rfl⟩
      · rw [if_neg g1]
        by_cases g2 : wdQ f a A (nI 7234932) 3
        · rw [if_pos g2]
          simp (maxSteps := 3000000) (disch := first | exact True.intro | assumption | omega) only [↓eq_self, Option.toList_some, Option.toList_none, List.nil_append, List.cons_append, wsum_0, wsum_1, wsum_2, wsum_3, wsum_4, lkill, ↓reduceIte, if_true, if_false, Bool.false_eq_true, and_true, true_and, and_self, or_self, true_or, or_true, not_true, not_false_iff, mR_stI, mN_stI, isO_stI, isA_stI, mI_stI, mR_mW, mN_mW, isO_mW, isA_mW, mI_mW, mW_mW, stI_mW, vp_0, nI_addL, nI_mulL, nI_subL, nI_ltL, nI_leL, nI_Llt, nI_Lle, nI_eqL, nI_Leq, nI_add, pk_mul, nI_ltI, nI_leI, nI_eq, vpi, nI_clamp, nI_toN, ↓g_M_name_32, ↓g_M_name_40, ↓g_M_name_43, ↓g_M_name_47, ↓g_M_name_55, ↓g_M_name_58, ↓g_M_name_62, ↓g_M_name_70, ↓g_M_name_73, ↓g_M_name_77, ↓g_M_name_85, ↓g_M_name_88, ↓g_M_name_92, ↓g_M_name_94, bk_oM hB, hw, bv_0n, g0, g1, g2]
          exact ⟨rfl, rfl⟩
        · rw [if_neg g2]
          by_cases g3 : wdQ f a A (nI 1684632427) 4
          · rw [if_pos g3]
            simp (maxSteps := 3000000) (disch := first | exact True.intro | assumption | omega) only [↓eq_self, Option.toList_some, Option.toList_none, List.nil_append, List.cons_append, wsum_0, wsum_1, wsum_2, wsum_3, wsum_4, lkill, ↓reduceIte, if_true, if_false, Bool.false_eq_true, and_true, true_and, and_self, or_self, true_or, or_true, not_true, not_false_iff, mR_stI, mN_stI, isO_stI, isA_stI, mI_stI, mR_mW, mN_mW, isO_mW, isA_mW, mI_mW, mW_mW, stI_mW, vp_0, nI_addL, nI_mulL, nI_subL, nI_ltL, nI_leL, nI_Llt, nI_Lle, nI_eqL, nI_Leq, nI_add, pk_mul, nI_ltI, nI_leI, nI_eq, vpi, nI_clamp, nI_toN, ↓g_M_name_32, ↓g_M_name_40, ↓g_M_name_43, ↓g_M_name_47, ↓g_M_name_55, ↓g_M_name_58, ↓g_M_name_62, ↓g_M_name_70, ↓g_M_name_73, ↓g_M_name_77, ↓g_M_name_85, ↓g_M_name_88, ↓g_M_name_92, ↓g_M_name_94, bk_oM hB, hw, bv_0n, g0, g1, g2, g3]
            exact ⟨rfl, rfl⟩
          · rw [if_neg g3]
            simp (maxSteps := 3000000) (disch := first | exact True.intro | assumption | omega) only [↓eq_self, Option.toList_some, Option.toList_none, List.nil_append, List.cons_append, wsum_0, wsum_1, wsum_2, wsum_3, wsum_4, lkill, ↓reduceIte, if_true, if_false, Bool.false_eq_true, and_true, true_and, and_self, or_self, true_or, or_true, not_true, not_false_iff, mR_stI, mN_stI, isO_stI, isA_stI, mI_stI, mR_mW, mN_mW, isO_mW, isA_mW, mI_mW, mW_mW, stI_mW, vp_0, nI_addL, nI_mulL, nI_subL, nI_ltL, nI_leL, nI_Llt, nI_Lle, nI_eqL, nI_Leq, nI_add, pk_mul, nI_ltI, nI_leI, nI_eq, vpi, nI_clamp, nI_toN, ↓g_M_name_32, ↓g_M_name_40, ↓g_M_name_43, ↓g_M_name_47, ↓g_M_name_55, ↓g_M_name_58, ↓g_M_name_62, ↓g_M_name_70, ↓g_M_name_73, ↓g_M_name_77, ↓g_M_name_85, ↓g_M_name_88, ↓g_M_name_92, ↓g_M_name_94, bk_oM hB, hw, bv_0n, g0, g1, g2, g3]
            exact ⟨rfl, rfl⟩
  intro n
  induction n with
  | zero =>
    intro A hn ha hA
    refine hend A ha hA (skF_e (by omega)) ?_
    unfold nxB
    rw [if_neg (by omega)]
    decide
  | succ n ih =>
    intro A hn ha hA
    have hlt : A < tL f := by omega
    by_cases h : nI 97 ≤ nxB f A ∧ nxB f A ≤ nI 122
    · have e : alU f A = alU f (A + 1) := skF_s hlt ((isL_ne hlt).mp h)
      rw [e]
      have hx : ∀ {K : Option Value → Mem → Prop}, pcall e_M_next [.ref 174] (mW M (atF f A)) K = K (some (.int (nxB f A))) (mW M (atF f A)) := nx_v hB hR hA
      refine X_runT (C := C_M_name) (S := S_M_name) (T := t_M_name_5) 1000 kt_M_name (okE_cons (ok_M_next Z d) (okE_cons (ok_M_in Z d) (okE_cons (ok_M_isWord Z d) okE_nil))) ?_
      simp (maxSteps := 3000000) (disch := first | exact True.intro | assumption | omega) only [↓eq_self, Option.toList_some, Option.toList_none, List.nil_append, List.cons_append, wsum_0, wsum_1, wsum_2, wsum_3, wsum_4, lkill, ↓reduceIte, if_true, if_false, Bool.false_eq_true, and_true, true_and, and_self, or_self, true_or, or_true, not_true, not_false_iff, mR_stI, mN_stI, isO_stI, isA_stI, mI_stI, mR_mW, mN_mW, isO_mW, isA_mW, mI_mW, mW_mW, stI_mW, vp_0, nI_addL, nI_mulL, nI_subL, nI_ltL, nI_leL, nI_Llt, nI_Lle, nI_eqL, nI_Leq, nI_add, pk_mul, nI_ltI, nI_leI, nI_eq, vpi, nI_clamp, nI_toN, ↓g_M_name_5, ↓g_M_name_9, ↓g_M_name_16, ↓g_M_name_19, bk_oM hB, hx, pc_M_in, bv_0n, h, u2_rw, at_7, nI_add, at_u]
      exact ih (A + 1) (by omega) (by omega) (by omega)
    · exact hend A ha hA (skF_e (fun q => h ((isL_ne hlt).mpr q.2))) h
set_option maxRecDepth 100000 in
set_option maxHeartbeats 4000000 in
theorem ok_M_name (Z : Zt) (d : Nat) : okE Z (d + 2) i_M_name e_M_name := mk_M_name fun o M hp => by
  obtain ⟨rfl, hB, hR⟩ := hp
  have := lp_M_name Z d (M := M) (f := mI M) (a := tA (mI M)) hB hR _ (tA (mI M)) rfl (Nat.le_refl _) hR.2.2
  rw [atF_self hR, mW_self] at this
  refine Gm_run (C := C_M_name) (S := S_M_name) [some (.ref 174), none] 1000 kt_M_name (okE_cons (ok_M_next Z d) (okE_cons (ok_M_in Z d) (okE_cons (ok_M_isWord Z d) okE_nil))) (ex_n rfl) ?_
  simp (maxSteps := 3000000) (disch := first | exact True.intro | assumption | omega) only [↓eq_self, Option.toList_some, Option.toList_none, List.nil_append, List.cons_append, wsum_0, wsum_1, wsum_2, wsum_3, wsum_4, lkill, ↓reduceIte, if_true, if_false, Bool.false_eq_true, and_true, true_and, and_self, or_self, true_or, or_true, not_true, not_false_iff, mR_stI, mN_stI, isO_stI, isA_stI, mI_stI, mR_mW, mN_mW, isO_mW, isA_mW, mI_mW, mW_mW, stI_mW, vp_0, nI_addL, nI_mulL, nI_subL, nI_ltL, nI_leL, nI_Llt, nI_Lle, nI_eqL, nI_Leq, nI_add, pk_mul, nI_ltI, nI_leI, nI_eq, vpi, nI_clamp, nI_toN, ↓g_M_name_0, bk_oM hB, hR.2.1]
  exact this
