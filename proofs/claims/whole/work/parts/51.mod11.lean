/-! the model: ruin and digest -/
theorem tkU_o {u : Nat → Int32} {y : Nat} (h : TkOk u) (hy : 454 ≤ y) : tkU u y = u y := by
  have h6 := h.1.1.2
  have hC : ∀ t, t ≤ uT u → tCP (tKB u) t y = tKB u y := by
    intro t
    induction t with
    | zero => intro _; rfl
    | succ t ih =>
      intro ht
      have hc := tCP_ok (tk_A h) t (by omega)
      rw [show tCP (tKB u) (t + 1) = tCU (tCP (tKB u) t) t from rfl]
      unfold tCU
      split
      · next q =>
        have hb := slU_pos (t := t) (by rw [hc.2.2]; omega) q.1 hc.2.1 hc.1.1.2
        rw [bnU_o hc.1 (by omega) hb (by omega) (by omega) (by omega) (by omega) (by omega) (by omega)]
        exact ih (by omega)
      · exact ih (by omega)
  have hc := tCP_ok (tk_A h) (uT u) (Nat.le_refl _)
  have e : tKC u y = tKB u y := hC _ (Nat.le_refl _)
  have e2 : tKB u y = u y := by
    unfold tKB tKA
    rw [tBP_o (by omega) _ h6, tAP_o (by omega) _ h6]
    unfold tK0
    rw [up_ne (by omega)]
  unfold tkU tDU
  split
  · next q =>
    have hb6 : uB (tKC u) ≤ 6 := hc.1.2.2.2.2
    obtain ⟨q0, hq, eq⟩ := hc.2.1.2 0 q.1
    rw [Nat.add_zero] at eq
    have eN : (tKC u 440).toNatClampNeg = q0 := tN_of eq (by omega)
    unfold tDP
    rw [if_neg (by omega), if_neg (by omega), if_neg (by omega), e, e2]
  · rw [e, e2]
theorem tkN_o {u : Nat → Int32} {y : Nat} (h : TkOk u) (hy : 454 ≤ y) : ∀ n, tkN_ u n y = u y
  | 0 => rfl
  | n + 1 => by
    rw [show tkN_ u (n + 1) = tkU (tkN_ u n) from rfl, tkU_o (tkN_T h n) hy, tkN_o h hy n]
def e_M_hasFailed : Ent := (fun av M => ∃ (o : Nat) (t : Nat), av = [.ref o, .int (nI t)] ∧ t < 2 ^ 31 ∧ (o = 174 ∧ BkS M ∧ t < 6), fun av M r_ M_ => ∀ (o : Nat) (t : Nat), t < 2 ^ 31 → av = [.ref o, .int (nI t)] → r_ = (some (.int (bv (¬ mI M 175 (8 + 12 * t + 2) = mI M 177 (8 + 12 * t + 2))))) ∧ M_ = (M))
theorem pc_M_hasFailed {o : Nat} {t : Nat} {M : Mem} {K : Option Value → Mem → Prop} (hp : o = 174 ∧ BkS M ∧ t < 6) (h_t : t < 2 ^ 31) : pcall e_M_hasFailed [.ref o, .int (nI t)] M K = K (some (.int (bv (¬ mI M 175 (8 + 12 * t + 2) = mI M 177 (8 + 12 * t + 2))))) (M) := propext ⟨fun h => h.2 _ _ (fun o' t' h_t' e => by simp only [List.cons.injEq, Value.ref.injEq, Value.int.injEq, Value.long.injEq, and_true] at e; obtain ⟨q0, q1⟩ := e; obtain rfl := q0; obtain rfl := (nI_eq h_t h_t').mp q1; exact ⟨rfl, rfl⟩), fun h => ⟨⟨o, t, rfl, h_t, hp⟩, fun r_ M_ q => by obtain ⟨rfl, rfl⟩ := q _ _ h_t rfl; exact h⟩⟩
theorem mk_M_hasFailed {Z : Zt} {d : Nat} (h : ∀ (o : Nat) (t : Nat) (M : Mem), t < 2 ^ 31 → (o = 174 ∧ BkS M ∧ t < 6) → Gm Z d s_M_hasFailed [.ref o, .int (nI t)] M (ex (some (.int (bv (¬ mI M 175 (8 + 12 * t + 2) = mI M 177 (8 + 12 * t + 2))))) (M))) : okE Z d i_M_hasFailed e_M_hasFailed := by
  rintro av M ⟨o, t, rfl, h_t, hp⟩
  exact Gm.cons (h o t M h_t hp) (fun r_ M_ q o' t' h_t' e => by simp only [List.cons.injEq, Value.ref.injEq, Value.int.injEq, Value.long.injEq, and_true] at e; obtain ⟨q0, q1⟩ := e; obtain rfl := q0; obtain rfl := (nI_eq h_t h_t').mp q1; exact q)
def C_M_hasFailed : List (Nat × Ent) := [(i_M_of, e_M_of)]
abbrev S_M_hasFailed : List Nat := []
def t_M_hasFailed_28 : List PI := (28, 9, 1, 0, 0, 0, []) :: []
def t_M_hasFailed_27 : List PI := (27, 0, 0, 0, 0, 0, []) :: t_M_hasFailed_28
def t_M_hasFailed_23 : List PI := (23, 0, 0, 0, 0, 1, []) :: (24, 6, 0, 28, 0, 0, []) :: t_M_hasFailed_27
def t_M_hasFailed_6 : List PI := (6, 1, 1, 0, 0, 0, []) :: (7, 8, 1, 5, 2, 0, [16]) :: (10, 0, 0, 0, 1, 8, []) :: (12, 0, 0, 0, 1, 12, []) :: (14, 1, 0, 1, 0, 0, []) :: (15, 2, 2, 0, 0, 0, []) :: (16, 2, 0, 0, 0, 0, []) :: (17, 0, 0, 0, 0, 2, []) :: (18, 2, 0, 0, 0, 0, []) :: (19, 8, 4, 0, 0, 0, []) :: (20, 4, 0, 27, 0, 0, []) :: t_M_hasFailed_23
def t_M_hasFailed_0 : List PI := (0, 1, 1, 0, 0, 0, []) :: (1, 1, 0, 1, 0, 0, []) :: (2, 0, 0, 0, 0, 2, []) :: (3, 11, 0, 5, 105, 0, [84, 3]) :: t_M_hasFailed_6
theorem kt_M_hasFailed : okP s_M_hasFailed t_M_hasFailed_0 := k_M_hasFailed
theorem g_M_hasFailed_0 {Z : Zt} {nF f : Nat} {Kx : Nat → Kt} {Q : Option Value → Mem → Prop} {M : Mem} {x1 : Nat} {x2 : Int32} : run Z nF C_M_hasFailed S_M_hasFailed Kx Q (f + 4) t_M_hasFailed_0 [some (.ref (x1)), some (.int (x2))] [] M = (((isO (M) (x1) 5) ∧ wsum [] ≤ 8) ∧ pcall e_M_of [.ref (x1), .int (x2), .int ((nI 2))] (M) (fun v M_ => run Z nF C_M_hasFailed S_M_hasFailed Kx Q f t_M_hasFailed_6 [some (.ref (x1)), some (.int (x2))] (v.toList ++ []) M_)) := rfl
theorem g_M_hasFailed_6 {Z : Zt} {nF f : Nat} {Kx : Nat → Kt} {Q : Option Value → Mem → Prop} {M : Mem} {x1 : Nat} {x2 : Int32} {x3 : Int32} : run Z nF C_M_hasFailed S_M_hasFailed Kx Q (f + 11) t_M_hasFailed_6 [some (.ref (x1)), some (.int (x2))] [.int (x3)] M = (isO (M) (x1) 5 ∧ isA (M) (mR (M) (x1) 2) ((((nI 8)) + (((nI 12)) * (x2))) + ((nI 2))) ∧ (if (x3) = (mI (M) (mR (M) (x1) 2) (Int32.toNatClampNeg ((((nI 8)) + (((nI 12)) * (x2))) + ((nI 2))))) then run Z nF C_M_hasFailed S_M_hasFailed Kx Q f t_M_hasFailed_27 [some (.ref (x1)), some (.int (x2))] [] (M) else run Z nF C_M_hasFailed S_M_hasFailed Kx Q f t_M_hasFailed_23 [some (.ref (x1)), some (.int (x2))] [] (M))) := rfl
theorem g_M_hasFailed_23 {Z : Zt} {nF f : Nat} {Kx : Nat → Kt} {Q : Option Value → Mem → Prop} {M : Mem} {x1 : Nat} {x2 : Int32} : run Z nF C_M_hasFailed S_M_hasFailed Kx Q (f + 2) t_M_hasFailed_23 [some (.ref (x1)), some (.int (x2))] [] M = (run Z nF C_M_hasFailed S_M_hasFailed Kx Q f t_M_hasFailed_28 [some (.ref (x1)), some (.int (x2))] [.int ((nI 1))] (M)) := rfl
theorem g_M_hasFailed_27 {Z : Zt} {nF f : Nat} {Kx : Nat → Kt} {Q : Option Value → Mem → Prop} {M : Mem} {x1 : Nat} {x2 : Int32} : run Z nF C_M_hasFailed S_M_hasFailed Kx Q (f + 1) t_M_hasFailed_27 [some (.ref (x1)), some (.int (x2))] [] M = (run Z nF C_M_hasFailed S_M_hasFailed Kx Q f t_M_hasFailed_28 [some (.ref (x1)), some (.int (x2))] [.int ((nI 0))] (M)) := rfl
theorem g_M_hasFailed_28 {Z : Zt} {nF f : Nat} {Kx : Nat → Kt} {Q : Option Value → Mem → Prop} {M : Mem} {x1 : Nat} {x2 : Int32} {x3 : Int32} : run Z nF C_M_hasFailed S_M_hasFailed Kx Q (f + 1) t_M_hasFailed_28 [some (.ref (x1)), some (.int (x2))] [.int (x3)] M = (((x3) = nI 0 ∨ (x3) = nI 1) ∧ Q (some (.int (x3))) (M)) := rfl
set_option maxRecDepth 100000 in
set_option maxHeartbeats 4000000 in
theorem ok_M_hasFailed (Z : Zt) (d : Nat) : okE Z (d + 2) i_M_hasFailed e_M_hasFailed := mk_M_hasFailed fun o t M h1 hp => by
  obtain ⟨rfl, hB, ht⟩ := hp
  have hom : ∀ {w : Nat} {K : Option Value → Mem → Prop}, w < 12 → pcall e_M_of [.ref 174, .int (nI t), .int (nI w)] M K = K (some (.int (mI M 175 (8 + 12 * t + w)))) M := fun {w K} h => of_m hB ht h
  refine Gm_run (C := C_M_hasFailed) (S := S_M_hasFailed) [some (.ref 174), some (.int (nI t))] 1000 kt_M_hasFailed (okE_cons (ok_M_of Z d) okE_nil) (ex_n rfl) ?_
  by_cases h : mI M 175 (8 + 12 * t + 2) = mI M 177 (8 + 12 * t + 2)
  · rw [bv_F (fun q => q h)]
    simp (maxSteps := 3000000) (disch := first | exact True.intro | assumption | omega) only [↓eq_self, Option.toList_some, Option.toList_none, List.nil_append, List.cons_append, wsum_0, wsum_1, wsum_2, wsum_3, wsum_4, lkill, ↓reduceIte, if_true, if_false, Bool.false_eq_true, and_true, true_and, and_self, or_self, true_or, or_true, not_true, not_false_iff, mR_stI, mN_stI, isO_stI, isA_stI, mI_stI, mR_mW, mN_mW, isO_mW, isA_mW, mI_mW, mW_mW, stI_mW, vp_0, nI_add, nI_ltI, nI_leI, nI_eq, vpi, nI_clamp, nI_toN, nI_geT, nI_lt4, pk_mul, pk_sub, bv_0n, bv_1n, ↓bv_01n, n01a, n01b, Nat.reduceSub, u2_rw, rw_rw, rw_at, rw_ne, rw_175_174, rw_176_174, rw_176_175, rw_177_174, rw_177_175, rw_177_176, rw_178_174, rw_178_175, rw_178_176, rw_178_177, rw_179_174, rw_179_175, rw_179_176, rw_179_177, rw_179_178, rw_180_174, rw_180_175, rw_180_176, rw_180_177, rw_180_178, rw_180_179, up_at, up_ne, Nat.zero_add, Nat.add_zero, bk_oM hB, bk_m0 hB, bk_m1 hB, bk_m2 hB, bk_m4 hB, bk_m6 hB, bk_m9 hB, md_a hB, md_p hB, md_s hB, md_t hB, md_r hB, md_v hB, ite_nt, ↓g_M_hasFailed_0, ↓g_M_hasFailed_6, ↓g_M_hasFailed_23, ↓g_M_hasFailed_27, ↓g_M_hasFailed_28, hom, h]
    exact ⟨rfl, rfl⟩
  · rw [bv_T h]
    simp (maxSteps := 3000000) (disch := first | exact True.intro | assumption | omega) only [↓eq_self, Option.toList_some, Option.toList_none, List.nil_append, List.cons_append, wsum_0, wsum_1, wsum_2, wsum_3, wsum_4, lkill, ↓reduceIte, if_true, if_false, Bool.false_eq_true, and_true, true_and, and_self, or_self, true_or, or_true, not_true, not_false_iff, mR_stI, mN_stI, isO_stI, isA_stI, mI_stI, mR_mW, mN_mW, isO_mW, isA_mW, mI_mW, mW_mW, stI_mW, vp_0, nI_add, nI_ltI, nI_leI, nI_eq, vpi, nI_clamp, nI_toN, nI_geT, nI_lt4, pk_mul, pk_sub, bv_0n, bv_1n, ↓bv_01n, n01a, n01b, Nat.reduceSub, u2_rw, rw_rw, rw_at, rw_ne, rw_175_174, rw_176_174, rw_176_175, rw_177_174, rw_177_175, rw_177_176, rw_178_174, rw_178_175, rw_178_176, rw_178_177, rw_179_174, rw_179_175, rw_179_176, rw_179_177, rw_179_178, rw_180_174, rw_180_175, rw_180_176, rw_180_177, rw_180_178, rw_180_179, up_at, up_ne, Nat.zero_add, Nat.add_zero, bk_oM hB, bk_m0 hB, bk_m1 hB, bk_m2 hB, bk_m4 hB, bk_m6 hB, bk_m9 hB, md_a hB, md_p hB, md_s hB, md_t hB, md_r hB, md_v hB, ite_nt, ↓g_M_hasFailed_0, ↓g_M_hasFailed_6, ↓g_M_hasFailed_23, ↓g_M_hasFailed_27, ↓g_M_hasFailed_28, hom, h]
    exact ⟨rfl, rfl⟩
def ruC (u : Nat → Int32) (t n : Nat) : Prop := tkN_ u n (8 + 12 * t + 3) = nI 1 ∧ tkN_ u n (8 + 12 * t + 2) = u (8 + 12 * t + 2)
noncomputable def ruL (u : Nat → Int32) (t : Nat) : Nat → Nat → Nat
  | 0, n => n
  | m + 1, n => @ite _ (ruC u t n) (Classical.propDecidable _) (ruL u t m (n + 1)) n
noncomputable def ruQ (u : Nat → Int32) (t : Nat) : Int32 := if tkN_ u (ruL u t 200 0) (8 + 12 * t + 2) = u (8 + 12 * t + 2) then -1000003 else nI (ruL u t 200 0)
def asG (f : Nat → Nat → Int32) : Nat → Nat → Int32 := rwF f 177 (cpU (f 177) (f 175) 454)
def e_M_ruinOf : Ent := (fun av M => ∃ (o : Nat) (t : Nat), av = [.ref o, .int (nI t)] ∧ t < 2 ^ 31 ∧ (o = 174 ∧ BkS M ∧ TkOk (mI M 175) ∧ t < 6), fun av M r_ M_ => ∀ (o : Nat) (t : Nat), t < 2 ^ 31 → av = [.ref o, .int (nI t)] → r_ = (some (.int (ruQ (mI M 175) t))) ∧ M_ = (mW M (asG (mI M))))
theorem pc_M_ruinOf {o : Nat} {t : Nat} {M : Mem} {K : Option Value → Mem → Prop} (hp : o = 174 ∧ BkS M ∧ TkOk (mI M 175) ∧ t < 6) (h_t : t < 2 ^ 31) : pcall e_M_ruinOf [.ref o, .int (nI t)] M K = K (some (.int (ruQ (mI M 175) t))) (mW M (asG (mI M))) := propext ⟨fun h => h.2 _ _ (fun o' t' h_t' e => by simp only [List.cons.injEq, Value.ref.injEq, Value.int.injEq, Value.long.injEq, and_true] at e; obtain ⟨q0, q1⟩ := e; obtain rfl := q0; obtain rfl := (nI_eq h_t h_t').mp q1; exact ⟨rfl, rfl⟩), fun h => ⟨⟨o, t, rfl, h_t, hp⟩, fun r_ M_ q => by obtain ⟨rfl, rfl⟩ := q _ _ h_t rfl; exact h⟩⟩
theorem mk_M_ruinOf {Z : Zt} {d : Nat} (h : ∀ (o : Nat) (t : Nat) (M : Mem), t < 2 ^ 31 → (o = 174 ∧ BkS M ∧ TkOk (mI M 175) ∧ t < 6) → Gm Z d s_M_ruinOf [.ref o, .int (nI t)] M (ex (some (.int (ruQ (mI M 175) t))) (mW M (asG (mI M))))) : okE Z d i_M_ruinOf e_M_ruinOf := by
  rintro av M ⟨o, t, rfl, h_t, hp⟩
  exact Gm.cons (h o t M h_t hp) (fun r_ M_ q o' t' h_t' e => by simp only [List.cons.injEq, Value.ref.injEq, Value.int.injEq, Value.long.injEq, and_true] at e; obtain ⟨q0, q1⟩ := e; obtain rfl := q0; obtain rfl := (nI_eq h_t h_t').mp q1; exact q)
def C_M_ruinOf : List (Nat × Ent) := [(i_M_keepsAside, e_M_keepsAside), (i_M_of, e_M_of), (i_M_hasFailed, e_M_hasFailed), (i_M_tick, e_M_tick), (i_M_returns, e_M_returns)]
abbrev S_M_ruinOf : List Nat := [6]
def t_M_ruinOf_61 : List PI := (61, 9, 0, 0, 0, 0, []) :: []
def t_M_ruinOf_59 : List PI := (59, 0, 0, 52, 3, -1000003, []) :: t_M_ruinOf_61
def t_M_ruinOf_55 : List PI := (55, 1, 0, 2, 0, 0, []) :: (56, 6, 0, 61, 0, 0, []) :: t_M_ruinOf_59
def t_M_ruinOf_51 : List PI := (51, 1, 0, 3, 0, 0, []) :: (52, 5, 0, 59, 0, 0, []) :: t_M_ruinOf_55
def t_M_ruinOf_46 : List PI := (46, 1, 3, 3, 0, 0, []) :: (47, 1, 1, 0, 0, 0, []) :: (48, 11, 0, 5, 110, 0, [166, 1]) :: t_M_ruinOf_51
def t_M_ruinOf_41 : List PI := (41, 1, 1, 0, 0, 0, []) :: (42, 1, 0, 1, 0, 0, []) :: (43, 11, 0, 5, 165, 0, [175, 2]) :: t_M_ruinOf_46
def t_M_ruinOf_35 : List PI := (35, 1, 6, 2, 0, 1, []) :: (38, 6, 0, 6, 0, 0, []) :: t_M_ruinOf_41
def t_M_ruinOf_31 : List PI := (31, 1, 1, 0, 0, 0, []) :: (32, 11, 0, 5, 150, 0, [148, 1]) :: t_M_ruinOf_35
def t_M_ruinOf_28 : List PI := (28, 5, 1, 41, 0, 0, []) :: t_M_ruinOf_31
def t_M_ruinOf_23 : List PI := (23, 1, 1, 0, 0, 0, []) :: (24, 1, 0, 1, 0, 0, []) :: (25, 11, 0, 5, 165, 0, [175, 2]) :: t_M_ruinOf_28
def t_M_ruinOf_19 : List PI := (19, 0, 0, 0, 0, 1, []) :: (20, 4, 1, 41, 0, 0, []) :: t_M_ruinOf_23
def t_M_ruinOf_13 : List PI := (13, 1, 1, 0, 0, 0, []) :: (14, 1, 0, 1, 0, 0, []) :: (15, 0, 0, 0, 0, 3, []) :: (16, 11, 0, 5, 105, 0, [84, 3]) :: t_M_ruinOf_19
def t_M_ruinOf_6 : List PI := (6, 1, 0, 2, 0, 0, []) :: (7, 0, 0, 0, 2, 200, []) :: (10, 4, 3, 41, 0, 0, []) :: t_M_ruinOf_13
def t_M_ruinOf_4 : List PI := (4, 0, 0, 0, 0, 0, []) :: (5, 1, 3, 2, 0, 0, []) :: t_M_ruinOf_6
def t_M_ruinOf_0 : List PI := (0, 1, 1, 0, 0, 0, []) :: (1, 11, 0, 5, 109, 0, [163, 1]) :: t_M_ruinOf_4
theorem kt_M_ruinOf : okP s_M_ruinOf t_M_ruinOf_0 := k_M_ruinOf
theorem g_M_ruinOf_0 {Z : Zt} {nF f : Nat} {Kx : Nat → Kt} {Q : Option Value → Mem → Prop} {M : Mem} {x1 : Nat} {x2 : Int32} : run Z nF C_M_ruinOf S_M_ruinOf Kx Q (f + 2) t_M_ruinOf_0 [some (.ref (x1)), some (.int (x2)), none, none] [] M = (((isO (M) (x1) 5) ∧ wsum [] ≤ 8) ∧ pcall e_M_keepsAside [.ref (x1)] (M) (fun v M_ => run Z nF C_M_ruinOf S_M_ruinOf Kx Q f t_M_ruinOf_4 [some (.ref (x1)), some (.int (x2)), none, none] (v.toList ++ []) M_)) := rfl
theorem g_M_ruinOf_4 {Z : Zt} {nF f : Nat} {Kx : Nat → Kt} {Q : Option Value → Mem → Prop} {M : Mem} {x1 : Nat} {x2 : Int32} : run Z nF C_M_ruinOf S_M_ruinOf Kx Q (f + 2) t_M_ruinOf_4 [some (.ref (x1)), some (.int (x2)), none, none] [] M = (Kx 6 [some (.ref (x1)), some (.int (x2)), some (.int ((nI 0))), none] [] (M)) := rfl
theorem g_M_ruinOf_6 {Z : Zt} {nF f : Nat} {Kx : Nat → Kt} {Q : Option Value → Mem → Prop} {M : Mem} {x1 : Nat} {x2 : Int32} {x3 : Int32} : run Z nF C_M_ruinOf S_M_ruinOf Kx Q (f + 3) t_M_ruinOf_6 [some (.ref (x1)), some (.int (x2)), some (.int (x3)), none] [] M = ((if ((nI 200)) ≤ (x3) then run Z nF C_M_ruinOf S_M_ruinOf Kx Q f t_M_ruinOf_41 [some (.ref (x1)), some (.int (x2)), some (.int (x3)), none] [] (M) else run Z nF C_M_ruinOf S_M_ruinOf Kx Q f t_M_ruinOf_13 [some (.ref (x1)), some (.int (x2)), some (.int (x3)), none] [] (M))) := rfl
theorem g_M_ruinOf_13 {Z : Zt} {nF f : Nat} {Kx : Nat → Kt} {Q : Option Value → Mem → Prop} {M : Mem} {x1 : Nat} {x2 : Int32} {x3 : Int32} : run Z nF C_M_ruinOf S_M_ruinOf Kx Q (f + 4) t_M_ruinOf_13 [some (.ref (x1)), some (.int (x2)), some (.int (x3)), none] [] M = (((isO (M) (x1) 5) ∧ wsum [] ≤ 8) ∧ pcall e_M_of [.ref (x1), .int (x2), .int ((nI 3))] (M) (fun v M_ => run Z nF C_M_ruinOf S_M_ruinOf Kx Q f t_M_ruinOf_19 [some (.ref (x1)), some (.int (x2)), some (.int (x3)), none] (v.toList ++ []) M_)) := rfl
theorem g_M_ruinOf_19 {Z : Zt} {nF f : Nat} {Kx : Nat → Kt} {Q : Option Value → Mem → Prop} {M : Mem} {x1 : Nat} {x2 : Int32} {x3 : Int32} {x4 : Int32} : run Z nF C_M_ruinOf S_M_ruinOf Kx Q (f + 2) t_M_ruinOf_19 [some (.ref (x1)), some (.int (x2)), some (.int (x3)), none] [.int (x4)] M = ((if (x4) = ((nI 1)) then run Z nF C_M_ruinOf S_M_ruinOf Kx Q f t_M_ruinOf_23 [some (.ref (x1)), some (.int (x2)), some (.int (x3)), none] [] (M) else run Z nF C_M_ruinOf S_M_ruinOf Kx Q f t_M_ruinOf_41 [some (.ref (x1)), some (.int (x2)), some (.int (x3)), none] [] (M))) := rfl
theorem g_M_ruinOf_23 {Z : Zt} {nF f : Nat} {Kx : Nat → Kt} {Q : Option Value → Mem → Prop} {M : Mem} {x1 : Nat} {x2 : Int32} {x3 : Int32} : run Z nF C_M_ruinOf S_M_ruinOf Kx Q (f + 3) t_M_ruinOf_23 [some (.ref (x1)), some (.int (x2)), some (.int (x3)), none] [] M = (((isO (M) (x1) 5) ∧ wsum [] ≤ 8) ∧ pcall e_M_hasFailed [.ref (x1), .int (x2)] (M) (fun v M_ => run Z nF C_M_ruinOf S_M_ruinOf Kx Q f t_M_ruinOf_28 [some (.ref (x1)), some (.int (x2)), some (.int (x3)), none] (v.toList ++ []) M_)) := rfl
theorem g_M_ruinOf_28 {Z : Zt} {nF f : Nat} {Kx : Nat → Kt} {Q : Option Value → Mem → Prop} {M : Mem} {x1 : Nat} {x2 : Int32} {x3 : Int32} {x4 : Int32} : run Z nF C_M_ruinOf S_M_ruinOf Kx Q (f + 1) t_M_ruinOf_28 [some (.ref (x1)), some (.int (x2)), some (.int (x3)), none] [.int (x4)] M = ((if (x4) = nI 0 then run Z nF C_M_ruinOf S_M_ruinOf Kx Q f t_M_ruinOf_31 [some (.ref (x1)), some (.int (x2)), some (.int (x3)), none] [] (M) else run Z nF C_M_ruinOf S_M_ruinOf Kx Q f t_M_ruinOf_41 [some (.ref (x1)), some (.int (x2)), some (.int (x3)), none] [] (M))) := rfl
theorem g_M_ruinOf_31 {Z : Zt} {nF f : Nat} {Kx : Nat → Kt} {Q : Option Value → Mem → Prop} {M : Mem} {x1 : Nat} {x2 : Int32} {x3 : Int32} : run Z nF C_M_ruinOf S_M_ruinOf Kx Q (f + 2) t_M_ruinOf_31 [some (.ref (x1)), some (.int (x2)), some (.int (x3)), none] [] M = (((isO (M) (x1) 5) ∧ wsum [] ≤ 8) ∧ pcall e_M_tick [.ref (x1)] (M) (fun v M_ => run Z nF C_M_ruinOf S_M_ruinOf Kx Q f t_M_ruinOf_35 [some (.ref (x1)), some (.int (x2)), some (.int (x3)), none] (v.toList ++ []) M_)) := rfl
theorem g_M_ruinOf_35 {Z : Zt} {nF f : Nat} {Kx : Nat → Kt} {Q : Option Value → Mem → Prop} {M : Mem} {x1 : Nat} {x2 : Int32} {x3 : Int32} : run Z nF C_M_ruinOf S_M_ruinOf Kx Q (f + 2) t_M_ruinOf_35 [some (.ref (x1)), some (.int (x2)), some (.int (x3)), none] [] M = (Kx 6 [some (.ref (x1)), some (.int (x2)), some (.int (x3 + (nI 1))), none] [] (M)) := rfl
theorem g_M_ruinOf_41 {Z : Zt} {nF f : Nat} {Kx : Nat → Kt} {Q : Option Value → Mem → Prop} {M : Mem} {x1 : Nat} {x2 : Int32} {x3 : Int32} : run Z nF C_M_ruinOf S_M_ruinOf Kx Q (f + 3) t_M_ruinOf_41 [some (.ref (x1)), some (.int (x2)), some (.int (x3)), none] [] M = (((isO (M) (x1) 5) ∧ wsum [] ≤ 8) ∧ pcall e_M_hasFailed [.ref (x1), .int (x2)] (M) (fun v M_ => run Z nF C_M_ruinOf S_M_ruinOf Kx Q f t_M_ruinOf_46 [some (.ref (x1)), some (.int (x2)), some (.int (x3)), none] (v.toList ++ []) M_)) := rfl
theorem g_M_ruinOf_46 {Z : Zt} {nF f : Nat} {Kx : Nat → Kt} {Q : Option Value → Mem → Prop} {M : Mem} {x1 : Nat} {x2 : Int32} {x3 : Int32} {x4 : Int32} : run Z nF C_M_ruinOf S_M_ruinOf Kx Q (f + 3) t_M_ruinOf_46 [some (.ref (x1)), some (.int (x2)), some (.int (x3)), none] [.int (x4)] M = (((isO (M) (x1) 5) ∧ wsum [] ≤ 8) ∧ pcall e_M_returns [.ref (x1)] (M) (fun v M_ => run Z nF C_M_ruinOf S_M_ruinOf Kx Q f t_M_ruinOf_51 [some (.ref (x1)), some (.int (x2)), some (.int (x3)), some (.int (x4))] (v.toList ++ []) M_)) := rfl
theorem g_M_ruinOf_51 {Z : Zt} {nF f : Nat} {Kx : Nat → Kt} {Q : Option Value → Mem → Prop} {M : Mem} {x1 : Nat} {x2 : Int32} {x3 : Int32} {x4 : Int32} : run Z nF C_M_ruinOf S_M_ruinOf Kx Q (f + 2) t_M_ruinOf_51 [some (.ref (x1)), some (.int (x2)), some (.int (x3)), some (.int (x4))] [] M = ((if (x4) = nI 0 then run Z nF C_M_ruinOf S_M_ruinOf Kx Q f t_M_ruinOf_59 [some (.ref (x1)), some (.int (x2)), some (.int (x3)), some (.int (x4))] [] (M) else run Z nF C_M_ruinOf S_M_ruinOf Kx Q f t_M_ruinOf_55 [some (.ref (x1)), some (.int (x2)), some (.int (x3)), some (.int (x4))] [] (M))) := rfl
theorem g_M_ruinOf_55 {Z : Zt} {nF f : Nat} {Kx : Nat → Kt} {Q : Option Value → Mem → Prop} {M : Mem} {x1 : Nat} {x2 : Int32} {x3 : Int32} {x4 : Int32} : run Z nF C_M_ruinOf S_M_ruinOf Kx Q (f + 2) t_M_ruinOf_55 [some (.ref (x1)), some (.int (x2)), some (.int (x3)), some (.int (x4))] [] M = (run Z nF C_M_ruinOf S_M_ruinOf Kx Q f t_M_ruinOf_61 [some (.ref (x1)), some (.int (x2)), some (.int (x3)), some (.int (x4))] [.int (x3)] (M)) := rfl
theorem g_M_ruinOf_59 {Z : Zt} {nF f : Nat} {Kx : Nat → Kt} {Q : Option Value → Mem → Prop} {M : Mem} {x1 : Nat} {x2 : Int32} {x3 : Int32} {x4 : Int32} : run Z nF C_M_ruinOf S_M_ruinOf Kx Q (f + 1) t_M_ruinOf_59 [some (.ref (x1)), some (.int (x2)), some (.int (x3)), some (.int (x4))] [] M = (run Z nF C_M_ruinOf S_M_ruinOf Kx Q f t_M_ruinOf_61 [some (.ref (x1)), some (.int (x2)), some (.int (x3)), some (.int (x4))] [.int ((-1000003 : Int32))] (M)) := rfl
theorem g_M_ruinOf_61 {Z : Zt} {nF f : Nat} {Kx : Nat → Kt} {Q : Option Value → Mem → Prop} {M : Mem} {x1 : Nat} {x2 : Int32} {x3 : Int32} {x4 : Int32} {x5 : Int32} : run Z nF C_M_ruinOf S_M_ruinOf Kx Q (f + 1) t_M_ruinOf_61 [some (.ref (x1)), some (.int (x2)), some (.int (x3)), some (.int (x4))] [.int (x5)] M = (Q (some (.int (x5))) (M)) := rfl
set_option maxRecDepth 100000 in
set_option maxHeartbeats 4000000 in
theorem lp_M_ruinOf (Z : Zt) (d : Nat) {M : Mem} {f : Nat → Nat → Int32} {t N : Nat} (hB : BkS M) (hu : TkOk (f 175)) (ht : t < 6) : ∀ m n, n + m = 200 → ruL (f 175) t m n = N → X Z (d + 5) s_M_ruinOf (mN M) (mN M) (ex (some (.int (if tkN_ (f 175) N (8 + 12 * t + 2) = f 175 (8 + 12 * t + 2) then -1000003 else nI N))) (mW M (asG f))) 6 [some (.ref 174), some (.int (nI t)), some (.int (nI n)), none] [] (mW M (rwF (rwF f 175 (tkN_ (f 175) n)) 177 (cpU (f 177) (f 175) 454))) := by
  have hof : ∀ {n w : Nat} {K : Option Value → Mem → Prop}, w < 12 → pcall e_M_of [.ref 174, .int (nI t), .int (nI w)] (mW M (rwF (rwF f 175 (tkN_ (f 175) n)) 177 (cpU (f 177) (f 175) 454))) K = K (some (.int (tkN_ (f 175) n (8 + 12 * t + w)))) (mW M (rwF (rwF f 175 (tkN_ (f 175) n)) 177 (cpU (f 177) (f 175) 454))) := fun {n w K} h => by rw [of_g hB ht h, rw_ne (by omega), rw_at]
  have hhf : ∀ {n : Nat} {K : Option Value → Mem → Prop}, pcall e_M_hasFailed [.ref 174, .int (nI t)] (mW M (rwF (rwF f 175 (tkN_ (f 175) n)) 177 (cpU (f 177) (f 175) 454))) K = K (some (.int (bv (¬ tkN_ (f 175) n (8 + 12 * t + 2) = f 175 (8 + 12 * t + 2))))) (mW M (rwF (rwF f 175 (tkN_ (f 175) n)) 177 (cpU (f 177) (f 175) 454))) := fun {n K} => by
    rw [pc_M_hasFailed (o := 174) (t := t) (M := mW M (rwF (rwF f 175 (tkN_ (f 175) n)) 177 (cpU (f 177) (f 175) 454))) ⟨rfl, hB, ht⟩ (by omega), mI_mW, rw_at, rw_ne (show (175 : Nat) ≠ 177 by omega), rw_at, show cpU (f 177) (f 175) 454 (8 + 12 * t + 2) = f 175 (8 + 12 * t + 2) from if_pos (by omega)]
  have hre : ∀ {n : Nat} {K : Option Value → Mem → Prop}, pcall e_M_returns [.ref 174] (mW M (rwF (rwF f 175 (tkN_ (f 175) n)) 177 (cpU (f 177) (f 175) 454))) K = K none (mW M (asG f)) := fun {n K} => by
    rw [pc_M_returns (o := 174) (M := mW M (rwF (rwF f 175 (tkN_ (f 175) n)) 177 (cpU (f 177) (f 175) 454))) ⟨rfl, hB⟩, mI_mW, mW_mW, rw_at, rw_ne (show (175 : Nat) ≠ 177 by omega), rw_at, cpU_back (fun y hy => tkN_o hu hy n), rw_177_175, rw_rw, rwF_self]
    rfl
  have htk : ∀ {n : Nat} {K : Option Value → Mem → Prop}, pcall e_M_tick [.ref 174] (mW M (rwF (rwF f 175 (tkN_ (f 175) n)) 177 (cpU (f 177) (f 175) 454))) K = K none (mW M (rwF (rwF f 175 (tkN_ (f 175) (n + 1))) 177 (cpU (f 177) (f 175) 454))) := fun {n K} => by
    rw [pc_M_tick (o := 174) (M := mW M (rwF (rwF f 175 (tkN_ (f 175) n)) 177 (cpU (f 177) (f 175) 454))) ⟨rfl, hB, by rw [mI_mW, rw_ne (by omega), rw_at]; exact tkN_T hu n⟩, mI_mW, mW_mW, rw_ne (show (175 : Nat) ≠ 177 by omega), rw_at, rw_177_175, rw_rw]
    rfl
  intro m
  induction m with
  | zero =>
    intro n hn hN
    obtain rfl : n = 200 := by omega
    rw [show ruL (f 175) t 0 200 = 200 from rfl] at hN
    subst hN
    refine X_runT (C := C_M_ruinOf) (S := S_M_ruinOf) (T := t_M_ruinOf_6) 1000 kt_M_ruinOf (okE_cons (ok_M_keepsAside Z (d + 3)) (okE_cons (ok_M_of Z (d + 3)) (okE_cons (ok_M_hasFailed Z (d + 2)) (okE_cons (ok_M_tick Z d) (okE_cons (ok_M_returns Z (d + 3)) okE_nil))))) ?_
    by_cases h : tkN_ (f 175) 200 (8 + 12 * t + 2) = f 175 (8 + 12 * t + 2)
    · rw [if_pos h]
      simp (maxSteps := 3000000) (disch := first | exact True.intro | assumption | omega) only [↓eq_self, Option.toList_some, Option.toList_none, List.nil_append, List.cons_append, wsum_0, wsum_1, wsum_2, wsum_3, wsum_4, lkill, ↓reduceIte, if_true, if_false, Bool.false_eq_true, and_true, true_and, and_self, or_self, true_or, or_true, not_true, not_false_iff, mR_stI, mN_stI, isO_stI, isA_stI, mI_stI, mR_mW, mN_mW, isO_mW, isA_mW, mI_mW, mW_mW, stI_mW, vp_0, nI_addL, nI_mulL, nI_subL, nI_ltL, nI_leL, nI_Llt, nI_Lle, nI_eqL, nI_Leq, nI_add, pk_mul, nI_ltI, nI_leI, nI_eq, vpi, nI_clamp, nI_toN, ↓g_M_ruinOf_6, ↓g_M_ruinOf_41, ↓g_M_ruinOf_46, ↓g_M_ruinOf_51, ↓g_M_ruinOf_55, ↓g_M_ruinOf_59, ↓g_M_ruinOf_61, bk_oM hB, nI_leI, hhf, h, bv_0n, ite_nt, hre, Nat.le_refl]
      exact ⟨rfl, rfl⟩
    · rw [if_neg h]
      simp (maxSteps := 3000000) (disch := first | exact True.intro | assumption | omega) only [↓eq_self, Option.toList_some, Option.toList_none, List.nil_append, List.cons_append, wsum_0, wsum_1, wsum_2, wsum_3, wsum_4, lkill, ↓reduceIte, if_true, if_false, Bool.false_eq_true, and_true, true_and, and_self, or_self, true_or, or_true, not_true, not_false_iff, mR_stI, mN_stI, isO_stI, isA_stI, mI_stI, mR_mW, mN_mW, isO_mW, isA_mW, mI_mW, mW_mW, stI_mW, vp_0, nI_addL, nI_mulL, nI_subL, nI_ltL, nI_leL, nI_Llt, nI_Lle, nI_eqL, nI_Leq, nI_add, pk_mul, nI_ltI, nI_leI, nI_eq, vpi, nI_clamp, nI_toN, ↓g_M_ruinOf_6, ↓g_M_ruinOf_41, ↓g_M_ruinOf_46, ↓g_M_ruinOf_51, ↓g_M_ruinOf_55, ↓g_M_ruinOf_59, ↓g_M_ruinOf_61, bk_oM hB, nI_leI, hhf, h, bv_0n, ite_nt, hre, Nat.le_refl]
      exact ⟨rfl, rfl⟩
  | succ m ih =>
    intro n hn hN
    have h1 : ¬ 200 ≤ n := by omega
    rw [ruL] at hN
    refine X_runT (C := C_M_ruinOf) (S := S_M_ruinOf) (T := t_M_ruinOf_6) 1000 kt_M_ruinOf (okE_cons (ok_M_keepsAside Z (d + 3)) (okE_cons (ok_M_of Z (d + 3)) (okE_cons (ok_M_hasFailed Z (d + 2)) (okE_cons (ok_M_tick Z d) (okE_cons (ok_M_returns Z (d + 3)) okE_nil))))) ?_
    by_cases h : tkN_ (f 175) n (8 + 12 * t + 2) = f 175 (8 + 12 * t + 2)
    · by_cases h2 : tkN_ (f 175) n (8 + 12 * t + 3) = nI 1
      · rw [if_pos ⟨h2, h⟩] at hN
        simp (maxSteps := 3000000) (disch := first | exact True.intro | assumption | omega) only [↓eq_self, Option.toList_some, Option.toList_none, List.nil_append, List.cons_append, wsum_0, wsum_1, wsum_2, wsum_3, wsum_4, lkill, ↓reduceIte, if_true, if_false, Bool.false_eq_true, and_true, true_and, and_self, or_self, true_or, or_true, not_true, not_false_iff, mR_stI, mN_stI, isO_stI, isA_stI, mI_stI, mR_mW, mN_mW, isO_mW, isA_mW, mI_mW, mW_mW, stI_mW, vp_0, nI_addL, nI_mulL, nI_subL, nI_ltL, nI_leL, nI_Llt, nI_Lle, nI_eqL, nI_Leq, nI_add, pk_mul, nI_ltI, nI_leI, nI_eq, vpi, nI_clamp, nI_toN, ↓g_M_ruinOf_6, ↓g_M_ruinOf_13, ↓g_M_ruinOf_19, ↓g_M_ruinOf_23, ↓g_M_ruinOf_28, ↓g_M_ruinOf_31, ↓g_M_ruinOf_35, bk_oM hB, nI_leI, h1, hof, h2, hhf, h, bv_0n, ite_nt, htk, nI_add]
        exact ih (n + 1) (by omega) hN
      · rw [if_neg (fun q => h2 q.1)] at hN
        subst hN
        rw [if_pos h]
        simp (maxSteps := 3000000) (disch := first | exact True.intro | assumption | omega) only [↓eq_self, Option.toList_some, Option.toList_none, List.nil_append, List.cons_append, wsum_0, wsum_1, wsum_2, wsum_3, wsum_4, lkill, ↓reduceIte, if_true, if_false, Bool.false_eq_true, and_true, true_and, and_self, or_self, true_or, or_true, not_true, not_false_iff, mR_stI, mN_stI, isO_stI, isA_stI, mI_stI, mR_mW, mN_mW, isO_mW, isA_mW, mI_mW, mW_mW, stI_mW, vp_0, nI_addL, nI_mulL, nI_subL, nI_ltL, nI_leL, nI_Llt, nI_Lle, nI_eqL, nI_Leq, nI_add, pk_mul, nI_ltI, nI_leI, nI_eq, vpi, nI_clamp, nI_toN, ↓g_M_ruinOf_6, ↓g_M_ruinOf_13, ↓g_M_ruinOf_19, ↓g_M_ruinOf_23, ↓g_M_ruinOf_28, ↓g_M_ruinOf_31, ↓g_M_ruinOf_35, ↓g_M_ruinOf_41, ↓g_M_ruinOf_46, ↓g_M_ruinOf_51, ↓g_M_ruinOf_55, ↓g_M_ruinOf_59, ↓g_M_ruinOf_61, bk_oM hB, nI_leI, h1, hof, h2, hhf, h, bv_0n, ite_nt, hre]
        exact ⟨rfl, rfl⟩
    · rw [if_neg (fun q => h q.2)] at hN
      subst hN
      rw [if_neg h]
      by_cases h2 : tkN_ (f 175) n (8 + 12 * t + 3) = nI 1
      · simp (maxSteps := 3000000) (disch := first | exact True.intro | assumption | omega) only [↓eq_self, Option.toList_some, Option.toList_none, List.nil_append, List.cons_append, wsum_0, wsum_1, wsum_2, wsum_3, wsum_4, lkill, ↓reduceIte, if_true, if_false, Bool.false_eq_true, and_true, true_and, and_self, or_self, true_or, or_true, not_true, not_false_iff, mR_stI, mN_stI, isO_stI, isA_stI, mI_stI, mR_mW, mN_mW, isO_mW, isA_mW, mI_mW, mW_mW, stI_mW, vp_0, nI_addL, nI_mulL, nI_subL, nI_ltL, nI_leL, nI_Llt, nI_Lle, nI_eqL, nI_Leq, nI_add, pk_mul, nI_ltI, nI_leI, nI_eq, vpi, nI_clamp, nI_toN, ↓g_M_ruinOf_6, ↓g_M_ruinOf_13, ↓g_M_ruinOf_19, ↓g_M_ruinOf_23, ↓g_M_ruinOf_28, ↓g_M_ruinOf_41, ↓g_M_ruinOf_46, ↓g_M_ruinOf_51, ↓g_M_ruinOf_55, ↓g_M_ruinOf_59, ↓g_M_ruinOf_61, bk_oM hB, nI_leI, h1, hof, h2, hhf, h, bv_0n, ite_nt, hre]
        exact ⟨rfl, rfl⟩
      · simp (maxSteps := 3000000) (disch := first | exact True.intro | assumption | omega) only [↓eq_self, Option.toList_some, Option.toList_none, List.nil_append, List.cons_append, wsum_0, wsum_1, wsum_2, wsum_3, wsum_4, lkill, ↓reduceIte, if_true, if_false, Bool.false_eq_true, and_true, true_and, and_self, or_self, true_or, or_true, not_true, not_false_iff, mR_stI, mN_stI, isO_stI, isA_stI, mI_stI, mR_mW, mN_mW, isO_mW, isA_mW, mI_mW, mW_mW, stI_mW, vp_0, nI_addL, nI_mulL, nI_subL, nI_ltL, nI_leL, nI_Llt, nI_Lle, nI_eqL, nI_Leq, nI_add, pk_mul, nI_ltI, nI_leI, nI_eq, vpi, nI_clamp, nI_toN, ↓g_M_ruinOf_6, ↓g_M_ruinOf_13, ↓g_M_ruinOf_19, ↓g_M_ruinOf_23, ↓g_M_ruinOf_28, ↓g_M_ruinOf_41, ↓g_M_ruinOf_46, ↓g_M_ruinOf_51, ↓g_M_ruinOf_55, ↓g_M_ruinOf_59, ↓g_M_ruinOf_61, bk_oM hB, nI_leI, h1, hof, h2, hhf, h, bv_0n, ite_nt, hre]
        exact ⟨rfl, rfl⟩
set_option maxRecDepth 100000 in
set_option maxHeartbeats 4000000 in
theorem ok_M_ruinOf (Z : Zt) (d : Nat) : okE Z (d + 5) i_M_ruinOf e_M_ruinOf := mk_M_ruinOf fun o t M h1 hp => by
  obtain ⟨rfl, hB, hu, ht⟩ := hp
  have hka : ∀ {K : Option Value → Mem → Prop}, pcall e_M_keepsAside [.ref 174] M K = K none (mW M (rwF (mI M) 177 (cpU (mI M 177) (mI M 175) 454))) := pc_M_keepsAside (o := 174) (M := M) ⟨rfl, hB⟩
  refine Gm_run (C := C_M_ruinOf) (S := S_M_ruinOf) [some (.ref 174), some (.int (nI t)), none, none] 1000 kt_M_ruinOf (okE_cons (ok_M_keepsAside Z (d + 3)) (okE_cons (ok_M_of Z (d + 3)) (okE_cons (ok_M_hasFailed Z (d + 2)) (okE_cons (ok_M_tick Z d) (okE_cons (ok_M_returns Z (d + 3)) okE_nil))))) (ex_n rfl) ?_
  simp (maxSteps := 3000000) (disch := first | exact True.intro | assumption | omega) only [↓eq_self, Option.toList_some, Option.toList_none, List.nil_append, List.cons_append, wsum_0, wsum_1, wsum_2, wsum_3, wsum_4, lkill, ↓reduceIte, if_true, if_false, Bool.false_eq_true, and_true, true_and, and_self, or_self, true_or, or_true, not_true, not_false_iff, mR_stI, mN_stI, isO_stI, isA_stI, mI_stI, mR_mW, mN_mW, isO_mW, isA_mW, mI_mW, mW_mW, stI_mW, vp_0, nI_addL, nI_mulL, nI_subL, nI_ltL, nI_leL, nI_Llt, nI_Lle, nI_eqL, nI_Leq, nI_add, pk_mul, nI_ltI, nI_leI, nI_eq, vpi, nI_clamp, nI_toN, ↓g_M_ruinOf_0, ↓g_M_ruinOf_4, bk_oM hB, hka]
  have := lp_M_ruinOf Z d (M := M) (f := mI M) hB hu ht 200 0 rfl rfl
  rw [show tkN_ (mI M 175) 0 = mI M 175 from rfl, rwF_self] at this
  exact this
noncomputable def uruR (u : Nat → Int32) (t : Int32) : Int32 := if uV u t then (if u (8 + 12 * t.toNatClampNeg + 3) = nI 0 then nI 0 else ruQ u t.toNatClampNeg) else -1000000
def uruM (f : Nat → Nat → Int32) (t : Int32) : Nat → Nat → Int32 := if uV (f 175) t ∧ ¬ f 175 (8 + 12 * t.toNatClampNeg + 3) = nI 0 then asG f else f
def e_M_ruin : Ent := (fun av M => ∃ (o : Nat) (t : Int32), av = [.ref o, .int t] ∧ (o = 174 ∧ BkS M ∧ TkOk (mI M 175)), fun av M r_ M_ => ∀ (o : Nat) (t : Int32), av = [.ref o, .int t] → r_ = (some (.int (uruR (mI M 175) t))) ∧ M_ = (mW M (uruM (mI M) t)))
theorem pc_M_ruin {o : Nat} {t : Int32} {M : Mem} {K : Option Value → Mem → Prop} (hp : o = 174 ∧ BkS M ∧ TkOk (mI M 175)) : pcall e_M_ruin [.ref o, .int t] M K = K (some (.int (uruR (mI M 175) t))) (mW M (uruM (mI M) t)) := propext ⟨fun h => h.2 _ _ (fun o' t' e => by simp only [List.cons.injEq, Value.ref.injEq, Value.int.injEq, Value.long.injEq, and_true] at e; obtain ⟨q0, q1⟩ := e; obtain rfl := q0; obtain rfl := q1; exact ⟨rfl, rfl⟩), fun h => ⟨⟨o, t, rfl, hp⟩, fun r_ M_ q => by obtain ⟨rfl, rfl⟩ := q _ _ rfl; exact h⟩⟩
theorem mk_M_ruin {Z : Zt} {d : Nat} (h : ∀ (o : Nat) (t : Int32) (M : Mem), (o = 174 ∧ BkS M ∧ TkOk (mI M 175)) → Gm Z d s_M_ruin [.ref o, .int t] M (ex (some (.int (uruR (mI M 175) t))) (mW M (uruM (mI M) t)))) : okE Z d i_M_ruin e_M_ruin := by
  rintro av M ⟨o, t, rfl, hp⟩
  exact Gm.cons (h o t M  hp) (fun r_ M_ q o' t' e => by simp only [List.cons.injEq, Value.ref.injEq, Value.int.injEq, Value.long.injEq, and_true] at e; obtain ⟨q0, q1⟩ := e; obtain rfl := q0; obtain rfl := q1; exact q)
def C_M_ruin : List (Nat × Ent) := [(i_M_isTenant, e_M_isTenant), (i_M_of, e_M_of), (i_M_ruinOf, e_M_ruinOf)]
abbrev S_M_ruin : List Nat := []
def t_M_ruin_29 : List PI := (29, 9, 0, 0, 0, 0, []) :: []
def t_M_ruin_24 : List PI := (24, 1, 1, 0, 0, 0, []) :: (25, 1, 0, 1, 0, 0, []) :: (26, 11, 0, 5, 166, 0, [178, 2]) :: t_M_ruin_29
def t_M_ruin_20 : List PI := (20, 0, 0, 0, 0, 0, []) :: (21, 6, 0, 29, 0, 0, []) :: t_M_ruin_24
def t_M_ruin_17 : List PI := (17, 5, 1, 24, 0, 0, []) :: t_M_ruin_20
def t_M_ruin_11 : List PI := (11, 1, 1, 0, 0, 0, []) :: (12, 1, 0, 1, 0, 0, []) :: (13, 0, 0, 0, 0, 3, []) :: (14, 11, 0, 5, 105, 0, [84, 3]) :: t_M_ruin_17
def t_M_ruin_8 : List PI := (8, 0, 0, 37, 3, -1000000, []) :: (10, 9, 0, 0, 0, 0, []) :: t_M_ruin_11
def t_M_ruin_5 : List PI := (5, 5, 1, 11, 0, 0, []) :: t_M_ruin_8
def t_M_ruin_0 : List PI := (0, 1, 1, 0, 0, 0, []) :: (1, 1, 0, 1, 0, 0, []) :: (2, 11, 0, 5, 104, 0, [94, 2]) :: t_M_ruin_5
theorem kt_M_ruin : okP s_M_ruin t_M_ruin_0 := k_M_ruin
theorem g_M_ruin_0 {Z : Zt} {nF f : Nat} {Kx : Nat → Kt} {Q : Option Value → Mem → Prop} {M : Mem} {x1 : Nat} {x2 : Int32} : run Z nF C_M_ruin S_M_ruin Kx Q (f + 3) t_M_ruin_0 [some (.ref (x1)), some (.int (x2))] [] M = (((isO (M) (x1) 5) ∧ wsum [] ≤ 8) ∧ pcall e_M_isTenant [.ref (x1), .int (x2)] (M) (fun v M_ => run Z nF C_M_ruin S_M_ruin Kx Q f t_M_ruin_5 [some (.ref (x1)), some (.int (x2))] (v.toList ++ []) M_)) := rfl
theorem g_M_ruin_5 {Z : Zt} {nF f : Nat} {Kx : Nat → Kt} {Q : Option Value → Mem → Prop} {M : Mem} {x1 : Nat} {x2 : Int32} {x3 : Int32} : run Z nF C_M_ruin S_M_ruin Kx Q (f + 1) t_M_ruin_5 [some (.ref (x1)), some (.int (x2))] [.int (x3)] M = ((if (x3) = nI 0 then run Z nF C_M_ruin S_M_ruin Kx Q f t_M_ruin_8 [some (.ref (x1)), some (.int (x2))] [] (M) else run Z nF C_M_ruin S_M_ruin Kx Q f t_M_ruin_11 [some (.ref (x1)), some (.int (x2))] [] (M))) := rfl
theorem g_M_ruin_8 {Z : Zt} {nF f : Nat} {Kx : Nat → Kt} {Q : Option Value → Mem → Prop} {M : Mem} {x1 : Nat} {x2 : Int32} : run Z nF C_M_ruin S_M_ruin Kx Q (f + 2) t_M_ruin_8 [some (.ref (x1)), some (.int (x2))] [] M = (Q (some (.int ((-1000000 : Int32)))) (M)) := rfl
theorem g_M_ruin_11 {Z : Zt} {nF f : Nat} {Kx : Nat → Kt} {Q : Option Value → Mem → Prop} {M : Mem} {x1 : Nat} {x2 : Int32} : run Z nF C_M_ruin S_M_ruin Kx Q (f + 4) t_M_ruin_11 [some (.ref (x1)), some (.int (x2))] [] M = (((isO (M) (x1) 5) ∧ wsum [] ≤ 8) ∧ pcall e_M_of [.ref (x1), .int (x2), .int ((nI 3))] (M) (fun v M_ => run Z nF C_M_ruin S_M_ruin Kx Q f t_M_ruin_17 [some (.ref (x1)), some (.int (x2))] (v.toList ++ []) M_)) := rfl
theorem g_M_ruin_17 {Z : Zt} {nF f : Nat} {Kx : Nat → Kt} {Q : Option Value → Mem → Prop} {M : Mem} {x1 : Nat} {x2 : Int32} {x3 : Int32} : run Z nF C_M_ruin S_M_ruin Kx Q (f + 1) t_M_ruin_17 [some (.ref (x1)), some (.int (x2))] [.int (x3)] M = ((if (x3) = nI 0 then run Z nF C_M_ruin S_M_ruin Kx Q f t_M_ruin_20 [some (.ref (x1)), some (.int (x2))] [] (M) else run Z nF C_M_ruin S_M_ruin Kx Q f t_M_ruin_24 [some (.ref (x1)), some (.int (x2))] [] (M))) := rfl
theorem g_M_ruin_20 {Z : Zt} {nF f : Nat} {Kx : Nat → Kt} {Q : Option Value → Mem → Prop} {M : Mem} {x1 : Nat} {x2 : Int32} : run Z nF C_M_ruin S_M_ruin Kx Q (f + 2) t_M_ruin_20 [some (.ref (x1)), some (.int (x2))] [] M = (run Z nF C_M_ruin S_M_ruin Kx Q f t_M_ruin_29 [some (.ref (x1)), some (.int (x2))] [.int ((nI 0))] (M)) := rfl
theorem g_M_ruin_24 {Z : Zt} {nF f : Nat} {Kx : Nat → Kt} {Q : Option Value → Mem → Prop} {M : Mem} {x1 : Nat} {x2 : Int32} : run Z nF C_M_ruin S_M_ruin Kx Q (f + 3) t_M_ruin_24 [some (.ref (x1)), some (.int (x2))] [] M = (((isO (M) (x1) 5) ∧ wsum [] ≤ 8) ∧ pcall e_M_ruinOf [.ref (x1), .int (x2)] (M) (fun v M_ => run Z nF C_M_ruin S_M_ruin Kx Q f t_M_ruin_29 [some (.ref (x1)), some (.int (x2))] (v.toList ++ []) M_)) := rfl
theorem g_M_ruin_29 {Z : Zt} {nF f : Nat} {Kx : Nat → Kt} {Q : Option Value → Mem → Prop} {M : Mem} {x1 : Nat} {x2 : Int32} {x3 : Int32} : run Z nF C_M_ruin S_M_ruin Kx Q (f + 1) t_M_ruin_29 [some (.ref (x1)), some (.int (x2))] [.int (x3)] M = (Q (some (.int (x3))) (M)) := rfl
set_option maxRecDepth 100000 in
set_option maxHeartbeats 4000000 in
theorem ok_M_ruin (Z : Zt) (d : Nat) : okE Z (d + 6) i_M_ruin e_M_ruin := mk_M_ruin fun o t M hp => by
  obtain ⟨rfl, hB, hTk⟩ := hp
  have hU := hTk.1
  have hit : ∀ {K : Option Value → Mem → Prop}, pcall e_M_isTenant [.ref 174, .int t] M K = K (some (.int (bv (0 ≤ t ∧ t < nI (uT (mI M 175)))))) M := pc_M_isTenant (o := 174) (t := t) (M := M) ⟨rfl, hB, hU⟩
  refine Gm_run (C := C_M_ruin) (S := S_M_ruin) [some (.ref 174), some (.int t)] 1000 kt_M_ruin (okE_cons (ok_M_isTenant Z (d + 3)) (okE_cons (ok_M_of Z (d + 4)) (okE_cons (ok_M_ruinOf Z d) okE_nil))) (ex_n rfl) ?_
  by_cases hv : uV (mI M 175) t
  · rw [show uruR (mI M 175) t = _ from if_pos hv]
    obtain ⟨k, rfl, hk, hk6⟩ := uV_nI hU hv
    rw [nI_toN (show k < 2 ^ 31 by omega)]
    have hom : ∀ {w : Nat} {K : Option Value → Mem → Prop}, w < 12 → pcall e_M_of [.ref 174, .int (nI k), .int (nI w)] M K = K (some (.int (mI M 175 (8 + 12 * k + w)))) M := fun {w K} h => of_m hB hk6 h
    have hru : ∀ {K : Option Value → Mem → Prop}, pcall e_M_ruinOf [.ref 174, .int (nI k)] M K = K (some (.int (ruQ (mI M 175) k))) (mW M (asG (mI M))) := pc_M_ruinOf (o := 174) (t := k) (M := M) ⟨rfl, hB, hTk, hk6⟩ (by omega)
    have ek : (nI k).toNatClampNeg = k := nI_toN (by omega)
    by_cases h : mI M 175 (8 + 12 * k + 3) = nI 0
    · rw [if_pos h, show uruM (mI M) (nI k) = _ from if_neg (fun q => q.2 (by rw [ek]; exact h))]
      simp (maxSteps := 3000000) (disch := first | exact True.intro | assumption | omega) only [↓eq_self, Option.toList_some, Option.toList_none, List.nil_append, List.cons_append, wsum_0, wsum_1, wsum_2, wsum_3, wsum_4, lkill, ↓reduceIte, if_true, if_false, Bool.false_eq_true, and_true, true_and, and_self, or_self, true_or, or_true, not_true, not_false_iff, mR_stI, mN_stI, isO_stI, isA_stI, mI_stI, mR_mW, mN_mW, isO_mW, isA_mW, mI_mW, mW_mW, stI_mW, vp_0, nI_add, nI_ltI, nI_leI, nI_eq, vpi, nI_clamp, nI_toN, nI_geT, nI_lt4, pk_mul, pk_sub, bv_0n, bv_1n, ↓bv_01n, n01a, n01b, Nat.reduceSub, u2_rw, rw_rw, rw_at, rw_ne, rw_175_174, rw_176_174, rw_176_175, rw_177_174, rw_177_175, rw_177_176, rw_178_174, rw_178_175, rw_178_176, rw_178_177, rw_179_174, rw_179_175, rw_179_176, rw_179_177, rw_179_178, rw_180_174, rw_180_175, rw_180_176, rw_180_177, rw_180_178, rw_180_179, up_at, up_ne, Nat.zero_add, Nat.add_zero, bk_oM hB, bk_m0 hB, bk_m1 hB, bk_m2 hB, bk_m4 hB, bk_m6 hB, bk_m9 hB, md_a hB, md_p hB, md_s hB, md_t hB, md_r hB, md_v hB, ite_nt, ↓g_M_ruin_0, ↓g_M_ruin_5, ↓g_M_ruin_8, ↓g_M_ruin_11, ↓g_M_ruin_17, ↓g_M_ruin_20, ↓g_M_ruin_24, ↓g_M_ruin_29, hit, hv, hom, h]
      exact ⟨rfl, rfl⟩
    · rw [if_neg h, show uruM (mI M) (nI k) = _ from if_pos ⟨hv, by rw [ek]; exact h⟩]
      simp (maxSteps := 3000000) (disch := first | exact True.intro | assumption | omega) only [↓eq_self, Option.toList_some, Option.toList_none, List.nil_append, List.cons_append, wsum_0, wsum_1, wsum_2, wsum_3, wsum_4, lkill, ↓reduceIte, if_true, if_false, Bool.false_eq_true, and_true, true_and, and_self, or_self, true_or, or_true, not_true, not_false_iff, mR_stI, mN_stI, isO_stI, isA_stI, mI_stI, mR_mW, mN_mW, isO_mW, isA_mW, mI_mW, mW_mW, stI_mW, vp_0, nI_add, nI_ltI, nI_leI, nI_eq, vpi, nI_clamp, nI_toN, nI_geT, nI_lt4, pk_mul, pk_sub, bv_0n, bv_1n, ↓bv_01n, n01a, n01b, Nat.reduceSub, u2_rw, rw_rw, rw_at, rw_ne, rw_175_174, rw_176_174, rw_176_175, rw_177_174, rw_177_175, rw_177_176, rw_178_174, rw_178_175, rw_178_176, rw_178_177, rw_179_174, rw_179_175, rw_179_176, rw_179_177, rw_179_178, rw_180_174, rw_180_175, rw_180_176, rw_180_177, rw_180_178, rw_180_179, up_at, up_ne, Nat.zero_add, Nat.add_zero, bk_oM hB, bk_m0 hB, bk_m1 hB, bk_m2 hB, bk_m4 hB, bk_m6 hB, bk_m9 hB, md_a hB, md_p hB, md_s hB, md_t hB, md_r hB, md_v hB, ite_nt, ↓g_M_ruin_0, ↓g_M_ruin_5, ↓g_M_ruin_8, ↓g_M_ruin_11, ↓g_M_ruin_17, ↓g_M_ruin_20, ↓g_M_ruin_24, ↓g_M_ruin_29, hit, hv, hom, h, hru]
      exact ⟨rfl, rfl⟩
  · rw [show uruR (mI M 175) t = _ from if_neg hv, show uruM (mI M) t = _ from if_neg (fun q => hv q.1)]
    simp (maxSteps := 3000000) (disch := first | exact True.intro | assumption | omega) only [↓eq_self, Option.toList_some, Option.toList_none, List.nil_append, List.cons_append, wsum_0, wsum_1, wsum_2, wsum_3, wsum_4, lkill, ↓reduceIte, if_true, if_false, Bool.false_eq_true, and_true, true_and, and_self, or_self, true_or, or_true, not_true, not_false_iff, mR_stI, mN_stI, isO_stI, isA_stI, mI_stI, mR_mW, mN_mW, isO_mW, isA_mW, mI_mW, mW_mW, stI_mW, vp_0, nI_add, nI_ltI, nI_leI, nI_eq, vpi, nI_clamp, nI_toN, nI_geT, nI_lt4, pk_mul, pk_sub, bv_0n, bv_1n, ↓bv_01n, n01a, n01b, Nat.reduceSub, u2_rw, rw_rw, rw_at, rw_ne, rw_175_174, rw_176_174, rw_176_175, rw_177_174, rw_177_175, rw_177_176, rw_178_174, rw_178_175, rw_178_176, rw_178_177, rw_179_174, rw_179_175, rw_179_176, rw_179_177, rw_179_178, rw_180_174, rw_180_175, rw_180_176, rw_180_177, rw_180_178, rw_180_179, up_at, up_ne, Nat.zero_add, Nat.add_zero, bk_oM hB, bk_m0 hB, bk_m1 hB, bk_m2 hB, bk_m4 hB, bk_m6 hB, bk_m9 hB, md_a hB, md_p hB, md_s hB, md_t hB, md_r hB, md_v hB, ite_nt, ↓g_M_ruin_0, ↓g_M_ruin_5, ↓g_M_ruin_8, hit, hv]
    exact ⟨rfl, rfl⟩
