/-! foretelling -/
theorem bkC_o {f : Nat → Nat → Int32} {b t x y : Nat} (h : x < b ∨ b + 14 < x) : bkC f b t x y = f x y := by
  unfold bkC bkB bkA
  rw [u2_ne (by omega), u2_ne (by omega), u2_ne (by omega), u2_ne (by omega), u2_ne (by omega), raF_ne (by omega) (by omega), raF_ne (by omega) (by omega), bkP_o (by omega) (by omega) (by omega) (by omega) (by omega)]
theorem bkF_o {f : Nat → Nat → Int32} {b t x y : Nat} (h : x < b ∨ b + 14 < x) : bkF f b t x y = f x y := by
  unfold bkF
  split
  · exact bkC_o h
  · rfl
theorem tk2_o {f : Nat → Nat → Int32} {b x y : Nat} (h : x < b ∨ b + 14 < x) : ∀ t, tk2 f b t x y = f x y
  | 0 => rfl
  | t + 1 => by
    unfold tk2 tk2S
    split
    · rw [bkF_o h]
      exact tk2_o h t
    · exact tk2_o h t
theorem tkF_o {f : Nat → Nat → Int32} {b x y : Nat} (h : x < b ∨ b + 14 < x) : tkF f b x y = f x y := by
  unfold tkF tkN tkM tk0
  rw [rdF_o (by omega) (by omega), tk2_o h, tk1_o (by omega), u2_ne (by omega)]
theorem tkI_o {f : Nat → Nat → Int32} {b x y : Nat} (h : x < b ∨ b + 14 < x) : ∀ n, tkI f b n x y = f x y
  | 0 => rfl
  | n + 1 => by
    unfold tkI
    rw [tkF_o h, tkI_o h n]
theorem isB_cg {f g : Nat → Nat → Int32} {b : Nat} {t : Int32} (h1 : g b 12 = f b 12) (h2 : ∀ y, g (b + 14) y = f (b + 14) y) : isB g b t = isB f b t := by
  have e : lnB g b = lnB f b := lnB_congr h1
  have e2 : g (b + 14) = f (b + 14) := funext h2
  unfold isB plF
  rw [e, e2]
theorem fcnt_s (p : Nat → Prop) [DecidablePred p] (n : Nat) : fcnt p (n + 1) = if p n then fcnt p n + 1 else fcnt p n := rfl
def nrG (f : Nat → Nat → Int32) (v : Int32) (n : Nat) : Nat → Nat → Int32 := fun x y => if x = 173 ∧ y < n ∧ f 173 y = -1000003 ∧ isB f 35 (nI y) then v else f x y
abbrev nrP (f : Nat → Nat → Int32) (t : Nat) : Prop := f 173 t = -1000003 ∧ isB f 35 (nI t)
def nrC (f : Nat → Nat → Int32) (n : Nat) : Nat := fcnt (nrP f) n
theorem nrG_0 (f : Nat → Nat → Int32) (v : Int32) : nrG f v 0 = f := by
  funext x y
  simp only [nrG]
  rw [if_neg (fun q => absurd q.2.1 (Nat.not_lt_zero _))]
theorem nrG_o {f : Nat → Nat → Int32} {v : Int32} {n x y : Nat} (h : x ≠ 173) : nrG f v n x y = f x y := by
  unfold nrG
  rw [if_neg (fun q => h q.1)]
theorem nrG_i {f : Nat → Nat → Int32} {v : Int32} {n : Nat} : nrG f v n 173 n = f 173 n := by
  unfold nrG
  rw [if_neg (fun q => absurd q.2.1 (Nat.lt_irrefl _))]
theorem nrG_y {f : Nat → Nat → Int32} {v : Int32} {n : Nat} (h : nrP f n) : u2 (nrG f v n) 173 n v = nrG f v (n + 1) := by
  funext x y
  simp only [nrG, u2_at]
  by_cases h1 : x = 173 ∧ y = n
  · rw [if_pos h1, if_pos ⟨h1.1, by omega, by rw [h1.2]; exact h.1, by rw [h1.2]; exact h.2⟩]
  · rw [if_neg h1]
    by_cases h3 : x = 173 ∧ y < n ∧ f 173 y = -1000003 ∧ isB f 35 (nI y)
    · rw [if_pos h3, if_pos ⟨h3.1, by omega, h3.2.2⟩]
    · rw [if_neg h3, if_neg (fun q => h3 ⟨q.1, by omega, q.2.2⟩)]
theorem nrG_n {f : Nat → Nat → Int32} {v : Int32} {n : Nat} (h : ¬ nrP f n) : nrG f v n = nrG f v (n + 1) := by
  funext x y
  simp only [nrG]
  by_cases h3 : x = 173 ∧ y < n ∧ f 173 y = -1000003 ∧ isB f 35 (nI y)
  · rw [if_pos h3, if_pos ⟨h3.1, by omega, h3.2.2⟩]
  · rw [if_neg h3]
    by_cases h4 : y = n
    · rw [if_neg (fun q => h (by rw [h4] at q; exact q.2.2))]
    · rw [if_neg (fun q => h3 ⟨q.1, by omega, q.2.2⟩)]
def TrO (M : Mem) : Prop := BkS M ∧ LedD (mI M) 35
def e_B_noteRuins : Ent := (fun av M => ∃ (o : Nat) (v : Int32), av = [.ref o, .int v] ∧ (o = 16 ∧ TrO M), fun av M r_ M_ => ∀ (o : Nat) (v : Int32), av = [.ref o, .int v] → r_ = (some (.int (nI (nrC (mI M) 6)))) ∧ M_ = (mW M (nrG (mI M) v 6)))
theorem pc_B_noteRuins {o : Nat} {v : Int32} {M : Mem} {K : Option Value → Mem → Prop} (hp : o = 16 ∧ TrO M) : pcall e_B_noteRuins [.ref o, .int v] M K = K (some (.int (nI (nrC (mI M) 6)))) (mW M (nrG (mI M) v 6)) := propext ⟨fun h => h.2 _ _ (fun o' v' e => by simp only [List.cons.injEq, Value.ref.injEq, Value.int.injEq, Value.long.injEq, and_true] at e; obtain ⟨q0, q1⟩ := e; obtain rfl := q0; obtain rfl := q1; exact ⟨rfl, rfl⟩), fun h => ⟨⟨o, v, rfl, hp⟩, fun r_ M_ q => by obtain ⟨rfl, rfl⟩ := q _ _ rfl; exact h⟩⟩
theorem mk_B_noteRuins {Z : Zt} {d : Nat} (h : ∀ (o : Nat) (v : Int32) (M : Mem), (o = 16 ∧ TrO M) → Gm Z d s_B_noteRuins [.ref o, .int v] M (ex (some (.int (nI (nrC (mI M) 6)))) (mW M (nrG (mI M) v 6)))) : okE Z d i_B_noteRuins e_B_noteRuins := by
  rintro av M ⟨o, v, rfl, hp⟩
  exact Gm.cons (h o v M  hp) (fun r_ M_ q o' v' e => by simp only [List.cons.injEq, Value.ref.injEq, Value.int.injEq, Value.long.injEq, and_true] at e; obtain ⟨q0, q1⟩ := e; obtain rfl := q0; obtain rfl := q1; exact q)
def C_B_noteRuins : List (Nat × Ent) := [(i_L_isBankrupt, e_L_isBankrupt)]
abbrev S_B_noteRuins : List Nat := [4]
def t_B_noteRuins_48 : List PI := (48, 1, 0, 2, 0, 0, []) :: (49, 9, 0, 0, 0, 0, []) :: []
def t_B_noteRuins_42 : List PI := (42, 1, 6, 3, 0, 1, []) :: (45, 6, 0, 4, 0, 0, []) :: t_B_noteRuins_48
def t_B_noteRuins_32 : List PI := (32, 1, 1, 0, 0, 0, []) :: (33, 8, 1, 4, 5, 0, [37]) :: (36, 1, 0, 3, 0, 0, []) :: (37, 1, 0, 1, 0, 0, []) :: (38, 10, 4, 0, 0, 0, []) :: (39, 1, 6, 2, 0, 1, []) :: t_B_noteRuins_42
def t_B_noteRuins_29 : List PI := (29, 5, 0, 42, 0, 0, []) :: t_B_noteRuins_32
def t_B_noteRuins_21 : List PI := (21, 1, 1, 0, 0, 0, []) :: (22, 8, 1, 4, 2, 0, [23]) :: (25, 1, 0, 3, 0, 0, []) :: (26, 11, 0, 2, 37, 0, [100, 2]) :: t_B_noteRuins_29
def t_B_noteRuins_10 : List PI := (10, 1, 1, 0, 0, 0, []) :: (11, 8, 1, 4, 5, 0, [37]) :: (14, 1, 0, 3, 0, 0, []) :: (15, 8, 4, 0, 0, 0, []) :: (16, 0, 0, 103, 3, -1000003, []) :: (18, 4, 1, 42, 0, 0, []) :: t_B_noteRuins_21
def t_B_noteRuins_4 : List PI := (4, 1, 0, 3, 0, 0, []) :: (5, 0, 0, 0, 1, 6, []) :: (7, 4, 3, 48, 0, 0, []) :: t_B_noteRuins_10
def t_B_noteRuins_0 : List PI := (0, 0, 0, 0, 0, 0, []) :: (1, 1, 3, 2, 0, 0, []) :: (2, 0, 0, 0, 0, 0, []) :: (3, 1, 3, 3, 0, 0, []) :: t_B_noteRuins_4
theorem kt_B_noteRuins : okP s_B_noteRuins t_B_noteRuins_0 := k_B_noteRuins
theorem g_B_noteRuins_0 {Z : Zt} {nF f : Nat} {Kx : Nat → Kt} {Q : Option Value → Mem → Prop} {M : Mem} {x1 : Nat} {x2 : Int32} : run Z nF C_B_noteRuins S_B_noteRuins Kx Q (f + 4) t_B_noteRuins_0 [some (.ref (x1)), some (.int (x2)), none, none] [] M = (Kx 4 [some (.ref (x1)), some (.int (x2)), some (.int ((0 : Int32))), some (.int ((0 : Int32)))] [] (M)) := rfl
theorem g_B_noteRuins_4 {Z : Zt} {nF f : Nat} {Kx : Nat → Kt} {Q : Option Value → Mem → Prop} {M : Mem} {x1 : Nat} {x2 : Int32} {x3 : Int32} {x4 : Int32} : run Z nF C_B_noteRuins S_B_noteRuins Kx Q (f + 3) t_B_noteRuins_4 [some (.ref (x1)), some (.int (x2)), some (.int (x3)), some (.int (x4))] [] M = ((if ((6 : Int32)) ≤ (x4) then run Z nF C_B_noteRuins S_B_noteRuins Kx Q f t_B_noteRuins_48 [some (.ref (x1)), some (.int (x2)), some (.int (x3)), some (.int (x4))] [] (M) else run Z nF C_B_noteRuins S_B_noteRuins Kx Q f t_B_noteRuins_10 [some (.ref (x1)), some (.int (x2)), some (.int (x3)), some (.int (x4))] [] (M))) := rfl
theorem g_B_noteRuins_10 {Z : Zt} {nF f : Nat} {Kx : Nat → Kt} {Q : Option Value → Mem → Prop} {M : Mem} {x1 : Nat} {x2 : Int32} {x3 : Int32} {x4 : Int32} : run Z nF C_B_noteRuins S_B_noteRuins Kx Q (f + 6) t_B_noteRuins_10 [some (.ref (x1)), some (.int (x2)), some (.int (x3)), some (.int (x4))] [] M = (isO (M) (x1) 4 ∧ isA (M) (mR (M) (x1) 5) (x4) ∧ (if (mI (M) (mR (M) (x1) 5) (Int32.toNatClampNeg (x4))) = ((-1000003 : Int32)) then run Z nF C_B_noteRuins S_B_noteRuins Kx Q f t_B_noteRuins_21 [some (.ref (x1)), some (.int (x2)), some (.int (x3)), some (.int (x4))] [] (M) else run Z nF C_B_noteRuins S_B_noteRuins Kx Q f t_B_noteRuins_42 [some (.ref (x1)), some (.int (x2)), some (.int (x3)), some (.int (x4))] [] (M))) := rfl
theorem g_B_noteRuins_21 {Z : Zt} {nF f : Nat} {Kx : Nat → Kt} {Q : Option Value → Mem → Prop} {M : Mem} {x1 : Nat} {x2 : Int32} {x3 : Int32} {x4 : Int32} : run Z nF C_B_noteRuins S_B_noteRuins Kx Q (f + 4) t_B_noteRuins_21 [some (.ref (x1)), some (.int (x2)), some (.int (x3)), some (.int (x4))] [] M = (isO (M) (x1) 4 ∧ ((isO (M) (mR (M) (x1) 2) 2) ∧ wsum [] ≤ 8) ∧ pcall e_L_isBankrupt [.ref (mR (M) (x1) 2), .int (x4)] (M) (fun v M_ => run Z nF C_B_noteRuins S_B_noteRuins Kx Q f t_B_noteRuins_29 [some (.ref (x1)), some (.int (x2)), some (.int (x3)), some (.int (x4))] (v.toList ++ []) M_)) := rfl
theorem g_B_noteRuins_29 {Z : Zt} {nF f : Nat} {Kx : Nat → Kt} {Q : Option Value → Mem → Prop} {M : Mem} {x1 : Nat} {x2 : Int32} {x3 : Int32} {x4 : Int32} {x5 : Int32} : run Z nF C_B_noteRuins S_B_noteRuins Kx Q (f + 1) t_B_noteRuins_29 [some (.ref (x1)), some (.int (x2)), some (.int (x3)), some (.int (x4))] [.int (x5)] M = ((if (x5) = 0 then run Z nF C_B_noteRuins S_B_noteRuins Kx Q f t_B_noteRuins_42 [some (.ref (x1)), some (.int (x2)), some (.int (x3)), some (.int (x4))] [] (M) else run Z nF C_B_noteRuins S_B_noteRuins Kx Q f t_B_noteRuins_32 [some (.ref (x1)), some (.int (x2)), some (.int (x3)), some (.int (x4))] [] (M))) := rfl
theorem g_B_noteRuins_32 {Z : Zt} {nF f : Nat} {Kx : Nat → Kt} {Q : Option Value → Mem → Prop} {M : Mem} {x1 : Nat} {x2 : Int32} {x3 : Int32} {x4 : Int32} : run Z nF C_B_noteRuins S_B_noteRuins Kx Q (f + 6) t_B_noteRuins_32 [some (.ref (x1)), some (.int (x2)), some (.int (x3)), some (.int (x4))] [] M = (isO (M) (x1) 4 ∧ isA (M) (mR (M) (x1) 5) (x4) ∧ run Z nF C_B_noteRuins S_B_noteRuins Kx Q f t_B_noteRuins_42 [some (.ref (x1)), some (.int (x2)), some (.int (x3 + (1 : Int32))), some (.int (x4))] [] (stI (M) (mR (M) (x1) 5) (Int32.toNatClampNeg (x4)) (x2))) := rfl
theorem g_B_noteRuins_42 {Z : Zt} {nF f : Nat} {Kx : Nat → Kt} {Q : Option Value → Mem → Prop} {M : Mem} {x1 : Nat} {x2 : Int32} {x3 : Int32} {x4 : Int32} : run Z nF C_B_noteRuins S_B_noteRuins Kx Q (f + 2) t_B_noteRuins_42 [some (.ref (x1)), some (.int (x2)), some (.int (x3)), some (.int (x4))] [] M = (Kx 4 [some (.ref (x1)), some (.int (x2)), some (.int (x3)), some (.int (x4 + (1 : Int32)))] [] (M)) := rfl
theorem g_B_noteRuins_48 {Z : Zt} {nF f : Nat} {Kx : Nat → Kt} {Q : Option Value → Mem → Prop} {M : Mem} {x1 : Nat} {x2 : Int32} {x3 : Int32} {x4 : Int32} : run Z nF C_B_noteRuins S_B_noteRuins Kx Q (f + 2) t_B_noteRuins_48 [some (.ref (x1)), some (.int (x2)), some (.int (x3)), some (.int (x4))] [] M = (Q (some (.int (x3))) (M)) := rfl
set_option maxRecDepth 100000 in
set_option maxHeartbeats 4000000 in
theorem lp_B_noteRuins (Z : Zt) (d : Nat) {M : Mem} {v : Int32} (hW : TrO M) : ∀ n i, i + n = 6 → X Z (d + 3) s_B_noteRuins (mN M) (mN M) (ex (some (.int (nI (nrC (mI M) 6)))) (mW M (nrG (mI M) v 6))) 4 [some (.ref 16), some (.int v), some (.int (nI (nrC (mI M) i))), some (.int (nI i))] [] (mW M (nrG (mI M) v i)) := by
  obtain ⟨hB, hD2⟩ := hW
  have hL2 := bk_tri hB
  intro n
  induction n with
  | zero =>
    intro i hi
    obtain rfl : i = 6 := by omega
    refine X_runT (C := C_B_noteRuins) (S := S_B_noteRuins) (T := t_B_noteRuins_4) 1000 kt_B_noteRuins (okE_cons (ok_L_isBankrupt Z d) okE_nil) ?_
    simp (maxSteps := 3000000) (disch := first | exact True.intro | assumption | omega) only [↓eq_self, Option.toList_some, Option.toList_none, List.nil_append, List.cons_append, wsum_0, wsum_1, wsum_2, wsum_3, wsum_4, lkill, ↓reduceIte, if_true, if_false, Bool.false_eq_true, and_true, true_and, and_self, or_self, true_or, or_true, not_true, not_false_iff, mR_stI, mN_stI, isO_stI, isA_stI, mI_stI, mR_mW, mN_mW, isO_mW, isA_mW, mI_mW, mW_mW, stI_mW, vp_0, nI_addL, nI_mulL, nI_subL, nI_ltL, nI_leL, nI_Llt, nI_Lle, nI_eqL, nI_Leq, nI_add, pk_mul, nI_ltI, nI_leI, nI_eq, vpi, nI_clamp, nI_toN, bk_oB hB, bk_oV hB, bk_oH hB, bk_b0 hB, bk_b1 hB, bk_b2 hB, bk_b3 hB, bk_b4 hB, bk_b5 hB, bk_v0 hB, bk_v1 hB, bk_h0 hB, nw_o hB, nw_og hB, nw_od hB, nw_ot hB, nw_r9 hB, nw_r10 hB, nw_r11 hB, nw_r0 hB, nw_r1 hB, nw_r2 hB, nw_r3 hB, nw_r4 hB, nw_r5 hB, nw_r6 hB, nw_r7 hB, nw_r8 hB, nw_a1 hB, nw_a2 hB, nw_a3 hB, nw_a4 hB, nw_a5 hB, nw_a6 hB, nw_a7 hB, nw_a8 hB, nw_a9 hB, nw_a14 hB, nw_as hB, nw_at hB, vR, vT, Nat.not_lt_zero, bv_Tr, bv_Fa, one_n0, eq_self, Nat.zero_le, and_true, true_and, and_false, false_and, not_true, not_false_iff, or_true, true_or, or_false, false_or, mN_mRW, ex_iff, ↓g_B_noteRuins_0, ↓g_B_noteRuins_4, ↓g_B_noteRuins_10, ↓g_B_noteRuins_21, ↓g_B_noteRuins_29, ↓g_B_noteRuins_32, ↓g_B_noteRuins_42, ↓g_B_noteRuins_48, Nat.le_refl]
  | succ n ih =>
    intro i hi
    have h6 : ¬ 6 ≤ i := by omega
    have hi6 : i < 6 := by omega
    have hle : nrC (mI M) i ≤ i := fcnt_le _ i
    have hD3 : LedD (nrG (mI M) v i) 35 := LedD_cg hD2 (fun y => nrG_o (by omega)) (fun y => nrG_o (by omega)) (fun y => nrG_o (by omega))
    have hib : ∀ {K : Option Value → Mem → Prop}, pcall e_L_isBankrupt [.ref 35, .int (nI i)] (mW M (nrG (mI M) v i)) K = K (some (.int (bv (isB (mI M) 35 (nI i))))) (mW M (nrG (mI M) v i)) := by
      intro K
      rw [pc_L_isBankrupt (b := 35) (t := nI i) (M := mW M (nrG (mI M) v i)) ⟨hL2, hD3⟩, show isB (mI (mW M (nrG (mI M) v i))) 35 (nI i) = isB (mI M) 35 (nI i) from isB_cg (f := mI M) (g := nrG (mI M) v i) (b := 35) (t := nI i) (nrG_o (by omega)) (fun y => nrG_o (by omega))]
    have := ih (i + 1) (by omega)
    have ec : nrC (mI M) (i + 1) = if nrP (mI M) i then nrC (mI M) i + 1 else nrC (mI M) i := fcnt_s _ i
    refine X_runT (C := C_B_noteRuins) (S := S_B_noteRuins) (T := t_B_noteRuins_4) 1000 kt_B_noteRuins (okE_cons (ok_L_isBankrupt Z d) okE_nil) ?_
    by_cases h1 : mI M 173 i = -1000003
    · by_cases h2 : isB (mI M) 35 (nI i)
      · rw [ec, if_pos ⟨h1, h2⟩] at this
        simp (maxSteps := 3000000) (disch := first | exact True.intro | assumption | omega) only [↓eq_self, Option.toList_some, Option.toList_none, List.nil_append, List.cons_append, wsum_0, wsum_1, wsum_2, wsum_3, wsum_4, lkill, ↓reduceIte, if_true, if_false, Bool.false_eq_true, and_true, true_and, and_self, or_self, true_or, or_true, not_true, not_false_iff, mR_stI, mN_stI, isO_stI, isA_stI, mI_stI, mR_mW, mN_mW, isO_mW, isA_mW, mI_mW, mW_mW, stI_mW, vp_0, nI_addL, nI_mulL, nI_subL, nI_ltL, nI_leL, nI_Llt, nI_Lle, nI_eqL, nI_Leq, nI_add, pk_mul, nI_ltI, nI_leI, nI_eq, vpi, nI_clamp, nI_toN, bk_oB hB, bk_oV hB, bk_oH hB, bk_b0 hB, bk_b1 hB, bk_b2 hB, bk_b3 hB, bk_b4 hB, bk_b5 hB, bk_v0 hB, bk_v1 hB, bk_h0 hB, nw_o hB, nw_og hB, nw_od hB, nw_ot hB, nw_r9 hB, nw_r10 hB, nw_r11 hB, nw_r0 hB, nw_r1 hB, nw_r2 hB, nw_r3 hB, nw_r4 hB, nw_r5 hB, nw_r6 hB, nw_r7 hB, nw_r8 hB, nw_a1 hB, nw_a2 hB, nw_a3 hB, nw_a4 hB, nw_a5 hB, nw_a6 hB, nw_a7 hB, nw_a8 hB, nw_a9 hB, nw_a14 hB, nw_as hB, nw_at hB, vR, vT, Nat.not_lt_zero, bv_Tr, bv_Fa, one_n0, eq_self, Nat.zero_le, and_true, true_and, and_false, false_and, not_true, not_false_iff, or_true, true_or, or_false, false_or, mN_mRW, ex_iff, ↓g_B_noteRuins_0, ↓g_B_noteRuins_4, ↓g_B_noteRuins_10, ↓g_B_noteRuins_21, ↓g_B_noteRuins_29, ↓g_B_noteRuins_32, ↓g_B_noteRuins_42, ↓g_B_noteRuins_48, bk_b2 hB, nrG_i, h6, hi6, h1, hib, h2, nrG_y ⟨h1, h2⟩]
        exact this
      · rw [ec, if_neg (fun q => h2 q.2), ← nrG_n (fun q => h2 q.2)] at this
        simp (maxSteps := 3000000) (disch := first | exact True.intro | assumption | omega) only [↓eq_self, Option.toList_some, Option.toList_none, List.nil_append, List.cons_append, wsum_0, wsum_1, wsum_2, wsum_3, wsum_4, lkill, ↓reduceIte, if_true, if_false, Bool.false_eq_true, and_true, true_and, and_self, or_self, true_or, or_true, not_true, not_false_iff, mR_stI, mN_stI, isO_stI, isA_stI, mI_stI, mR_mW, mN_mW, isO_mW, isA_mW, mI_mW, mW_mW, stI_mW, vp_0, nI_addL, nI_mulL, nI_subL, nI_ltL, nI_leL, nI_Llt, nI_Lle, nI_eqL, nI_Leq, nI_add, pk_mul, nI_ltI, nI_leI, nI_eq, vpi, nI_clamp, nI_toN, bk_oB hB, bk_oV hB, bk_oH hB, bk_b0 hB, bk_b1 hB, bk_b2 hB, bk_b3 hB, bk_b4 hB, bk_b5 hB, bk_v0 hB, bk_v1 hB, bk_h0 hB, nw_o hB, nw_og hB, nw_od hB, nw_ot hB, nw_r9 hB, nw_r10 hB, nw_r11 hB, nw_r0 hB, nw_r1 hB, nw_r2 hB, nw_r3 hB, nw_r4 hB, nw_r5 hB, nw_r6 hB, nw_r7 hB, nw_r8 hB, nw_a1 hB, nw_a2 hB, nw_a3 hB, nw_a4 hB, nw_a5 hB, nw_a6 hB, nw_a7 hB, nw_a8 hB, nw_a9 hB, nw_a14 hB, nw_as hB, nw_at hB, vR, vT, Nat.not_lt_zero, bv_Tr, bv_Fa, one_n0, eq_self, Nat.zero_le, and_true, true_and, and_false, false_and, not_true, not_false_iff, or_true, true_or, or_false, false_or, mN_mRW, ex_iff, ↓g_B_noteRuins_0, ↓g_B_noteRuins_4, ↓g_B_noteRuins_10, ↓g_B_noteRuins_21, ↓g_B_noteRuins_29, ↓g_B_noteRuins_32, ↓g_B_noteRuins_42, ↓g_B_noteRuins_48, bk_b2 hB, nrG_i, h6, hi6, h1, hib, h2]
        exact this
    · rw [ec, if_neg (fun q => h1 q.1), ← nrG_n (fun q => h1 q.1)] at this
      simp (maxSteps := 3000000) (disch := first | exact True.intro | assumption | omega) only [↓eq_self, Option.toList_some, Option.toList_none, List.nil_append, List.cons_append, wsum_0, wsum_1, wsum_2, wsum_3, wsum_4, lkill, ↓reduceIte, if_true, if_false, Bool.false_eq_true, and_true, true_and, and_self, or_self, true_or, or_true, not_true, not_false_iff, mR_stI, mN_stI, isO_stI, isA_stI, mI_stI, mR_mW, mN_mW, isO_mW, isA_mW, mI_mW, mW_mW, stI_mW, vp_0, nI_addL, nI_mulL, nI_subL, nI_ltL, nI_leL, nI_Llt, nI_Lle, nI_eqL, nI_Leq, nI_add, pk_mul, nI_ltI, nI_leI, nI_eq, vpi, nI_clamp, nI_toN, bk_oB hB, bk_oV hB, bk_oH hB, bk_b0 hB, bk_b1 hB, bk_b2 hB, bk_b3 hB, bk_b4 hB, bk_b5 hB, bk_v0 hB, bk_v1 hB, bk_h0 hB, nw_o hB, nw_og hB, nw_od hB, nw_ot hB, nw_r9 hB, nw_r10 hB, nw_r11 hB, nw_r0 hB, nw_r1 hB, nw_r2 hB, nw_r3 hB, nw_r4 hB, nw_r5 hB, nw_r6 hB, nw_r7 hB, nw_r8 hB, nw_a1 hB, nw_a2 hB, nw_a3 hB, nw_a4 hB, nw_a5 hB, nw_a6 hB, nw_a7 hB, nw_a8 hB, nw_a9 hB, nw_a14 hB, nw_as hB, nw_at hB, vR, vT, Nat.not_lt_zero, bv_Tr, bv_Fa, one_n0, eq_self, Nat.zero_le, and_true, true_and, and_false, false_and, not_true, not_false_iff, or_true, true_or, or_false, false_or, mN_mRW, ex_iff, ↓g_B_noteRuins_0, ↓g_B_noteRuins_4, ↓g_B_noteRuins_10, ↓g_B_noteRuins_21, ↓g_B_noteRuins_29, ↓g_B_noteRuins_32, ↓g_B_noteRuins_42, ↓g_B_noteRuins_48, nrG_i, h6, hi6, h1]
      exact this
set_option maxRecDepth 100000 in
set_option maxHeartbeats 4000000 in
theorem ok_B_noteRuins (Z : Zt) (d : Nat) : okE Z (d + 3) i_B_noteRuins e_B_noteRuins := mk_B_noteRuins fun o v M hp => by
  obtain ⟨rfl, hW⟩ := hp
  refine Gm_run (C := C_B_noteRuins) (S := S_B_noteRuins) [some (.ref 16), some (.int v), none, none] 1000 kt_B_noteRuins (okE_cons (ok_L_isBankrupt Z d) okE_nil) (ex_n rfl) ?_
  simp (maxSteps := 3000000) (disch := first | exact True.intro | assumption | omega) only [↓eq_self, Option.toList_some, Option.toList_none, List.nil_append, List.cons_append, wsum_0, wsum_1, wsum_2, wsum_3, wsum_4, lkill, ↓reduceIte, if_true, if_false, Bool.false_eq_true, and_true, true_and, and_self, or_self, true_or, or_true, not_true, not_false_iff, mR_stI, mN_stI, isO_stI, isA_stI, mI_stI, mR_mW, mN_mW, isO_mW, isA_mW, mI_mW, mW_mW, stI_mW, vp_0, nI_addL, nI_mulL, nI_subL, nI_ltL, nI_leL, nI_Llt, nI_Lle, nI_eqL, nI_Leq, nI_add, pk_mul, nI_ltI, nI_leI, nI_eq, vpi, nI_clamp, nI_toN, vR, vT, Nat.not_lt_zero, bv_Tr, bv_Fa, one_n0, eq_self, Nat.zero_le, and_true, true_and, and_false, false_and, not_true, not_false_iff, or_true, true_or, or_false, false_or, mN_mRW, ex_iff, ↓g_B_noteRuins_0, ↓g_B_noteRuins_4, ↓g_B_noteRuins_10, ↓g_B_noteRuins_21, ↓g_B_noteRuins_29, ↓g_B_noteRuins_32, ↓g_B_noteRuins_42, ↓g_B_noteRuins_48]
  have := lp_B_noteRuins Z d (v := v) hW 6 0 rfl
  rw [nrG_0] at this
  exact this
/-- the first loop -/
def fr1 (f : Nat → Nat → Int32) (n : Nat) : Nat → Nat → Int32 := fun x y => if x = 173 ∧ y < n then (if isB f 35 (nI y) then 0 else -1000003) else f x y
abbrev frP (f : Nat → Nat → Int32) (t : Nat) : Prop := ¬ isB f 35 (nI t) ∧ t < lnT f 35
def frC (f : Nat → Nat → Int32) (n : Nat) : Nat := fcnt (frP f) n
theorem fr1_0 (f : Nat → Nat → Int32) : fr1 f 0 = f := by
  funext x y
  simp only [fr1]
  rw [if_neg (fun q => absurd q.2 (Nat.not_lt_zero _))]
theorem fr1_o {f : Nat → Nat → Int32} {n x y : Nat} (h : x ≠ 173) : fr1 f n x y = f x y := by
  unfold fr1
  rw [if_neg (fun q => h q.1)]
theorem fr1_s {f : Nat → Nat → Int32} {n : Nat} {v : Int32} (h : v = if isB f 35 (nI n) then 0 else -1000003) : u2 (fr1 f n) 173 n v = fr1 f (n + 1) := by
  funext x y
  simp only [fr1, u2_at]
  by_cases h1 : x = 173 ∧ y = n
  · rw [if_pos h1, if_pos (show x = 173 ∧ y < n + 1 from ⟨h1.1, by omega⟩), h1.2, h]
  · rw [if_neg h1]
    by_cases h3 : x = 173 ∧ y < n
    · rw [if_pos h3, if_pos (show x = 173 ∧ y < n + 1 from ⟨h3.1, by omega⟩)]
    · rw [if_neg h3, if_neg (fun q => h3 ⟨q.1, by omega⟩)]
def fr2 : Nat → (Nat → Nat → Int32) → Int32 → Nat → Nat → Nat → Int32
  | 0, f, _, _ => f
  | n + 1, f, u, k => if 0 < u then fr2 n (nrG (tkF f 35) (nI k) 6) (u - nI (nrC (tkF f 35) 6)) (k + 1) else f
noncomputable def frF (f : Nat → Nat → Int32) : Nat → Nat → Int32 := fr2 200 (fr1 (cfF f 35 20) 6) (nI (frC (cfF f 35 20) 6)) 1
theorem fr2_o {x y : Nat} (h : x < 35 ∨ 49 < x) (h2 : x ≠ 173) : ∀ n f u k, fr2 n f u k x y = f x y
  | 0, f, u, k => rfl
  | n + 1, f, u, k => by
    unfold fr2
    split
    · rw [fr2_o h h2 n, nrG_o h2, tkF_o (by omega)]
    · rfl
theorem fr2_D : ∀ n f u k, LedD f 35 → LedD (fr2 n f u k) 35
  | 0, f, u, k, h => h
  | n + 1, f, u, k, h => by
    unfold fr2
    split
    · exact fr2_D n _ _ _ (LedD_cg (tkF_D h) (fun y => nrG_o (by omega)) (fun y => nrG_o (by omega)) (fun y => nrG_o (by omega)))
    · exact h
theorem fr1_D {f : Nat → Nat → Int32} {n : Nat} (h : LedD f 35) : LedD (fr1 f n) 35 := LedD_cg h (fun y => fr1_o (by omega)) (fun y => fr1_o (by omega)) (fun y => fr1_o (by omega))
theorem frF_o {f : Nat → Nat → Int32} {x y : Nat} (h : x < 35 ∨ 49 < x) (h2 : x ≠ 173) : frF f x y = f x y := by
  unfold frF
  rw [fr2_o h h2, fr1_o h2, cfF_out (by omega)]
theorem frF_D {f : Nat → Nat → Int32} (h : LedD f 20) : LedD (frF f) 35 := fr2_D _ _ _ _ (fr1_D (cfF_D h))
theorem WB_fr {M : Mem} (h : WB M) : WB (mW M (frF (mI M))) := WB_tr h (fun x y q => frF_o (by omega) (by omega)) (frF_D h.2.1)
def e_B_foretellRuins : Ent := (fun av M => ∃ (o : Nat), av = [.ref o] ∧ (o = 16 ∧ WB M), fun av M r_ M_ => ∀ (o : Nat), av = [.ref o] → r_ = (none) ∧ M_ = (mW M (frF (mI M))))
theorem pc_B_foretellRuins {o : Nat} {M : Mem} {K : Option Value → Mem → Prop} (hp : o = 16 ∧ WB M) : pcall e_B_foretellRuins [.ref o] M K = K (none) (mW M (frF (mI M))) := propext ⟨fun h => h.2 _ _ (fun o' e => by simp only [List.cons.injEq, Value.ref.injEq, Value.int.injEq, Value.long.injEq, and_true] at e; have q0 := e; obtain rfl := q0; exact ⟨rfl, rfl⟩), fun h => ⟨⟨o, rfl, hp⟩, fun r_ M_ q => by obtain ⟨rfl, rfl⟩ := q _ rfl; exact h⟩⟩
theorem mk_B_foretellRuins {Z : Zt} {d : Nat} (h : ∀ (o : Nat) (M : Mem), (o = 16 ∧ WB M) → Gm Z d s_B_foretellRuins [.ref o] M (ex (none) (mW M (frF (mI M))))) : okE Z d i_B_foretellRuins e_B_foretellRuins := by
  rintro av M ⟨o, rfl, hp⟩
  exact Gm.cons (h o M  hp) (fun r_ M_ q o' e => by simp only [List.cons.injEq, Value.ref.injEq, Value.int.injEq, Value.long.injEq, and_true] at e; have q0 := e; obtain rfl := q0; exact q)
def C_B_foretellRuins : List (Nat × Ent) := [(i_L_copyFrom, e_L_copyFrom), (i_L_isBankrupt, e_L_isBankrupt), (i_L_tick, e_L_tick), (i_B_noteRuins, e_B_noteRuins)]
abbrev S_B_foretellRuins : List Nat := [15, 77]
def t_B_foretellRuins_109 : List PI := (109, 9, 5, 0, 0, 0, []) :: []
def t_B_foretellRuins_101 : List PI := (101, 2, 1, 0, 0, 0, []) :: (102, 1, 3, 1, 0, 0, []) :: (103, 1, 6, 2, 0, 1, []) :: (106, 6, 0, 77, 0, 0, []) :: t_B_foretellRuins_109
def t_B_foretellRuins_95 : List PI := (95, 1, 0, 1, 0, 0, []) :: (96, 1, 1, 0, 0, 0, []) :: (97, 1, 0, 2, 0, 0, []) :: (98, 11, 0, 4, 91, 0, [265, 2]) :: t_B_foretellRuins_101
def t_B_foretellRuins_88 : List PI := (88, 1, 1, 0, 0, 0, []) :: (89, 8, 1, 4, 2, 0, [23]) :: (92, 11, 0, 2, 43, 0, [181, 1]) :: t_B_foretellRuins_95
def t_B_foretellRuins_84 : List PI := (84, 1, 0, 1, 0, 0, []) :: (85, 5, 5, 109, 0, 0, []) :: t_B_foretellRuins_88
def t_B_foretellRuins_77 : List PI := (77, 1, 0, 2, 0, 0, []) :: (78, 0, 0, 0, 2, 200, []) :: (81, 4, 4, 109, 0, 0, []) :: t_B_foretellRuins_84
def t_B_foretellRuins_75 : List PI := (75, 0, 0, 0, 0, 1, []) :: (76, 1, 3, 2, 0, 0, []) :: t_B_foretellRuins_77
def t_B_foretellRuins_69 : List PI := (69, 1, 6, 2, 0, 1, []) :: (72, 6, 0, 15, 0, 0, []) :: t_B_foretellRuins_75
def t_B_foretellRuins_66 : List PI := (66, 1, 6, 1, 0, 1, []) :: t_B_foretellRuins_69
def t_B_foretellRuins_55 : List PI := (55, 1, 0, 2, 0, 0, []) :: (56, 1, 1, 0, 0, 0, []) :: (57, 8, 1, 4, 2, 0, [23]) :: (60, 8, 0, 2, 13, 0, [78]) :: (63, 4, 3, 69, 0, 0, []) :: t_B_foretellRuins_66
def t_B_foretellRuins_43 : List PI := (43, 10, 4, 0, 0, 0, []) :: (44, 1, 1, 0, 0, 0, []) :: (45, 8, 1, 4, 5, 0, [37]) :: (48, 1, 0, 2, 0, 0, []) :: (49, 8, 4, 0, 0, 0, []) :: (50, 0, 0, 103, 3, -1000003, []) :: (52, 4, 1, 69, 0, 0, []) :: t_B_foretellRuins_55
def t_B_foretellRuins_41 : List PI := (41, 0, 0, 103, 3, -1000003, []) :: t_B_foretellRuins_43
def t_B_foretellRuins_37 : List PI := (37, 0, 0, 0, 0, 0, []) :: (38, 6, 0, 43, 0, 0, []) :: t_B_foretellRuins_41
def t_B_foretellRuins_34 : List PI := (34, 5, 0, 41, 0, 0, []) :: t_B_foretellRuins_37
def t_B_foretellRuins_21 : List PI := (21, 1, 1, 0, 0, 0, []) :: (22, 8, 1, 4, 5, 0, [37]) :: (25, 1, 0, 2, 0, 0, []) :: (26, 1, 1, 0, 0, 0, []) :: (27, 8, 1, 4, 2, 0, [23]) :: (30, 1, 0, 2, 0, 0, []) :: (31, 11, 0, 2, 37, 0, [100, 2]) :: t_B_foretellRuins_34
def t_B_foretellRuins_15 : List PI := (15, 1, 0, 2, 0, 0, []) :: (16, 0, 0, 0, 1, 6, []) :: (18, 4, 3, 75, 0, 0, []) :: t_B_foretellRuins_21
def t_B_foretellRuins_11 : List PI := (11, 0, 0, 0, 0, 0, []) :: (12, 1, 3, 1, 0, 0, []) :: (13, 0, 0, 0, 0, 0, []) :: (14, 1, 3, 2, 0, 0, []) :: t_B_foretellRuins_15
def t_B_foretellRuins_0 : List PI := (0, 1, 1, 0, 0, 0, []) :: (1, 8, 1, 4, 2, 0, [23]) :: (4, 1, 1, 0, 0, 0, []) :: (5, 8, 1, 4, 1, 0, [19]) :: (8, 11, 0, 2, 16, 0, [262, 2]) :: t_B_foretellRuins_11
theorem kt_B_foretellRuins : okP s_B_foretellRuins t_B_foretellRuins_0 := k_B_foretellRuins
theorem g_B_foretellRuins_0 {Z : Zt} {nF f : Nat} {Kx : Nat → Kt} {Q : Option Value → Mem → Prop} {M : Mem} {x1 : Nat} : run Z nF C_B_foretellRuins S_B_foretellRuins Kx Q (f + 5) t_B_foretellRuins_0 [some (.ref (x1)), none, none] [] M = (isO (M) (x1) 4 ∧ isO (M) (x1) 4 ∧ ((isO (M) (mR (M) (x1) 2) 2) ∧ wsum [] ≤ 8) ∧ pcall e_L_copyFrom [.ref (mR (M) (x1) 2), .ref (mR (M) (x1) 1)] (M) (fun v M_ => run Z nF C_B_foretellRuins S_B_foretellRuins Kx Q f t_B_foretellRuins_11 [some (.ref (x1)), none, none] (v.toList ++ []) M_)) := rfl
theorem g_B_foretellRuins_11 {Z : Zt} {nF f : Nat} {Kx : Nat → Kt} {Q : Option Value → Mem → Prop} {M : Mem} {x1 : Nat} : run Z nF C_B_foretellRuins S_B_foretellRuins Kx Q (f + 4) t_B_foretellRuins_11 [some (.ref (x1)), none, none] [] M = (Kx 15 [some (.ref (x1)), some (.int ((0 : Int32))), some (.int ((0 : Int32)))] [] (M)) := rfl
theorem g_B_foretellRuins_15 {Z : Zt} {nF f : Nat} {Kx : Nat → Kt} {Q : Option Value → Mem → Prop} {M : Mem} {x1 : Nat} {x2 : Int32} {x3 : Int32} : run Z nF C_B_foretellRuins S_B_foretellRuins Kx Q (f + 3) t_B_foretellRuins_15 [some (.ref (x1)), some (.int (x2)), some (.int (x3))] [] M = ((if ((6 : Int32)) ≤ (x3) then run Z nF C_B_foretellRuins S_B_foretellRuins Kx Q f t_B_foretellRuins_75 [some (.ref (x1)), some (.int (x2)), some (.int (x3))] [] (M) else run Z nF C_B_foretellRuins S_B_foretellRuins Kx Q f t_B_foretellRuins_21 [some (.ref (x1)), some (.int (x2)), some (.int (x3))] [] (M))) := rfl
theorem g_B_foretellRuins_21 {Z : Zt} {nF f : Nat} {Kx : Nat → Kt} {Q : Option Value → Mem → Prop} {M : Mem} {x1 : Nat} {x2 : Int32} {x3 : Int32} : run Z nF C_B_foretellRuins S_B_foretellRuins Kx Q (f + 7) t_B_foretellRuins_21 [some (.ref (x1)), some (.int (x2)), some (.int (x3))] [] M = (isO (M) (x1) 4 ∧ isO (M) (x1) 4 ∧ ((isO (M) (mR (M) (x1) 2) 2) ∧ wsum [.int (x3), .ref (mR (M) (x1) 5)] ≤ 8) ∧ pcall e_L_isBankrupt [.ref (mR (M) (x1) 2), .int (x3)] (M) (fun v M_ => run Z nF C_B_foretellRuins S_B_foretellRuins Kx Q f t_B_foretellRuins_34 [some (.ref (x1)), some (.int (x2)), some (.int (x3))] (v.toList ++ [.int (x3), .ref (mR (M) (x1) 5)]) M_)) := rfl
theorem g_B_foretellRuins_34 {Z : Zt} {nF f : Nat} {Kx : Nat → Kt} {Q : Option Value → Mem → Prop} {M : Mem} {x1 : Nat} {x2 : Int32} {x3 : Int32} {x4 : Int32} {x5 : Int32} {x6 : Nat} : run Z nF C_B_foretellRuins S_B_foretellRuins Kx Q (f + 1) t_B_foretellRuins_34 [some (.ref (x1)), some (.int (x2)), some (.int (x3))] [.int (x4), .int (x5), .ref (x6)] M = ((if (x4) = 0 then run Z nF C_B_foretellRuins S_B_foretellRuins Kx Q f t_B_foretellRuins_41 [some (.ref (x1)), some (.int (x2)), some (.int (x3))] [.int (x5), .ref (x6)] (M) else run Z nF C_B_foretellRuins S_B_foretellRuins Kx Q f t_B_foretellRuins_37 [some (.ref (x1)), some (.int (x2)), some (.int (x3))] [.int (x5), .ref (x6)] (M))) := rfl
theorem g_B_foretellRuins_37 {Z : Zt} {nF f : Nat} {Kx : Nat → Kt} {Q : Option Value → Mem → Prop} {M : Mem} {x1 : Nat} {x2 : Int32} {x3 : Int32} {x4 : Int32} {x5 : Nat} : run Z nF C_B_foretellRuins S_B_foretellRuins Kx Q (f + 2) t_B_foretellRuins_37 [some (.ref (x1)), some (.int (x2)), some (.int (x3))] [.int (x4), .ref (x5)] M = (run Z nF C_B_foretellRuins S_B_foretellRuins Kx Q f t_B_foretellRuins_43 [some (.ref (x1)), some (.int (x2)), some (.int (x3))] [.int ((0 : Int32)), .int (x4), .ref (x5)] (M)) := rfl
theorem g_B_foretellRuins_41 {Z : Zt} {nF f : Nat} {Kx : Nat → Kt} {Q : Option Value → Mem → Prop} {M : Mem} {x1 : Nat} {x2 : Int32} {x3 : Int32} {x4 : Int32} {x5 : Nat} : run Z nF C_B_foretellRuins S_B_foretellRuins Kx Q (f + 1) t_B_foretellRuins_41 [some (.ref (x1)), some (.int (x2)), some (.int (x3))] [.int (x4), .ref (x5)] M = (run Z nF C_B_foretellRuins S_B_foretellRuins Kx Q f t_B_foretellRuins_43 [some (.ref (x1)), some (.int (x2)), some (.int (x3))] [.int ((-1000003 : Int32)), .int (x4), .ref (x5)] (M)) := rfl
theorem g_B_foretellRuins_43 {Z : Zt} {nF f : Nat} {Kx : Nat → Kt} {Q : Option Value → Mem → Prop} {M : Mem} {x1 : Nat} {x2 : Int32} {x3 : Int32} {x4 : Int32} {x5 : Int32} {x6 : Nat} : run Z nF C_B_foretellRuins S_B_foretellRuins Kx Q (f + 7) t_B_foretellRuins_43 [some (.ref (x1)), some (.int (x2)), some (.int (x3))] [.int (x4), .int (x5), .ref (x6)] M = (isA (M) (x6) (x5) ∧ isO (stI (M) (x6) (Int32.toNatClampNeg (x5)) (x4)) (x1) 4 ∧ isA (stI (M) (x6) (Int32.toNatClampNeg (x5)) (x4)) (mR (stI (M) (x6) (Int32.toNatClampNeg (x5)) (x4)) (x1) 5) (x3) ∧ (if (mI (stI (M) (x6) (Int32.toNatClampNeg (x5)) (x4)) (mR (stI (M) (x6) (Int32.toNatClampNeg (x5)) (x4)) (x1) 5) (Int32.toNatClampNeg (x3))) = ((-1000003 : Int32)) then run Z nF C_B_foretellRuins S_B_foretellRuins Kx Q f t_B_foretellRuins_55 [some (.ref (x1)), some (.int (x2)), some (.int (x3))] [] (stI (M) (x6) (Int32.toNatClampNeg (x5)) (x4)) else run Z nF C_B_foretellRuins S_B_foretellRuins Kx Q f t_B_foretellRuins_69 [some (.ref (x1)), some (.int (x2)), some (.int (x3))] [] (stI (M) (x6) (Int32.toNatClampNeg (x5)) (x4)))) := rfl
theorem g_B_foretellRuins_55 {Z : Zt} {nF f : Nat} {Kx : Nat → Kt} {Q : Option Value → Mem → Prop} {M : Mem} {x1 : Nat} {x2 : Int32} {x3 : Int32} : run Z nF C_B_foretellRuins S_B_foretellRuins Kx Q (f + 5) t_B_foretellRuins_55 [some (.ref (x1)), some (.int (x2)), some (.int (x3))] [] M = (isO (M) (x1) 4 ∧ isO (M) (mR (M) (x1) 2) 2 ∧ (if (mI (M) (mR (M) (x1) 2) 13) ≤ (x3) then run Z nF C_B_foretellRuins S_B_foretellRuins Kx Q f t_B_foretellRuins_69 [some (.ref (x1)), some (.int (x2)), some (.int (x3))] [] (M) else run Z nF C_B_foretellRuins S_B_foretellRuins Kx Q f t_B_foretellRuins_66 [some (.ref (x1)), some (.int (x2)), some (.int (x3))] [] (M))) := rfl
theorem g_B_foretellRuins_66 {Z : Zt} {nF f : Nat} {Kx : Nat → Kt} {Q : Option Value → Mem → Prop} {M : Mem} {x1 : Nat} {x2 : Int32} {x3 : Int32} : run Z nF C_B_foretellRuins S_B_foretellRuins Kx Q (f + 1) t_B_foretellRuins_66 [some (.ref (x1)), some (.int (x2)), some (.int (x3))] [] M = (run Z nF C_B_foretellRuins S_B_foretellRuins Kx Q f t_B_foretellRuins_69 [some (.ref (x1)), some (.int (x2 + (1 : Int32))), some (.int (x3))] [] (M)) := rfl
theorem g_B_foretellRuins_69 {Z : Zt} {nF f : Nat} {Kx : Nat → Kt} {Q : Option Value → Mem → Prop} {M : Mem} {x1 : Nat} {x2 : Int32} {x3 : Int32} : run Z nF C_B_foretellRuins S_B_foretellRuins Kx Q (f + 2) t_B_foretellRuins_69 [some (.ref (x1)), some (.int (x2)), some (.int (x3))] [] M = (Kx 15 [some (.ref (x1)), some (.int (x2)), some (.int (x3 + (1 : Int32)))] [] (M)) := rfl
theorem g_B_foretellRuins_75 {Z : Zt} {nF f : Nat} {Kx : Nat → Kt} {Q : Option Value → Mem → Prop} {M : Mem} {x1 : Nat} {x2 : Int32} {x3 : Int32} : run Z nF C_B_foretellRuins S_B_foretellRuins Kx Q (f + 2) t_B_foretellRuins_75 [some (.ref (x1)), some (.int (x2)), some (.int (x3))] [] M = (Kx 77 [some (.ref (x1)), some (.int (x2)), some (.int ((1 : Int32)))] [] (M)) := rfl
theorem g_B_foretellRuins_77 {Z : Zt} {nF f : Nat} {Kx : Nat → Kt} {Q : Option Value → Mem → Prop} {M : Mem} {x1 : Nat} {x2 : Int32} {x3 : Int32} : run Z nF C_B_foretellRuins S_B_foretellRuins Kx Q (f + 3) t_B_foretellRuins_77 [some (.ref (x1)), some (.int (x2)), some (.int (x3))] [] M = ((if ((200 : Int32)) < (x3) then run Z nF C_B_foretellRuins S_B_foretellRuins Kx Q f t_B_foretellRuins_109 [some (.ref (x1)), some (.int (x2)), some (.int (x3))] [] (M) else run Z nF C_B_foretellRuins S_B_foretellRuins Kx Q f t_B_foretellRuins_84 [some (.ref (x1)), some (.int (x2)), some (.int (x3))] [] (M))) := rfl
theorem g_B_foretellRuins_84 {Z : Zt} {nF f : Nat} {Kx : Nat → Kt} {Q : Option Value → Mem → Prop} {M : Mem} {x1 : Nat} {x2 : Int32} {x3 : Int32} : run Z nF C_B_foretellRuins S_B_foretellRuins Kx Q (f + 2) t_B_foretellRuins_84 [some (.ref (x1)), some (.int (x2)), some (.int (x3))] [] M = ((if (x2) ≤ 0 then run Z nF C_B_foretellRuins S_B_foretellRuins Kx Q f t_B_foretellRuins_109 [some (.ref (x1)), some (.int (x2)), some (.int (x3))] [] (M) else run Z nF C_B_foretellRuins S_B_foretellRuins Kx Q f t_B_foretellRuins_88 [some (.ref (x1)), some (.int (x2)), some (.int (x3))] [] (M))) := rfl
theorem g_B_foretellRuins_88 {Z : Zt} {nF f : Nat} {Kx : Nat → Kt} {Q : Option Value → Mem → Prop} {M : Mem} {x1 : Nat} {x2 : Int32} {x3 : Int32} : run Z nF C_B_foretellRuins S_B_foretellRuins Kx Q (f + 3) t_B_foretellRuins_88 [some (.ref (x1)), some (.int (x2)), some (.int (x3))] [] M = (isO (M) (x1) 4 ∧ ((isO (M) (mR (M) (x1) 2) 2) ∧ wsum [] ≤ 8) ∧ pcall e_L_tick [.ref (mR (M) (x1) 2)] (M) (fun v M_ => run Z nF C_B_foretellRuins S_B_foretellRuins Kx Q f t_B_foretellRuins_95 [some (.ref (x1)), some (.int (x2)), some (.int (x3))] (v.toList ++ []) M_)) := rfl
theorem g_B_foretellRuins_95 {Z : Zt} {nF f : Nat} {Kx : Nat → Kt} {Q : Option Value → Mem → Prop} {M : Mem} {x1 : Nat} {x2 : Int32} {x3 : Int32} : run Z nF C_B_foretellRuins S_B_foretellRuins Kx Q (f + 4) t_B_foretellRuins_95 [some (.ref (x1)), some (.int (x2)), some (.int (x3))] [] M = (((isO (M) (x1) 4) ∧ wsum [.int (x2)] ≤ 8) ∧ pcall e_B_noteRuins [.ref (x1), .int (x3)] (M) (fun v M_ => run Z nF C_B_foretellRuins S_B_foretellRuins Kx Q f t_B_foretellRuins_101 [some (.ref (x1)), some (.int (x2)), some (.int (x3))] (v.toList ++ [.int (x2)]) M_)) := rfl
theorem g_B_foretellRuins_101 {Z : Zt} {nF f : Nat} {Kx : Nat → Kt} {Q : Option Value → Mem → Prop} {M : Mem} {x1 : Nat} {x2 : Int32} {x3 : Int32} {x4 : Int32} {x5 : Int32} : run Z nF C_B_foretellRuins S_B_foretellRuins Kx Q (f + 4) t_B_foretellRuins_101 [some (.ref (x1)), some (.int (x2)), some (.int (x3))] [.int (x4), .int (x5)] M = (Kx 77 [some (.ref (x1)), some (.int ((x5) - (x4))), some (.int (x3 + (1 : Int32)))] [] (M)) := rfl
theorem g_B_foretellRuins_109 {Z : Zt} {nF f : Nat} {Kx : Nat → Kt} {Q : Option Value → Mem → Prop} {M : Mem} {x1 : Nat} {x2 : Int32} {x3 : Int32} : run Z nF C_B_foretellRuins S_B_foretellRuins Kx Q (f + 1) t_B_foretellRuins_109 [some (.ref (x1)), some (.int (x2)), some (.int (x3))] [] M = (Q none (M)) := rfl
set_option maxRecDepth 100000 in
set_option maxHeartbeats 4000000 in
theorem lp_B_foretell2 (Z : Zt) (d : Nat) {M : Mem} (hB : BkS M) : ∀ n k f u g, n + k = 201 → LedD f 35 → fr2 n f u k = g → X Z (d + 6) s_B_foretellRuins (mN M) (mN M) (ex none (mW M g)) 77 [some (.ref 16), some (.int u), some (.int (nI k))] [] (mW M f) := by
  intro n
  induction n with
  | zero =>
    intro k f u g hk hD hg
    obtain rfl : k = 201 := by omega
    cases hg
    refine X_runT (C := C_B_foretellRuins) (S := S_B_foretellRuins) (T := t_B_foretellRuins_77) 1000 kt_B_foretellRuins (okE_cons (ok_L_copyFrom Z (d + 2)) (okE_cons (ok_L_isBankrupt Z (d + 3)) (okE_cons (ok_L_tick Z d) (okE_cons (ok_B_noteRuins Z (d + 2)) okE_nil)))) ?_
    simp (maxSteps := 3000000) (disch := first | exact True.intro | assumption | omega) only [↓eq_self, Option.toList_some, Option.toList_none, List.nil_append, List.cons_append, wsum_0, wsum_1, wsum_2, wsum_3, wsum_4, lkill, ↓reduceIte, if_true, if_false, Bool.false_eq_true, and_true, true_and, and_self, or_self, true_or, or_true, not_true, not_false_iff, mR_stI, mN_stI, isO_stI, isA_stI, mI_stI, mR_mW, mN_mW, isO_mW, isA_mW, mI_mW, mW_mW, stI_mW, vp_0, nI_addL, nI_mulL, nI_subL, nI_ltL, nI_leL, nI_Llt, nI_Lle, nI_eqL, nI_Leq, nI_add, pk_mul, nI_ltI, nI_leI, nI_eq, vpi, nI_clamp, nI_toN, bk_oB hB, bk_oV hB, bk_oH hB, bk_b0 hB, bk_b1 hB, bk_b2 hB, bk_b3 hB, bk_b4 hB, bk_b5 hB, bk_v0 hB, bk_v1 hB, bk_h0 hB, nw_o hB, nw_og hB, nw_od hB, nw_ot hB, nw_r9 hB, nw_r10 hB, nw_r11 hB, nw_r0 hB, nw_r1 hB, nw_r2 hB, nw_r3 hB, nw_r4 hB, nw_r5 hB, nw_r6 hB, nw_r7 hB, nw_r8 hB, nw_a1 hB, nw_a2 hB, nw_a3 hB, nw_a4 hB, nw_a5 hB, nw_a6 hB, nw_a7 hB, nw_a8 hB, nw_a9 hB, nw_a14 hB, nw_as hB, nw_at hB, vR, vT, Nat.not_lt_zero, bv_Tr, bv_Fa, one_n0, eq_self, Nat.zero_le, and_true, true_and, and_false, false_and, not_true, not_false_iff, or_true, true_or, or_false, false_or, mN_mRW, ex_iff, ↓g_B_foretellRuins_0, ↓g_B_foretellRuins_11, ↓g_B_foretellRuins_15, ↓g_B_foretellRuins_21, ↓g_B_foretellRuins_34, ↓g_B_foretellRuins_37, ↓g_B_foretellRuins_41, ↓g_B_foretellRuins_43, ↓g_B_foretellRuins_55, ↓g_B_foretellRuins_66, ↓g_B_foretellRuins_69, ↓g_B_foretellRuins_75, ↓g_B_foretellRuins_77, ↓g_B_foretellRuins_84, ↓g_B_foretellRuins_88, ↓g_B_foretellRuins_95, ↓g_B_foretellRuins_101, ↓g_B_foretellRuins_109, fr2]
    rw [if_pos (by omega)]
    exact True.intro
  | succ n ih =>
    intro k f u g hk hD hg
    have h1 : ¬ 200 < k := by omega
    have hL2 := bk_tri hB
    have htk : ∀ {K : Option Value → Mem → Prop}, pcall e_L_tick [.ref 35] (mW M f) K = K none (mW (mW M f) (tkF f 35)) := pc_L_tick (b := 35) (M := mW M f) ⟨hL2, hD⟩
    have hnr : ∀ {K : Option Value → Mem → Prop}, pcall e_B_noteRuins [.ref 16, .int (nI k)] (mW M (tkF f 35)) K = K (some (.int (nI (nrC (tkF f 35) 6)))) (mW (mW M (tkF f 35)) (nrG (tkF f 35) (nI k) 6)) := pc_B_noteRuins (o := 16) (v := nI k) (M := mW M (tkF f 35)) ⟨rfl, hB, tkF_D hD⟩
    rw [fr2] at hg
    refine X_runT (C := C_B_foretellRuins) (S := S_B_foretellRuins) (T := t_B_foretellRuins_77) 1000 kt_B_foretellRuins (okE_cons (ok_L_copyFrom Z (d + 2)) (okE_cons (ok_L_isBankrupt Z (d + 3)) (okE_cons (ok_L_tick Z d) (okE_cons (ok_B_noteRuins Z (d + 2)) okE_nil)))) ?_
    by_cases h2 : 0 < u
    · have h2' : ¬ u ≤ 0 := Int32.not_le.mpr h2
      rw [if_pos h2] at hg
      simp (maxSteps := 3000000) (disch := first | exact True.intro | assumption | omega) only [↓eq_self, Option.toList_some, Option.toList_none, List.nil_append, List.cons_append, wsum_0, wsum_1, wsum_2, wsum_3, wsum_4, lkill, ↓reduceIte, if_true, if_false, Bool.false_eq_true, and_true, true_and, and_self, or_self, true_or, or_true, not_true, not_false_iff, mR_stI, mN_stI, isO_stI, isA_stI, mI_stI, mR_mW, mN_mW, isO_mW, isA_mW, mI_mW, mW_mW, stI_mW, vp_0, nI_addL, nI_mulL, nI_subL, nI_ltL, nI_leL, nI_Llt, nI_Lle, nI_eqL, nI_Leq, nI_add, pk_mul, nI_ltI, nI_leI, nI_eq, vpi, nI_clamp, nI_toN, bk_oB hB, bk_oV hB, bk_oH hB, bk_b0 hB, bk_b1 hB, bk_b2 hB, bk_b3 hB, bk_b4 hB, bk_b5 hB, bk_v0 hB, bk_v1 hB, bk_h0 hB, nw_o hB, nw_og hB, nw_od hB, nw_ot hB, nw_r9 hB, nw_r10 hB, nw_r11 hB, nw_r0 hB, nw_r1 hB, nw_r2 hB, nw_r3 hB, nw_r4 hB, nw_r5 hB, nw_r6 hB, nw_r7 hB, nw_r8 hB, nw_a1 hB, nw_a2 hB, nw_a3 hB, nw_a4 hB, nw_a5 hB, nw_a6 hB, nw_a7 hB, nw_a8 hB, nw_a9 hB, nw_a14 hB, nw_as hB, nw_at hB, vR, vT, Nat.not_lt_zero, bv_Tr, bv_Fa, one_n0, eq_self, Nat.zero_le, and_true, true_and, and_false, false_and, not_true, not_false_iff, or_true, true_or, or_false, false_or, mN_mRW, ex_iff, ↓g_B_foretellRuins_0, ↓g_B_foretellRuins_11, ↓g_B_foretellRuins_15, ↓g_B_foretellRuins_21, ↓g_B_foretellRuins_34, ↓g_B_foretellRuins_37, ↓g_B_foretellRuins_41, ↓g_B_foretellRuins_43, ↓g_B_foretellRuins_55, ↓g_B_foretellRuins_66, ↓g_B_foretellRuins_69, ↓g_B_foretellRuins_75, ↓g_B_foretellRuins_77, ↓g_B_foretellRuins_84, ↓g_B_foretellRuins_88, ↓g_B_foretellRuins_95, ↓g_B_foretellRuins_101, ↓g_B_foretellRuins_109, bk_b2 hB, h1, h2, h2', htk, hnr]
      exact ih (k + 1) _ _ _ (by omega) (LedD_cg (tkF_D hD) (fun y => nrG_o (by omega)) (fun y => nrG_o (by omega)) (fun y => nrG_o (by omega))) hg
    · have h2' : u ≤ 0 := Int32.not_lt.mp h2
      rw [if_neg h2] at hg
      cases hg
      simp (maxSteps := 3000000) (disch := first | exact True.intro | assumption | omega) only [↓eq_self, Option.toList_some, Option.toList_none, List.nil_append, List.cons_append, wsum_0, wsum_1, wsum_2, wsum_3, wsum_4, lkill, ↓reduceIte, if_true, if_false, Bool.false_eq_true, and_true, true_and, and_self, or_self, true_or, or_true, not_true, not_false_iff, mR_stI, mN_stI, isO_stI, isA_stI, mI_stI, mR_mW, mN_mW, isO_mW, isA_mW, mI_mW, mW_mW, stI_mW, vp_0, nI_addL, nI_mulL, nI_subL, nI_ltL, nI_leL, nI_Llt, nI_Lle, nI_eqL, nI_Leq, nI_add, pk_mul, nI_ltI, nI_leI, nI_eq, vpi, nI_clamp, nI_toN, bk_oB hB, bk_oV hB, bk_oH hB, bk_b0 hB, bk_b1 hB, bk_b2 hB, bk_b3 hB, bk_b4 hB, bk_b5 hB, bk_v0 hB, bk_v1 hB, bk_h0 hB, nw_o hB, nw_og hB, nw_od hB, nw_ot hB, nw_r9 hB, nw_r10 hB, nw_r11 hB, nw_r0 hB, nw_r1 hB, nw_r2 hB, nw_r3 hB, nw_r4 hB, nw_r5 hB, nw_r6 hB, nw_r7 hB, nw_r8 hB, nw_a1 hB, nw_a2 hB, nw_a3 hB, nw_a4 hB, nw_a5 hB, nw_a6 hB, nw_a7 hB, nw_a8 hB, nw_a9 hB, nw_a14 hB, nw_as hB, nw_at hB, vR, vT, Nat.not_lt_zero, bv_Tr, bv_Fa, one_n0, eq_self, Nat.zero_le, and_true, true_and, and_false, false_and, not_true, not_false_iff, or_true, true_or, or_false, false_or, mN_mRW, ex_iff, ↓g_B_foretellRuins_0, ↓g_B_foretellRuins_11, ↓g_B_foretellRuins_15, ↓g_B_foretellRuins_21, ↓g_B_foretellRuins_34, ↓g_B_foretellRuins_37, ↓g_B_foretellRuins_41, ↓g_B_foretellRuins_43, ↓g_B_foretellRuins_55, ↓g_B_foretellRuins_66, ↓g_B_foretellRuins_69, ↓g_B_foretellRuins_75, ↓g_B_foretellRuins_77, ↓g_B_foretellRuins_84, ↓g_B_foretellRuins_88, ↓g_B_foretellRuins_95, ↓g_B_foretellRuins_101, ↓g_B_foretellRuins_109, bk_b2 hB, h1, h2, h2']
set_option maxRecDepth 100000 in
set_option maxHeartbeats 4000000 in
theorem lp_B_foretell1 (Z : Zt) (d : Nat) {M : Mem} {f : Nat → Nat → Int32} (hB : BkS M) (hD : LedD f 35) : ∀ n i, i + n = 6 → X Z (d + 6) s_B_foretellRuins (mN M) (mN M) (ex none (mW M (fr2 200 (fr1 f 6) (nI (frC f 6)) 1))) 15 [some (.ref 16), some (.int (nI (frC f i))), some (.int (nI i))] [] (mW M (fr1 f i)) := by
  have hL2 := bk_tri hB
  have hlt : lnT f 35 ≤ 6 := hD.2.2.2.2.2.1
  have ht13 : f 35 13 = nI (lnT f 35) := hD.2.2.2.2.1
  intro n
  induction n with
  | zero =>
    intro i hi
    obtain rfl : i = 6 := by omega
    refine X_runT (C := C_B_foretellRuins) (S := S_B_foretellRuins) (T := t_B_foretellRuins_15) 1000 kt_B_foretellRuins (okE_cons (ok_L_copyFrom Z (d + 2)) (okE_cons (ok_L_isBankrupt Z (d + 3)) (okE_cons (ok_L_tick Z d) (okE_cons (ok_B_noteRuins Z (d + 2)) okE_nil)))) ?_
    simp (maxSteps := 3000000) (disch := first | exact True.intro | assumption | omega) only [↓eq_self, Option.toList_some, Option.toList_none, List.nil_append, List.cons_append, wsum_0, wsum_1, wsum_2, wsum_3, wsum_4, lkill, ↓reduceIte, if_true, if_false, Bool.false_eq_true, and_true, true_and, and_self, or_self, true_or, or_true, not_true, not_false_iff, mR_stI, mN_stI, isO_stI, isA_stI, mI_stI, mR_mW, mN_mW, isO_mW, isA_mW, mI_mW, mW_mW, stI_mW, vp_0, nI_addL, nI_mulL, nI_subL, nI_ltL, nI_leL, nI_Llt, nI_Lle, nI_eqL, nI_Leq, nI_add, pk_mul, nI_ltI, nI_leI, nI_eq, vpi, nI_clamp, nI_toN, bk_oB hB, bk_oV hB, bk_oH hB, bk_b0 hB, bk_b1 hB, bk_b2 hB, bk_b3 hB, bk_b4 hB, bk_b5 hB, bk_v0 hB, bk_v1 hB, bk_h0 hB, nw_o hB, nw_og hB, nw_od hB, nw_ot hB, nw_r9 hB, nw_r10 hB, nw_r11 hB, nw_r0 hB, nw_r1 hB, nw_r2 hB, nw_r3 hB, nw_r4 hB, nw_r5 hB, nw_r6 hB, nw_r7 hB, nw_r8 hB, nw_a1 hB, nw_a2 hB, nw_a3 hB, nw_a4 hB, nw_a5 hB, nw_a6 hB, nw_a7 hB, nw_a8 hB, nw_a9 hB, nw_a14 hB, nw_as hB, nw_at hB, vR, vT, Nat.not_lt_zero, bv_Tr, bv_Fa, one_n0, eq_self, Nat.zero_le, and_true, true_and, and_false, false_and, not_true, not_false_iff, or_true, true_or, or_false, false_or, mN_mRW, ex_iff, ↓g_B_foretellRuins_0, ↓g_B_foretellRuins_11, ↓g_B_foretellRuins_15, ↓g_B_foretellRuins_21, ↓g_B_foretellRuins_34, ↓g_B_foretellRuins_37, ↓g_B_foretellRuins_41, ↓g_B_foretellRuins_43, ↓g_B_foretellRuins_55, ↓g_B_foretellRuins_66, ↓g_B_foretellRuins_69, ↓g_B_foretellRuins_75, ↓g_B_foretellRuins_77, ↓g_B_foretellRuins_84, ↓g_B_foretellRuins_88, ↓g_B_foretellRuins_95, ↓g_B_foretellRuins_101, ↓g_B_foretellRuins_109, Nat.le_refl]
    exact lp_B_foretell2 Z d hB 200 1 _ _ _ rfl (fr1_D hD) rfl
  | succ n ih =>
    intro i hi
    have h6 : ¬ 6 ≤ i := by omega
    have hi6 : i < 6 := by omega
    have hle : frC f i ≤ i := fcnt_le _ i
    have hib : ∀ {K : Option Value → Mem → Prop}, pcall e_L_isBankrupt [.ref 35, .int (nI i)] (mW M (fr1 f i)) K = K (some (.int (bv (isB f 35 (nI i))))) (mW M (fr1 f i)) := by
      intro K
      rw [pc_L_isBankrupt (b := 35) (t := nI i) (M := mW M (fr1 f i)) ⟨hL2, fr1_D hD⟩, show isB (mI (mW M (fr1 f i))) 35 (nI i) = isB f 35 (nI i) from isB_cg (f := f) (g := fr1 f i) (b := 35) (t := nI i) (fr1_o (by omega)) (fun y => fr1_o (by omega))]
    have := ih (i + 1) (by omega)
    have ec : frC f (i + 1) = if frP f i then frC f i + 1 else frC f i := fcnt_s _ i
    have e13 : ∀ v, u2 (fr1 f i) 173 i v 35 13 = nI (lnT f 35) := fun v => by rw [u2_ne (by omega), fr1_o (by omega), ht13]
    refine X_runT (C := C_B_foretellRuins) (S := S_B_foretellRuins) (T := t_B_foretellRuins_15) 1000 kt_B_foretellRuins (okE_cons (ok_L_copyFrom Z (d + 2)) (okE_cons (ok_L_isBankrupt Z (d + 3)) (okE_cons (ok_L_tick Z d) (okE_cons (ok_B_noteRuins Z (d + 2)) okE_nil)))) ?_
    by_cases h1 : isB f 35 (nI i)
    · rw [ec, if_neg (fun q => q.1 h1), ← fr1_s (v := 0) (if_pos h1).symm] at this
      simp (maxSteps := 3000000) (disch := first | exact True.intro | assumption | omega) only [↓eq_self, Option.toList_some, Option.toList_none, List.nil_append, List.cons_append, wsum_0, wsum_1, wsum_2, wsum_3, wsum_4, lkill, ↓reduceIte, if_true, if_false, Bool.false_eq_true, and_true, true_and, and_self, or_self, true_or, or_true, not_true, not_false_iff, mR_stI, mN_stI, isO_stI, isA_stI, mI_stI, mR_mW, mN_mW, isO_mW, isA_mW, mI_mW, mW_mW, stI_mW, vp_0, nI_addL, nI_mulL, nI_subL, nI_ltL, nI_leL, nI_Llt, nI_Lle, nI_eqL, nI_Leq, nI_add, pk_mul, nI_ltI, nI_leI, nI_eq, vpi, nI_clamp, nI_toN, bk_oB hB, bk_oV hB, bk_oH hB, bk_b0 hB, bk_b1 hB, bk_b2 hB, bk_b3 hB, bk_b4 hB, bk_b5 hB, bk_v0 hB, bk_v1 hB, bk_h0 hB, nw_o hB, nw_og hB, nw_od hB, nw_ot hB, nw_r9 hB, nw_r10 hB, nw_r11 hB, nw_r0 hB, nw_r1 hB, nw_r2 hB, nw_r3 hB, nw_r4 hB, nw_r5 hB, nw_r6 hB, nw_r7 hB, nw_r8 hB, nw_a1 hB, nw_a2 hB, nw_a3 hB, nw_a4 hB, nw_a5 hB, nw_a6 hB, nw_a7 hB, nw_a8 hB, nw_a9 hB, nw_a14 hB, nw_as hB, nw_at hB, vR, vT, Nat.not_lt_zero, bv_Tr, bv_Fa, one_n0, eq_self, Nat.zero_le, and_true, true_and, and_false, false_and, not_true, not_false_iff, or_true, true_or, or_false, false_or, mN_mRW, ex_iff, ↓g_B_foretellRuins_0, ↓g_B_foretellRuins_11, ↓g_B_foretellRuins_15, ↓g_B_foretellRuins_21, ↓g_B_foretellRuins_34, ↓g_B_foretellRuins_37, ↓g_B_foretellRuins_41, ↓g_B_foretellRuins_43, ↓g_B_foretellRuins_55, ↓g_B_foretellRuins_66, ↓g_B_foretellRuins_69, ↓g_B_foretellRuins_75, ↓g_B_foretellRuins_77, ↓g_B_foretellRuins_84, ↓g_B_foretellRuins_88, ↓g_B_foretellRuins_95, ↓g_B_foretellRuins_101, ↓g_B_foretellRuins_109, bk_b2 hB, h6, hi6, hib, h1, u2_eq, (show ((0 : Int32) = -1000003) = False by decide)]
      exact this
    · rw [← fr1_s (v := -1000003) (if_neg h1).symm] at this
      by_cases h2 : i < lnT f 35
      · rw [ec, if_pos ⟨h1, h2⟩] at this
        have h3 : ¬ lnT f 35 ≤ i := by omega
        simp (maxSteps := 3000000) (disch := first | exact True.intro | assumption | omega) only [↓eq_self, Option.toList_some, Option.toList_none, List.nil_append, List.cons_append, wsum_0, wsum_1, wsum_2, wsum_3, wsum_4, lkill, ↓reduceIte, if_true, if_false, Bool.false_eq_true, and_true, true_and, and_self, or_self, true_or, or_true, not_true, not_false_iff, mR_stI, mN_stI, isO_stI, isA_stI, mI_stI, mR_mW, mN_mW, isO_mW, isA_mW, mI_mW, mW_mW, stI_mW, vp_0, nI_addL, nI_mulL, nI_subL, nI_ltL, nI_leL, nI_Llt, nI_Lle, nI_eqL, nI_Leq, nI_add, pk_mul, nI_ltI, nI_leI, nI_eq, vpi, nI_clamp, nI_toN, bk_oB hB, bk_oV hB, bk_oH hB, bk_b0 hB, bk_b1 hB, bk_b2 hB, bk_b3 hB, bk_b4 hB, bk_b5 hB, bk_v0 hB, bk_v1 hB, bk_h0 hB, nw_o hB, nw_og hB, nw_od hB, nw_ot hB, nw_r9 hB, nw_r10 hB, nw_r11 hB, nw_r0 hB, nw_r1 hB, nw_r2 hB, nw_r3 hB, nw_r4 hB, nw_r5 hB, nw_r6 hB, nw_r7 hB, nw_r8 hB, nw_a1 hB, nw_a2 hB, nw_a3 hB, nw_a4 hB, nw_a5 hB, nw_a6 hB, nw_a7 hB, nw_a8 hB, nw_a9 hB, nw_a14 hB, nw_as hB, nw_at hB, vR, vT, Nat.not_lt_zero, bv_Tr, bv_Fa, one_n0, eq_self, Nat.zero_le, and_true, true_and, and_false, false_and, not_true, not_false_iff, or_true, true_or, or_false, false_or, mN_mRW, ex_iff, ↓g_B_foretellRuins_0, ↓g_B_foretellRuins_11, ↓g_B_foretellRuins_15, ↓g_B_foretellRuins_21, ↓g_B_foretellRuins_34, ↓g_B_foretellRuins_37, ↓g_B_foretellRuins_41, ↓g_B_foretellRuins_43, ↓g_B_foretellRuins_55, ↓g_B_foretellRuins_66, ↓g_B_foretellRuins_69, ↓g_B_foretellRuins_75, ↓g_B_foretellRuins_77, ↓g_B_foretellRuins_84, ↓g_B_foretellRuins_88, ↓g_B_foretellRuins_95, ↓g_B_foretellRuins_101, ↓g_B_foretellRuins_109, bk_b2 hB, h6, hi6, hib, h1, u2_eq, e13, h3]
        exact this
      · rw [ec, if_neg (fun q => h2 q.2)] at this
        have h3 : lnT f 35 ≤ i := by omega
        simp (maxSteps := 3000000) (disch := first | exact True.intro | assumption | omega) only [↓eq_self, Option.toList_some, Option.toList_none, List.nil_append, List.cons_append, wsum_0, wsum_1, wsum_2, wsum_3, wsum_4, lkill, ↓reduceIte, if_true, if_false, Bool.false_eq_true, and_true, true_and, and_self, or_self, true_or, or_true, not_true, not_false_iff, mR_stI, mN_stI, isO_stI, isA_stI, mI_stI, mR_mW, mN_mW, isO_mW, isA_mW, mI_mW, mW_mW, stI_mW, vp_0, nI_addL, nI_mulL, nI_subL, nI_ltL, nI_leL, nI_Llt, nI_Lle, nI_eqL, nI_Leq, nI_add, pk_mul, nI_ltI, nI_leI, nI_eq, vpi, nI_clamp, nI_toN, bk_oB hB, bk_oV hB, bk_oH hB, bk_b0 hB, bk_b1 hB, bk_b2 hB, bk_b3 hB, bk_b4 hB, bk_b5 hB, bk_v0 hB, bk_v1 hB, bk_h0 hB, nw_o hB, nw_og hB, nw_od hB, nw_ot hB, nw_r9 hB, nw_r10 hB, nw_r11 hB, nw_r0 hB, nw_r1 hB, nw_r2 hB, nw_r3 hB, nw_r4 hB, nw_r5 hB, nw_r6 hB, nw_r7 hB, nw_r8 hB, nw_a1 hB, nw_a2 hB, nw_a3 hB, nw_a4 hB, nw_a5 hB, nw_a6 hB, nw_a7 hB, nw_a8 hB, nw_a9 hB, nw_a14 hB, nw_as hB, nw_at hB, vR, vT, Nat.not_lt_zero, bv_Tr, bv_Fa, one_n0, eq_self, Nat.zero_le, and_true, true_and, and_false, false_and, not_true, not_false_iff, or_true, true_or, or_false, false_or, mN_mRW, ex_iff, ↓g_B_foretellRuins_0, ↓g_B_foretellRuins_11, ↓g_B_foretellRuins_15, ↓g_B_foretellRuins_21, ↓g_B_foretellRuins_34, ↓g_B_foretellRuins_37, ↓g_B_foretellRuins_41, ↓g_B_foretellRuins_43, ↓g_B_foretellRuins_55, ↓g_B_foretellRuins_66, ↓g_B_foretellRuins_69, ↓g_B_foretellRuins_75, ↓g_B_foretellRuins_77, ↓g_B_foretellRuins_84, ↓g_B_foretellRuins_88, ↓g_B_foretellRuins_95, ↓g_B_foretellRuins_101, ↓g_B_foretellRuins_109, bk_b2 hB, h6, hi6, hib, h1, u2_eq, e13, h3]
        exact this
set_option maxRecDepth 100000 in
set_option maxHeartbeats 4000000 in
theorem ok_B_foretellRuins (Z : Zt) (d : Nat) : okE Z (d + 6) i_B_foretellRuins e_B_foretellRuins := mk_B_foretellRuins fun o M hp => by
  obtain ⟨rfl, hB, hD, hD2, hH, hT⟩ := hp
  have hL := bk_now hB
  have hL2 := bk_tri hB
  have hcf : ∀ {K : Option Value → Mem → Prop}, pcall e_L_copyFrom [.ref 35, .ref 20] M K = K none (mW M (cfF (mI M) 35 20)) := pc_L_copyFrom (b := 35) (o := 20) (M := M) ⟨⟨hL2, hD2⟩, ⟨hL, hD⟩, by omega⟩
  refine Gm_run (C := C_B_foretellRuins) (S := S_B_foretellRuins) [some (.ref 16), none, none] 1000 kt_B_foretellRuins (okE_cons (ok_L_copyFrom Z (d + 2)) (okE_cons (ok_L_isBankrupt Z (d + 3)) (okE_cons (ok_L_tick Z d) (okE_cons (ok_B_noteRuins Z (d + 2)) okE_nil)))) (ex_n rfl) ?_
  simp (maxSteps := 3000000) (disch := first | exact True.intro | assumption | omega) only [↓eq_self, Option.toList_some, Option.toList_none, List.nil_append, List.cons_append, wsum_0, wsum_1, wsum_2, wsum_3, wsum_4, lkill, ↓reduceIte, if_true, if_false, Bool.false_eq_true, and_true, true_and, and_self, or_self, true_or, or_true, not_true, not_false_iff, mR_stI, mN_stI, isO_stI, isA_stI, mI_stI, mR_mW, mN_mW, isO_mW, isA_mW, mI_mW, mW_mW, stI_mW, vp_0, nI_addL, nI_mulL, nI_subL, nI_ltL, nI_leL, nI_Llt, nI_Lle, nI_eqL, nI_Leq, nI_add, pk_mul, nI_ltI, nI_leI, nI_eq, vpi, nI_clamp, nI_toN, bk_oB hB, bk_oV hB, bk_oH hB, bk_b0 hB, bk_b1 hB, bk_b2 hB, bk_b3 hB, bk_b4 hB, bk_b5 hB, bk_v0 hB, bk_v1 hB, bk_h0 hB, nw_o hB, nw_og hB, nw_od hB, nw_ot hB, nw_r9 hB, nw_r10 hB, nw_r11 hB, nw_r0 hB, nw_r1 hB, nw_r2 hB, nw_r3 hB, nw_r4 hB, nw_r5 hB, nw_r6 hB, nw_r7 hB, nw_r8 hB, nw_a1 hB, nw_a2 hB, nw_a3 hB, nw_a4 hB, nw_a5 hB, nw_a6 hB, nw_a7 hB, nw_a8 hB, nw_a9 hB, nw_a14 hB, nw_as hB, nw_at hB, vR, vT, Nat.not_lt_zero, bv_Tr, bv_Fa, one_n0, eq_self, Nat.zero_le, and_true, true_and, and_false, false_and, not_true, not_false_iff, or_true, true_or, or_false, false_or, mN_mRW, ex_iff, ↓g_B_foretellRuins_0, ↓g_B_foretellRuins_11, ↓g_B_foretellRuins_15, ↓g_B_foretellRuins_21, ↓g_B_foretellRuins_34, ↓g_B_foretellRuins_37, ↓g_B_foretellRuins_41, ↓g_B_foretellRuins_43, ↓g_B_foretellRuins_55, ↓g_B_foretellRuins_66, ↓g_B_foretellRuins_69, ↓g_B_foretellRuins_75, ↓g_B_foretellRuins_77, ↓g_B_foretellRuins_84, ↓g_B_foretellRuins_88, ↓g_B_foretellRuins_95, ↓g_B_foretellRuins_101, ↓g_B_foretellRuins_109, bk_b2 hB, hcf]
  have := lp_B_foretell1 Z d (f := cfF (mI M) 35 20) hB (cfF_D hD) 6 0 rfl
  rw [fr1_0] at this
  exact this
noncomputable def ruR (f : Nat → Nat → Int32) (t : Int32) : Int32 := if vT f t then frF f 173 t.toNatClampNeg else -1000000
noncomputable def ruM (M : Mem) (t : Int32) : Mem := if vT (mI M) t then mW M (frF (mI M)) else M
def e_B_ruin : Ent := (fun av M => ∃ (o : Nat) (t : Int32), av = [.ref o, .int t] ∧ (o = 16 ∧ WB M), fun av M r_ M_ => ∀ (o : Nat) (t : Int32), av = [.ref o, .int t] → r_ = (some (.int (ruR (mI M) t))) ∧ M_ = (ruM M t))
theorem pc_B_ruin {o : Nat} {t : Int32} {M : Mem} {K : Option Value → Mem → Prop} (hp : o = 16 ∧ WB M) : pcall e_B_ruin [.ref o, .int t] M K = K (some (.int (ruR (mI M) t))) (ruM M t) := propext ⟨fun h => h.2 _ _ (fun o' t' e => by simp only [List.cons.injEq, Value.ref.injEq, Value.int.injEq, Value.long.injEq, and_true] at e; obtain ⟨q0, q1⟩ := e; obtain rfl := q0; obtain rfl := q1; exact ⟨rfl, rfl⟩), fun h => ⟨⟨o, t, rfl, hp⟩, fun r_ M_ q => by obtain ⟨rfl, rfl⟩ := q _ _ rfl; exact h⟩⟩
theorem mk_B_ruin {Z : Zt} {d : Nat} (h : ∀ (o : Nat) (t : Int32) (M : Mem), (o = 16 ∧ WB M) → Gm Z d s_B_ruin [.ref o, .int t] M (ex (some (.int (ruR (mI M) t))) (ruM M t))) : okE Z d i_B_ruin e_B_ruin := by
  rintro av M ⟨o, t, rfl, hp⟩
  exact Gm.cons (h o t M  hp) (fun r_ M_ q o' t' e => by simp only [List.cons.injEq, Value.ref.injEq, Value.int.injEq, Value.long.injEq, and_true] at e; obtain ⟨q0, q1⟩ := e; obtain rfl := q0; obtain rfl := q1; exact q)
def C_B_ruin : List (Nat × Ent) := [(i_L_hasTenant, e_L_hasTenant), (i_B_foretellRuins, e_B_foretellRuins)]
abbrev S_B_ruin : List Nat := []
def t_B_ruin_18 : List PI := (18, 1, 1, 0, 0, 0, []) :: (19, 8, 1, 4, 5, 0, [37]) :: (22, 1, 0, 1, 0, 0, []) :: (23, 8, 4, 0, 0, 0, []) :: (24, 9, 0, 0, 0, 0, []) :: []
def t_B_ruin_14 : List PI := (14, 1, 1, 0, 0, 0, []) :: (15, 11, 0, 4, 92, 0, [216, 1]) :: t_B_ruin_18
def t_B_ruin_11 : List PI := (11, 0, 0, 44, 3, -1000000, []) :: (13, 9, 0, 0, 0, 0, []) :: t_B_ruin_14
def t_B_ruin_8 : List PI := (8, 5, 1, 14, 0, 0, []) :: t_B_ruin_11
def t_B_ruin_0 : List PI := (0, 1, 1, 0, 0, 0, []) :: (1, 8, 1, 4, 1, 0, [19]) :: (4, 1, 0, 1, 0, 0, []) :: (5, 11, 0, 2, 19, 0, [84, 2]) :: t_B_ruin_8
theorem kt_B_ruin : okP s_B_ruin t_B_ruin_0 := k_B_ruin
theorem g_B_ruin_0 {Z : Zt} {nF f : Nat} {Kx : Nat → Kt} {Q : Option Value → Mem → Prop} {M : Mem} {x1 : Nat} {x2 : Int32} : run Z nF C_B_ruin S_B_ruin Kx Q (f + 4) t_B_ruin_0 [some (.ref (x1)), some (.int (x2))] [] M = (isO (M) (x1) 4 ∧ ((isO (M) (mR (M) (x1) 1) 2) ∧ wsum [] ≤ 8) ∧ pcall e_L_hasTenant [.ref (mR (M) (x1) 1), .int (x2)] (M) (fun v M_ => run Z nF C_B_ruin S_B_ruin Kx Q f t_B_ruin_8 [some (.ref (x1)), some (.int (x2))] (v.toList ++ []) M_)) := rfl
theorem g_B_ruin_8 {Z : Zt} {nF f : Nat} {Kx : Nat → Kt} {Q : Option Value → Mem → Prop} {M : Mem} {x1 : Nat} {x2 : Int32} {x3 : Int32} : run Z nF C_B_ruin S_B_ruin Kx Q (f + 1) t_B_ruin_8 [some (.ref (x1)), some (.int (x2))] [.int (x3)] M = ((if (x3) = 0 then run Z nF C_B_ruin S_B_ruin Kx Q f t_B_ruin_11 [some (.ref (x1)), some (.int (x2))] [] (M) else run Z nF C_B_ruin S_B_ruin Kx Q f t_B_ruin_14 [some (.ref (x1)), some (.int (x2))] [] (M))) := rfl
theorem g_B_ruin_11 {Z : Zt} {nF f : Nat} {Kx : Nat → Kt} {Q : Option Value → Mem → Prop} {M : Mem} {x1 : Nat} {x2 : Int32} : run Z nF C_B_ruin S_B_ruin Kx Q (f + 2) t_B_ruin_11 [some (.ref (x1)), some (.int (x2))] [] M = (Q (some (.int ((-1000000 : Int32)))) (M)) := rfl
theorem g_B_ruin_14 {Z : Zt} {nF f : Nat} {Kx : Nat → Kt} {Q : Option Value → Mem → Prop} {M : Mem} {x1 : Nat} {x2 : Int32} : run Z nF C_B_ruin S_B_ruin Kx Q (f + 2) t_B_ruin_14 [some (.ref (x1)), some (.int (x2))] [] M = (((isO (M) (x1) 4) ∧ wsum [] ≤ 8) ∧ pcall e_B_foretellRuins [.ref (x1)] (M) (fun v M_ => run Z nF C_B_ruin S_B_ruin Kx Q f t_B_ruin_18 [some (.ref (x1)), some (.int (x2))] (v.toList ++ []) M_)) := rfl
theorem g_B_ruin_18 {Z : Zt} {nF f : Nat} {Kx : Nat → Kt} {Q : Option Value → Mem → Prop} {M : Mem} {x1 : Nat} {x2 : Int32} : run Z nF C_B_ruin S_B_ruin Kx Q (f + 5) t_B_ruin_18 [some (.ref (x1)), some (.int (x2))] [] M = (isO (M) (x1) 4 ∧ isA (M) (mR (M) (x1) 5) (x2) ∧ Q (some (.int (mI (M) (mR (M) (x1) 5) (Int32.toNatClampNeg (x2))))) (M)) := rfl
set_option maxRecDepth 100000 in
set_option maxHeartbeats 4000000 in
theorem ok_B_ruin (Z : Zt) (d : Nat) : okE Z (d + 7) i_B_ruin e_B_ruin := mk_B_ruin fun o t M hp => by
  obtain ⟨rfl, hW⟩ := hp
  obtain ⟨hB, hD, hD2, hH, hT⟩ := id hW
  have hL := bk_now hB
  have hfr : ∀ {K : Option Value → Mem → Prop}, pcall e_B_foretellRuins [.ref 16] M K = K none (mW M (frF (mI M))) := pc_B_foretellRuins (o := 16) (M := M) ⟨rfl, hW⟩
  by_cases hv : 0 ≤ t ∧ t < nI (lnT (mI M) 20)
  · rw [show ruR (mI M) t = _ from if_pos hv, show ruM M t = _ from if_pos hv]
    obtain ⟨k, rfl, hk, hk6⟩ := vT_nI hD hv
    have h6 : lnT (mI M) 20 ≤ 6 := hD.2.2.2.2.2.1
    rw [nI_toN (show k < 2 ^ 31 by omega)]
    refine Gm_run (C := C_B_ruin) (S := S_B_ruin) [some (.ref 16), some (.int (nI k))] 1000 kt_B_ruin (okE_cons (ok_L_hasTenant Z (d + 5)) (okE_cons (ok_B_foretellRuins Z d) okE_nil)) (ex_n rfl) ?_
    simp (maxSteps := 3000000) (disch := first | exact True.intro | assumption | omega) only [↓eq_self, Option.toList_some, Option.toList_none, List.nil_append, List.cons_append, wsum_0, wsum_1, wsum_2, wsum_3, wsum_4, lkill, ↓reduceIte, if_true, if_false, Bool.false_eq_true, and_true, true_and, and_self, or_self, true_or, or_true, not_true, not_false_iff, mR_stI, mN_stI, isO_stI, isA_stI, mI_stI, mR_mW, mN_mW, isO_mW, isA_mW, mI_mW, mW_mW, stI_mW, vp_0, nI_addL, nI_mulL, nI_subL, nI_ltL, nI_leL, nI_Llt, nI_Lle, nI_eqL, nI_Leq, nI_add, pk_mul, nI_ltI, nI_leI, nI_eq, vpi, nI_clamp, nI_toN, bk_oB hB, bk_oV hB, bk_oH hB, bk_b0 hB, bk_b1 hB, bk_b2 hB, bk_b3 hB, bk_b4 hB, bk_b5 hB, bk_v0 hB, bk_v1 hB, bk_h0 hB, nw_o hB, nw_og hB, nw_od hB, nw_ot hB, nw_r9 hB, nw_r10 hB, nw_r11 hB, nw_r0 hB, nw_r1 hB, nw_r2 hB, nw_r3 hB, nw_r4 hB, nw_r5 hB, nw_r6 hB, nw_r7 hB, nw_r8 hB, nw_a1 hB, nw_a2 hB, nw_a3 hB, nw_a4 hB, nw_a5 hB, nw_a6 hB, nw_a7 hB, nw_a8 hB, nw_a9 hB, nw_a14 hB, nw_as hB, nw_at hB, vR, vT, Nat.not_lt_zero, bv_Tr, bv_Fa, one_n0, eq_self, Nat.zero_le, and_true, true_and, and_false, false_and, not_true, not_false_iff, or_true, true_or, or_false, false_or, mN_mRW, ex_iff, ↓g_B_ruin_0, ↓g_B_ruin_8, ↓g_B_ruin_11, ↓g_B_ruin_14, ↓g_B_ruin_18, pc_L_hasTenant (b := 20) (M := M) ⟨hL, hD⟩, hk, hk6, hfr]
  · rw [show ruR (mI M) t = _ from if_neg hv, show ruM M t = _ from if_neg hv]
    refine Gm_run (C := C_B_ruin) (S := S_B_ruin) [some (.ref 16), some (.int t)] 1000 kt_B_ruin (okE_cons (ok_L_hasTenant Z (d + 5)) (okE_cons (ok_B_foretellRuins Z d) okE_nil)) (ex_n rfl) ?_
    simp (maxSteps := 3000000) (disch := first | exact True.intro | assumption | omega) only [↓eq_self, Option.toList_some, Option.toList_none, List.nil_append, List.cons_append, wsum_0, wsum_1, wsum_2, wsum_3, wsum_4, lkill, ↓reduceIte, if_true, if_false, Bool.false_eq_true, and_true, true_and, and_self, or_self, true_or, or_true, not_true, not_false_iff, mR_stI, mN_stI, isO_stI, isA_stI, mI_stI, mR_mW, mN_mW, isO_mW, isA_mW, mI_mW, mW_mW, stI_mW, vp_0, nI_addL, nI_mulL, nI_subL, nI_ltL, nI_leL, nI_Llt, nI_Lle, nI_eqL, nI_Leq, nI_add, pk_mul, nI_ltI, nI_leI, nI_eq, vpi, nI_clamp, nI_toN, bk_oB hB, bk_oV hB, bk_oH hB, bk_b0 hB, bk_b1 hB, bk_b2 hB, bk_b3 hB, bk_b4 hB, bk_b5 hB, bk_v0 hB, bk_v1 hB, bk_h0 hB, nw_o hB, nw_og hB, nw_od hB, nw_ot hB, nw_r9 hB, nw_r10 hB, nw_r11 hB, nw_r0 hB, nw_r1 hB, nw_r2 hB, nw_r3 hB, nw_r4 hB, nw_r5 hB, nw_r6 hB, nw_r7 hB, nw_r8 hB, nw_a1 hB, nw_a2 hB, nw_a3 hB, nw_a4 hB, nw_a5 hB, nw_a6 hB, nw_a7 hB, nw_a8 hB, nw_a9 hB, nw_a14 hB, nw_as hB, nw_at hB, vR, vT, Nat.not_lt_zero, bv_Tr, bv_Fa, one_n0, eq_self, Nat.zero_le, and_true, true_and, and_false, false_and, not_true, not_false_iff, or_true, true_or, or_false, false_or, mN_mRW, ex_iff, ↓g_B_ruin_0, ↓g_B_ruin_8, ↓g_B_ruin_11, ↓g_B_ruin_14, ↓g_B_ruin_18, pc_L_hasTenant (b := 20) (M := M) ⟨hL, hD⟩, hv]
