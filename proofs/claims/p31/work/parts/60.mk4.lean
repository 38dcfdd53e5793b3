theorem okI_L80 : okI s_L_init (80, 11, 4, 0, 0, 0, [41, 2]) := (show okP s_L_init t_L_init_80 from okP_seek 80 t_L_init_0 kt_L_init).1
theorem okI_L93 : okI s_L_init (93, 11, 4, 0, 0, 0, [41, 2]) := (show okP s_L_init t_L_init_93 from okP_seek 93 t_L_init_0 kt_L_init).1
theorem isO_N {M M' : Mem} {i ci : Nat} (h : isO M i ci) (h2 : mN M ≤ mN M') : isO M' i ci := ⟨Nat.lt_of_lt_of_le h.1 h2, h.2⟩
set_option maxRecDepth 100000 in
set_option maxHeartbeats 4000000 in
theorem go_L_init_73 (Z : Zt) (d : Nat) {M0 M : Mem} {b n0 : Nat} {Q : Option Value → Mem → Prop} (hK : LdK b) (hI : LI M0 b 9 M) (hx : X Z (d + 2) s_L_init n0 (b + 15) Q 86 [some (.ref b), none] [] (LM9 M b)) : X Z (d + 2) s_L_init n0 (b + 15) Q 73 [some (.ref b), none] [] M := by
  have ho := LI_o hI (LdK_0 hK)
  have hn : mN M = b + 10 := by rw [hI.1]
  have hk : kd (mN M) = (0 + 3, cW 0) := by rw [hn]; exact hK.2 10 (by omega)
  have hk2 : kd (mN (al M)) = (1, 40 * 6) := by rw [mN_al, hn]; exact hK.2 11 (by omega)
  have hle : mN M + 1 ≤ b + 15 := by omega
  have hcl : isO (al M) (mN M) 0 := ⟨Nat.lt_succ_self _, by rw [hk], by rw [hk]⟩
  refine X_runT (C := C_L_init) (S := S_L_init) (T := t_L_init_73) 1000 kt_L_init okE_nil ?_
  simp (maxSteps := 3000000) (disch := first | exact True.intro | assumption | omega) only [↓eq_self, Option.toList_some, Option.toList_none, List.nil_append, List.cons_append, wsum_0, wsum_1, wsum_2, wsum_3, wsum_4, lkill, ↓reduceIte, if_true, if_false, Bool.false_eq_true, and_true, true_and, and_self, or_self, true_or, or_true, not_true, not_false_iff, mR_stI, mN_stI, isO_stI, isA_stI, mI_stI, mR_mW, mN_mW, isO_mW, isA_mW, mI_mW, mW_mW, stI_mW, vp_0, nI_addL, nI_mulL, nI_subL, nI_ltL, nI_leL, nI_Llt, nI_Lle, nI_eqL, nI_Leq, nI_add, pk_mul, nI_ltI, nI_leI, nI_eq, vpi, nI_clamp, nI_toN, ↓g_L_init_73, hk, hle]
  refine X_mkI (av := [.int (nI 40)]) (rest := [.ref (mN M), .ref b]) okI_L80 (by have := hK.1; omega) rfl (of_eq_true (wsum_2 _ _)) (ok_C_init_ Z d (M := al M) (c := mN M) (n := 40) hcl (by have := hK.1; omega) (by omega) hk2) (by rw [mN_al]; omega) (fun r M' hq _ => ?_)
  obtain ⟨rfl, rfl⟩ := hq
  have ho9 : isO (C_new (al M) (mN M) 40) b 2 := isO_N ho (by rw [C_new_N, mN_al]; omega)
  refine X_runT (C := C_L_init) (S := S_L_init) (T := t_L_init_83) 1000 kt_L_init okE_nil ?_
  simp (maxSteps := 3000000) (disch := first | exact True.intro | assumption | omega) only [↓eq_self, Option.toList_some, Option.toList_none, List.nil_append, List.cons_append, wsum_0, wsum_1, wsum_2, wsum_3, wsum_4, lkill, ↓reduceIte, if_true, if_false, Bool.false_eq_true, and_true, true_and, and_self, or_self, true_or, or_true, not_true, not_false_iff, mR_stI, mN_stI, isO_stI, isA_stI, mI_stI, mR_mW, mN_mW, isO_mW, isA_mW, mI_mW, mW_mW, stI_mW, vp_0, nI_addL, nI_mulL, nI_subL, nI_ltL, nI_leL, nI_Llt, nI_Lle, nI_eqL, nI_Leq, nI_add, pk_mul, nI_ltI, nI_leI, nI_eq, vpi, nI_clamp, nI_toN, ↓g_L_init_83, ho9]
  exact hx
set_option maxRecDepth 100000 in
set_option maxHeartbeats 4000000 in
theorem go_L_init_86 (Z : Zt) (d : Nat) {M : Mem} {b n0 : Nat} {Q : Option Value → Mem → Prop} (hK : LdK b) (hn : mN M = b + 12) (hx : X Z (d + 2) s_L_init n0 (b + 15) Q 99 [some (.ref b), none] [] (LM10 M b)) : X Z (d + 2) s_L_init n0 (b + 15) Q 86 [some (.ref b), none] [] M := by
  have ho : isO M b 2 := ⟨by omega, by rw [LdK_0 hK], by rw [LdK_0 hK]⟩
  have hk : kd (mN M) = (0 + 3, cW 0) := by rw [hn]; exact hK.2 12 (by omega)
  have hk2 : kd (mN (al M)) = (1, 24 * 6) := by rw [mN_al, hn]; exact hK.2 13 (by omega)
  have hle : mN M + 1 ≤ b + 15 := by omega
  have hcl : isO (al M) (mN M) 0 := ⟨Nat.lt_succ_self _, by rw [hk], by rw [hk]⟩
  refine X_runT (C := C_L_init) (S := S_L_init) (T := t_L_init_86) 1000 kt_L_init okE_nil ?_
  simp (maxSteps := 3000000) (disch := first | exact True.intro | assumption | omega) only [↓eq_self, Option.toList_some, Option.toList_none, List.nil_append, List.cons_append, wsum_0, wsum_1, wsum_2, wsum_3, wsum_4, lkill, ↓reduceIte, if_true, if_false, Bool.false_eq_true, and_true, true_and, and_self, or_self, true_or, or_true, not_true, not_false_iff, mR_stI, mN_stI, isO_stI, isA_stI, mI_stI, mR_mW, mN_mW, isO_mW, isA_mW, mI_mW, mW_mW, stI_mW, vp_0, nI_addL, nI_mulL, nI_subL, nI_ltL, nI_leL, nI_Llt, nI_Lle, nI_eqL, nI_Leq, nI_add, pk_mul, nI_ltI, nI_leI, nI_eq, vpi, nI_clamp, nI_toN, ↓g_L_init_86, hk, hle]
  refine X_mkI (av := [.int (nI 24)]) (rest := [.ref (mN M), .ref b]) okI_L93 (by have := hK.1; omega) rfl (of_eq_true (wsum_2 _ _)) (ok_C_init_ Z d (M := al M) (c := mN M) (n := 24) hcl (by have := hK.1; omega) (by omega) hk2) (by rw [mN_al]; omega) (fun r M' hq _ => ?_)
  obtain ⟨rfl, rfl⟩ := hq
  have ho9 : isO (C_new (al M) (mN M) 24) b 2 := isO_N ho (by rw [C_new_N, mN_al]; omega)
  refine X_runT (C := C_L_init) (S := S_L_init) (T := t_L_init_96) 1000 kt_L_init okE_nil ?_
  simp (maxSteps := 3000000) (disch := first | exact True.intro | assumption | omega) only [↓eq_self, Option.toList_some, Option.toList_none, List.nil_append, List.cons_append, wsum_0, wsum_1, wsum_2, wsum_3, wsum_4, lkill, ↓reduceIte, if_true, if_false, Bool.false_eq_true, and_true, true_and, and_self, or_self, true_or, or_true, not_true, not_false_iff, mR_stI, mN_stI, isO_stI, isA_stI, mI_stI, mR_mW, mN_mW, isO_mW, isA_mW, mI_mW, mW_mW, stI_mW, vp_0, nI_addL, nI_mulL, nI_subL, nI_ltL, nI_leL, nI_Llt, nI_Lle, nI_eqL, nI_Leq, nI_add, pk_mul, nI_ltI, nI_leI, nI_eq, vpi, nI_clamp, nI_toN, ↓g_L_init_96, ho9]
  exact hx
def rnI (f : Nat → Nat → Int32) (b i : Nat) : Nat → Nat → Int32 := fun x y => if x = b + 6 ∧ y < i then -1000003 else f x y
theorem rnI_0 (f : Nat → Nat → Int32) (b : Nat) : rnI f b 0 = f := by
  funext x y
  exact if_neg (fun q => absurd q.2 (Nat.not_lt_zero _))
theorem rnI_s (f : Nat → Nat → Int32) (b i : Nat) : u2 (rnI f b i) (b + 6) i (-1000003) = rnI f b (i + 1) := by
  funext x y
  unfold rnI
  rw [u2_at]
  by_cases h : x = b + 6 ∧ y = i
  · rw [if_pos h, if_pos (show x = b + 6 ∧ y < i + 1 by omega)]
  · rw [if_neg h]
    by_cases h2 : x = b + 6 ∧ y < i
    · rw [if_pos h2, if_pos (show x = b + 6 ∧ y < i + 1 by omega)]
    · rw [if_neg h2, if_neg (show ¬ (x = b + 6 ∧ y < i + 1) by omega)]
def LQ (M0 : Mem) (b : Nat) (r : Option Value) (M : Mem) : Prop := r = none ∧ ∃ N, LN M0 b N ∧ M = mW N (rnI (mI N) b 6)
set_option maxRecDepth 100000 in
set_option maxHeartbeats 4000000 in
theorem lp_L_init (Z : Zt) (d : Nat) {M0 N : Mem} {b n0 : Nat} (hK : LdK b) (hN : LN M0 b N) : ∀ n i, i + n = 6 → X Z (d + 2) s_L_init n0 (b + 15) (LQ M0 b) 114 [some (.ref b), some (.int (nI i))] [] (mW N (rnI (mI N) b i)) := by
  have ho : isO N b 2 := ⟨by rw [hN.1]; omega, by rw [LdK_0 hK], by rw [LdK_0 hK]⟩
  have hr : mR N b 5 = b + 6 := by rw [hN.2.2.2.2.1 5 (by omega)]
  intro n
  induction n with
  | zero =>
    intro i hi
    obtain rfl : i = 6 := by omega
    refine X_runT (C := C_L_init) (S := S_L_init) (T := t_L_init_114) 1000 kt_L_init okE_nil ?_
    simp (maxSteps := 3000000) (disch := first | exact True.intro | assumption | omega) only [↓eq_self, Option.toList_some, Option.toList_none, List.nil_append, List.cons_append, wsum_0, wsum_1, wsum_2, wsum_3, wsum_4, lkill, ↓reduceIte, if_true, if_false, Bool.false_eq_true, and_true, true_and, and_self, or_self, true_or, or_true, not_true, not_false_iff, mR_stI, mN_stI, isO_stI, isA_stI, mI_stI, mR_mW, mN_mW, isO_mW, isA_mW, mI_mW, mW_mW, stI_mW, vp_0, nI_addL, nI_mulL, nI_subL, nI_ltL, nI_leL, nI_Llt, nI_Lle, nI_eqL, nI_Leq, nI_add, pk_mul, nI_ltI, nI_leI, nI_eq, vpi, nI_clamp, nI_toN, ↓g_L_init_114, ↓g_L_init_120, ↓g_L_init_134, ho]
    rw [if_pos (by omega)]
    exact ⟨rfl, N, hN, rfl⟩
  | succ n ih =>
    intro i hi
    have h1 : ¬ 6 ≤ i := by omega
    have e6 : kd (b + 6) = (1, 6) := hK.2 6 (by omega)
    have hA : isA N (b + 6) (nI i) := ⟨by rw [hN.1]; omega, by rw [e6], by rw [e6]; exact vp_in_nI (by omega) (by decide)⟩
    refine X_runT (C := C_L_init) (S := S_L_init) (T := t_L_init_114) 1000 kt_L_init okE_nil ?_
    simp (maxSteps := 3000000) (disch := first | exact True.intro | assumption | omega) only [↓eq_self, Option.toList_some, Option.toList_none, List.nil_append, List.cons_append, wsum_0, wsum_1, wsum_2, wsum_3, wsum_4, lkill, ↓reduceIte, if_true, if_false, Bool.false_eq_true, and_true, true_and, and_self, or_self, true_or, or_true, not_true, not_false_iff, mR_stI, mN_stI, isO_stI, isA_stI, mI_stI, mR_mW, mN_mW, isO_mW, isA_mW, mI_mW, mW_mW, stI_mW, vp_0, nI_addL, nI_mulL, nI_subL, nI_ltL, nI_leL, nI_Llt, nI_Lle, nI_eqL, nI_Leq, nI_add, pk_mul, nI_ltI, nI_leI, nI_eq, vpi, nI_clamp, nI_toN, ↓g_L_init_114, ↓g_L_init_120, ho, hr, hA, h1, rnI_s]
    exact ih (i + 1) (by omega)
set_option maxRecDepth 100000 in
set_option maxHeartbeats 4000000 in
theorem ok_L_init_ (Z : Zt) (d : Nat) {M : Mem} {b : Nat} (hK : LdK b) (hn : mN M = b + 1) : GmA Z (d + 2) s_L_init [.ref b] M (b + 15) (LQ M b) := by
  have hI0 : LI M b 0 M := ⟨by rw [hn], fun x y _ => rfl, fun x y h1 h2 => by omega, fun x y _ => (if_neg (by omega)).symm⟩
  have ho := LI_o hI0 (LdK_0 hK)
  have h16 := hK.1
  refine Gm_mk (C := C_L_init) (S := S_L_init) [some (.ref b), none] 1000 kt_L_init okE_nil (fun r M' q => ?_) (by omega) ?_
  · obtain ⟨-, N, hN, rfl⟩ := q
    exact hN.1
  · simp (maxSteps := 3000000) (disch := first | exact True.intro | assumption | omega) only [↓eq_self, Option.toList_some, Option.toList_none, List.nil_append, List.cons_append, wsum_0, wsum_1, wsum_2, wsum_3, wsum_4, lkill, ↓reduceIte, if_true, if_false, Bool.false_eq_true, and_true, true_and, and_self, or_self, true_or, or_true, not_true, not_false_iff, mR_stI, mN_stI, isO_stI, isA_stI, mI_stI, mR_mW, mN_mW, isO_mW, isA_mW, mI_mW, mW_mW, stI_mW, vp_0, nI_addL, nI_mulL, nI_subL, nI_ltL, nI_leL, nI_Llt, nI_Lle, nI_eqL, nI_Leq, nI_add, pk_mul, nI_ltI, nI_leI, nI_eq, vpi, nI_clamp, nI_toN, ↓g_L_init_0, h16]
    refine go_L_init_4 Z d hK hI0 fun M1 h1 => go_L_init_11 Z d hK h1 fun M2 h2 => go_L_init_18 Z d hK h2 fun M3 h3 => go_L_init_25 Z d hK h3 fun M4 h4 => go_L_init_33 Z d hK h4 fun M5 h5 => go_L_init_41 Z d hK h5 fun M6 h6 => go_L_init_49 Z d hK h6 fun M7 h7 => go_L_init_57 Z d hK h7 fun M8 h8 => go_L_init_65 Z d hK h8 fun M9 h9 => ?_
    have n9 : mN (LM9 M9 b) = b + 12 := by unfold LM9; rw [mN_stR, C_new_N, mN_al, h9.1]
    have n10 : mN (LM10 (LM9 M9 b) b) = b + 14 := by unfold LM10; rw [mN_stR, C_new_N, mN_al, n9]
    refine go_L_init_73 Z d hK h9 (go_L_init_86 Z d hK n9 ?_)
    have hLN := LN_of h9
    unfold LM11 at hLN
    have hlp := lp_L_init Z d (n0 := mN M) hK hLN 6 0 rfl
    rw [rnI_0, mW_self] at hlp
    generalize LM10 (LM9 M9 b) b = M10 at *
    have ho10 : isO M10 b 2 := ⟨by omega, by rw [LdK_0 hK], by rw [LdK_0 hK]⟩
    have hk : kd (mN M10) = (1, 6) := by rw [n10]; exact hK.2 14 (by omega)
    refine X_runT (C := C_L_init) (S := S_L_init) (T := t_L_init_99) 1000 kt_L_init okE_nil ?_
    simp (maxSteps := 3000000) (disch := first | exact True.intro | assumption | omega) only [↓eq_self, Option.toList_some, Option.toList_none, List.nil_append, List.cons_append, wsum_0, wsum_1, wsum_2, wsum_3, wsum_4, lkill, ↓reduceIte, if_true, if_false, Bool.false_eq_true, and_true, true_and, and_self, or_self, true_or, or_true, not_true, not_false_iff, mR_stI, mN_stI, isO_stI, isA_stI, mI_stI, mR_mW, mN_mW, isO_mW, isA_mW, mI_mW, mW_mW, stI_mW, vp_0, nI_addL, nI_mulL, nI_subL, nI_ltL, nI_leL, nI_Llt, nI_Lle, nI_eqL, nI_Leq, nI_add, pk_mul, nI_ltI, nI_leI, nI_eq, vpi, nI_clamp, nI_toN, ↓g_L_init_99, ↓g_L_init_107, isO_stR]
    exact ⟨6, ⟨rfl, hk, by omega, by omega⟩, of_eq_true (isO_al ho10), of_eq_true (isO_al ho10), hlp⟩
