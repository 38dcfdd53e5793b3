/-! text, history -/
def LedZ (f : Nat → Nat → Int32) (b : Nat) : Prop := ∀ x y, b ≤ x → x < b + 15 → f x y = if x = b + 6 ∧ y < 6 then -1000003 else if x = b ∧ y = 15 then 3 else 0
def LedR (M : Mem) (b : Nat) : Prop := (∀ j, j < 9 → mR M b j = b + 1 + j) ∧ mR M b 9 = b + 10 ∧ mR M b 10 = b + 12 ∧ mR M b 11 = b + 14 ∧ mR M (b + 10) 0 = b + 11 ∧ mR M (b + 10) 1 = 40 ∧ mR M (b + 12) 0 = b + 13 ∧ mR M (b + 12) 1 = 24
theorem LedS_of {M : Mem} {b : Nat} (h : LedR M b) (hK : LdK b) (hn : b + 14 < mN M) : LedS M b := ⟨hn, hK.2, h.1, h.2.1, h.2.2.1, h.2.2.2.1, h.2.2.2.2.1, h.2.2.2.2.2.1, h.2.2.2.2.2.2.1, h.2.2.2.2.2.2.2⟩
theorem LedZ_cg {f g : Nat → Nat → Int32} {b : Nat} (h : LedZ f b) (e : ∀ x y, b ≤ x → x < b + 15 → g x y = f x y) : LedZ g b := fun x y h1 h2 => by rw [e x y h1 h2, h x y h1 h2]
theorem LedR_cg {M M' : Mem} {b : Nat} (h : LedR M b) (e : ∀ x y, b ≤ x → x < b + 15 → mR M' x y = mR M x y) : LedR M' b := ⟨fun j hj => by rw [e _ _ (by omega) (by omega), h.1 j hj], by rw [e _ _ (by omega) (by omega), h.2.1], by rw [e _ _ (by omega) (by omega), h.2.2.1], by rw [e _ _ (by omega) (by omega), h.2.2.2.1], by rw [e _ _ (by omega) (by omega), h.2.2.2.2.1], by rw [e _ _ (by omega) (by omega), h.2.2.2.2.2.1], by rw [e _ _ (by omega) (by omega), h.2.2.2.2.2.2.1], by rw [e _ _ (by omega) (by omega), h.2.2.2.2.2.2.2]⟩
/-- what stays behind a call that makes cells from b on -/
def Stay (M0 M : Mem) (b : Nat) : Prop := (∀ x y, x < b → mI M x y = mI M0 x y) ∧ (∀ x y, x < b → mR M x y = mR M0 x y)
theorem LQ_use {M0 M : Mem} {b : Nat} {r : Option Value} (h : LQ M0 b r M) (hz : ∀ y, mI M0 b y = 0) : r = none ∧ mN M = b + 15 ∧ LedZ (mI M) b ∧ LedR M b ∧ Stay M0 M b := by
  obtain ⟨rfl, N, hN, rfl⟩ := h
  obtain ⟨h1, h2, h3, h4, h5⟩ := hN
  refine ⟨rfl, h1, fun x y q1 q2 => ?_, h5, fun x y q => ?_, fun x y q => h4 x y q⟩
  · rw [mI_mW]
    unfold rnI
    by_cases q : x = b + 6 ∧ y < 6
    · rw [if_pos q, if_pos q]
    · rw [if_neg q, if_neg q]
      by_cases q3 : x = b
      · rw [h2 x y (by omega), q3, hz]
      · rw [h3 x y (by omega) q2, if_neg (fun z => q3 z.1)]
  · rw [mI_mW]
    unfold rnI
    rw [if_neg (by omega), h2 x y (by omega), if_neg (by omega)]
def V_new (M : Mem) : Mem := stR (al (stR (al M) 17 0 18)) 17 1 19
def C_V_init : List (Nat × Ent) := []
abbrev S_V_init : List Nat := []
def t_V_init_12 : List PI := (12, 1, 1, 0, 0, 0, []) :: (13, 0, 0, 0, 0, 4, []) :: (14, 10, 7, 0, 0, 0, []) :: (16, 10, 1, 3, 1, 0, [15]) :: (19, 9, 5, 0, 0, 0, []) :: []
def t_V_init_0 : List PI := (0, 1, 1, 0, 0, 0, []) :: (1, 12, 3, 0, 0, 0, [3]) :: (4, 1, 1, 0, 0, 0, []) :: (5, 0, 0, 0, 1, 60, []) :: (7, 10, 7, 0, 0, 0, []) :: (9, 10, 1, 3, 0, 0, [9]) :: t_V_init_12
theorem kt_V_init : okP s_V_init t_V_init_0 := k_V_init
theorem g_V_init_0 {Z : Zt} {nF f : Nat} {Kx : Nat → Kt} {Q : Option Value → Mem → Prop} {M : Mem} {x1 : Nat} : run Z nF C_V_init S_V_init Kx Q (f + 6) t_V_init_0 [some (.ref (x1))] [] M = ((16 ≤ (x1) ∧ wsum [] ≤ 8) ∧ ∃ n1 : Nat, (((60 : Int32)) = nI n1 ∧ kd (mN (M)) = (1, n1) ∧ n1 < 100000 ∧ mN (M) + 1 ≤ nF) ∧ isO (al (M)) (x1) 3 ∧ run Z nF C_V_init S_V_init Kx Q f t_V_init_12 [some (.ref (x1))] [] (stR (al (M)) (x1) 0 (mN (M)))) := rfl
theorem g_V_init_12 {Z : Zt} {nF f : Nat} {Kx : Nat → Kt} {Q : Option Value → Mem → Prop} {M : Mem} {x1 : Nat} : run Z nF C_V_init S_V_init Kx Q (f + 5) t_V_init_12 [some (.ref (x1))] [] M = (∃ n1 : Nat, (((4 : Int32)) = nI n1 ∧ kd (mN (M)) = (1, n1) ∧ n1 < 100000 ∧ mN (M) + 1 ≤ nF) ∧ isO (al (M)) (x1) 3 ∧ Q none (stR (al (M)) (x1) 1 (mN (M)))) := rfl
set_option maxRecDepth 100000 in
set_option maxHeartbeats 4000000 in
theorem ok_V_init_ (Z : Zt) (d : Nat) {M : Mem} (hn : mN M = 18) : GmA Z (d + 1) s_V_init [.ref 17] M 20 (ex none (V_new M)) := by
  have ho : isO M 17 3 := ⟨by omega, by rfl, by rfl⟩
  have ho1 : isO (al M) 17 3 := isO_N ho (by rw [mN_al]; omega)
  have ho2 : isO (al (stR (al M) 17 0 18)) 17 3 := isO_N ho (by rw [mN_al, mN_stR, mN_al]; omega)
  refine Gm_mk (C := C_V_init) (S := S_V_init) [some (.ref 17)] 1000 kt_V_init okE_nil (fun r M' q => by rw [q.2]; unfold V_new; rw [mN_stR, mN_al, mN_stR, mN_al, hn]) (by omega) ?_
  simp (maxSteps := 3000000) (disch := first | exact True.intro | assumption | omega) only [↓eq_self, Option.toList_some, Option.toList_none, List.nil_append, List.cons_append, wsum_0, wsum_1, wsum_2, wsum_3, wsum_4, lkill, ↓reduceIte, if_true, if_false, Bool.false_eq_true, and_true, true_and, and_self, or_self, true_or, or_true, not_true, not_false_iff, mR_stI, mN_stI, isO_stI, isA_stI, mI_stI, mR_mW, mN_mW, isO_mW, isA_mW, mI_mW, mW_mW, stI_mW, vp_0, nI_addL, nI_mulL, nI_subL, nI_ltL, nI_leL, nI_Llt, nI_Lle, nI_eqL, nI_Leq, nI_add, pk_mul, nI_ltI, nI_leI, nI_eq, vpi, nI_clamp, nI_toN, ↓g_V_init_0, ↓g_V_init_12, hn, mN_al, mN_stR, ho1, (show (17 : Nat) = 17 from rfl)]
  refine ⟨by omega, 60, ⟨rfl, rfl, by omega, by omega⟩, 4, ⟨rfl, rfl, by omega, by omega⟩, ho2, rfl, rfl⟩
def C_H_init : List (Nat × Ent) := []
abbrev S_H_init : List Nat := [15, 30, 33]
def t_H_init_40 : List PI := (40, 9, 5, 0, 0, 0, []) :: []
def t_H_init_33 : List PI := (33, 10, 5, 0, 0, 0, []) :: (34, 1, 6, 1, 0, 1, []) :: (37, 6, 0, 15, 0, 0, []) :: t_H_init_40
def t_H_init_30 : List PI := (30, 11, 4, 0, 12, 0, [17, 1]) :: t_H_init_33
def t_H_init_21 : List PI := (21, 1, 1, 0, 0, 0, []) :: (22, 8, 1, 1, 0, 0, [11]) :: (25, 1, 0, 1, 0, 0, []) :: (26, 10, 6, 2, 0, 0, [9]) :: (29, 7, 0, 0, 0, 0, []) :: t_H_init_30
def t_H_init_15 : List PI := (15, 1, 0, 1, 0, 0, []) :: (16, 0, 0, 0, 1, 8, []) :: (18, 4, 3, 40, 0, 0, []) :: t_H_init_21
def t_H_init_13 : List PI := (13, 0, 0, 0, 0, 0, []) :: (14, 1, 3, 1, 0, 0, []) :: t_H_init_15
def t_H_init_0 : List PI := (0, 1, 1, 0, 0, 0, []) :: (1, 12, 3, 0, 0, 0, [3]) :: (4, 1, 1, 0, 0, 0, []) :: (5, 0, 0, 0, 1, 8, []) :: (7, 10, 8, 0, 0, 0, [9]) :: (10, 10, 1, 1, 0, 0, [11]) :: t_H_init_13
theorem kt_H_init : okP s_H_init t_H_init_0 := k_H_init
theorem g_H_init_0 {Z : Zt} {nF f : Nat} {Kx : Nat → Kt} {Q : Option Value → Mem → Prop} {M : Mem} {x1 : Nat} : run Z nF C_H_init S_H_init Kx Q (f + 6) t_H_init_0 [some (.ref (x1)), none] [] M = ((16 ≤ (x1) ∧ wsum [] ≤ 8) ∧ ∃ n1 : Nat, (((8 : Int32)) = nI n1 ∧ kd (mN (M)) = (2, n1) ∧ n1 < 100000 ∧ mN (M) + 1 ≤ nF) ∧ isO (al (M)) (x1) 1 ∧ run Z nF C_H_init S_H_init Kx Q f t_H_init_13 [some (.ref (x1)), none] [] (stR (al (M)) (x1) 0 (mN (M)))) := rfl
theorem g_H_init_13 {Z : Zt} {nF f : Nat} {Kx : Nat → Kt} {Q : Option Value → Mem → Prop} {M : Mem} {x1 : Nat} : run Z nF C_H_init S_H_init Kx Q (f + 2) t_H_init_13 [some (.ref (x1)), none] [] M = (Kx 15 [some (.ref (x1)), some (.int ((0 : Int32)))] [] (M)) := rfl
theorem g_H_init_15 {Z : Zt} {nF f : Nat} {Kx : Nat → Kt} {Q : Option Value → Mem → Prop} {M : Mem} {x1 : Nat} {x2 : Int32} : run Z nF C_H_init S_H_init Kx Q (f + 3) t_H_init_15 [some (.ref (x1)), some (.int (x2))] [] M = ((if ((8 : Int32)) ≤ (x2) then run Z nF C_H_init S_H_init Kx Q f t_H_init_40 [some (.ref (x1)), some (.int (x2))] [] (M) else run Z nF C_H_init S_H_init Kx Q f t_H_init_21 [some (.ref (x1)), some (.int (x2))] [] (M))) := rfl
theorem g_H_init_21 {Z : Zt} {nF f : Nat} {Kx : Nat → Kt} {Q : Option Value → Mem → Prop} {M : Mem} {x1 : Nat} {x2 : Int32} : run Z nF C_H_init S_H_init Kx Q (f + 5) t_H_init_21 [some (.ref (x1)), some (.int (x2))] [] M = (isO (M) (x1) 1 ∧ (kd (mN (M)) = (2 + 3, cW 2) ∧ mN (M) + 1 ≤ nF) ∧ Kx 30 [some (.ref (x1)), some (.int (x2))] [.ref (mN (M)), .ref (mN (M)), .int (x2), .ref (mR (M) (x1) 0)] (al (M))) := rfl
theorem g_H_init_33 {Z : Zt} {nF f : Nat} {Kx : Nat → Kt} {Q : Option Value → Mem → Prop} {M : Mem} {x1 : Nat} {x2 : Int32} {x3 : Nat} {x4 : Int32} {x5 : Nat} : run Z nF C_H_init S_H_init Kx Q (f + 3) t_H_init_33 [some (.ref (x1)), some (.int (x2))] [.ref (x3), .int (x4), .ref (x5)] M = ((((x5) < mN (M) ∧ (kd (x5)).1 = 2 ∧ vp_in (x4) (kd (x5)).2) ∧ isO (M) (x3) 2) ∧ Kx 15 [some (.ref (x1)), some (.int (x2 + (1 : Int32)))] [] (stR (M) (x5) (Int32.toNatClampNeg (x4)) (x3))) := rfl
theorem g_H_init_40 {Z : Zt} {nF f : Nat} {Kx : Nat → Kt} {Q : Option Value → Mem → Prop} {M : Mem} {x1 : Nat} {x2 : Int32} : run Z nF C_H_init S_H_init Kx Q (f + 1) t_H_init_40 [some (.ref (x1)), some (.int (x2))] [] M = (Q none (M)) := rfl
theorem okI_H30 : okI s_H_init (30, 11, 4, 0, 12, 0, [17, 1]) := (show okP s_H_init t_H_init_30 from okP_seek 30 t_H_init_0 kt_H_init).1
def HI (M0 : Mem) (i : Nat) (M : Mem) : Prop := mN M = 52 + 15 * i ∧ (∀ x y, x ≤ 50 → mI M x y = mI M0 x y) ∧ (∀ x y, x < 50 → mR M x y = mR M0 x y) ∧ mR M 50 0 = 51 ∧ (∀ k, k < i → mR M 51 k = 52 + 15 * k) ∧ ∀ k, k < i → LedZ (mI M) (52 + 15 * k) ∧ LedR M (52 + 15 * k)
theorem LdK_h {k : Nat} (hk : k < 8) : LdK (52 + 15 * k) := by
  refine ⟨by omega, fun j hj => ?_⟩
  have : ∀ k, k < 8 → ∀ j, j < 15 → kd (52 + 15 * k + j) = ledK.getD j (0, 0) := by decide
  exact this k hk j hj
set_option maxRecDepth 100000 in
set_option maxHeartbeats 4000000 in
theorem lp_H_init (Z : Zt) (d : Nat) {M0 : Mem} {n0 : Nat} : ∀ n i M, i + n = 8 → HI M0 i M → X Z (d + 3) s_H_init n0 172 (fun r M' => r = none ∧ HI M0 8 M') 15 [some (.ref 50), some (.int (nI i))] [] M := by
  intro n
  induction n with
  | zero =>
    intro i M hi hI
    obtain rfl : i = 8 := by omega
    refine X_runT (C := C_H_init) (S := S_H_init) (T := t_H_init_15) 1000 kt_H_init okE_nil ?_
    simp (maxSteps := 3000000) (disch := first | exact True.intro | assumption | omega) only [↓eq_self, Option.toList_some, Option.toList_none, List.nil_append, List.cons_append, wsum_0, wsum_1, wsum_2, wsum_3, wsum_4, lkill, ↓reduceIte, if_true, if_false, Bool.false_eq_true, and_true, true_and, and_self, or_self, true_or, or_true, not_true, not_false_iff, mR_stI, mN_stI, isO_stI, isA_stI, mI_stI, mR_mW, mN_mW, isO_mW, isA_mW, mI_mW, mW_mW, stI_mW, vp_0, nI_addL, nI_mulL, nI_subL, nI_ltL, nI_leL, nI_Llt, nI_Lle, nI_eqL, nI_Leq, nI_add, pk_mul, nI_ltI, nI_leI, nI_eq, vpi, nI_clamp, nI_toN, ↓g_H_init_15, ↓g_H_init_40]
    rw [if_pos (by omega)]
    exact hI
  | succ n ih =>
    intro i M hi hI
    obtain ⟨h1, h2, h3, h4, h5, h6⟩ := id hI
    have hi8 : i < 8 := by omega
    have hno : ¬ 8 ≤ i := by omega
    have ho : isO M 50 1 := ⟨by omega, by rfl, by rfl⟩
    have hK := LdK_h hi8
    have hk : kd (mN M) = (2 + 3, cW 2) := by rw [h1]; exact LdK_0 hK
    have hle : mN M + 1 ≤ 172 := by omega
    refine X_runT (C := C_H_init) (S := S_H_init) (T := t_H_init_15) 1000 kt_H_init okE_nil ?_
    simp (maxSteps := 3000000) (disch := first | exact True.intro | assumption | omega) only [↓eq_self, Option.toList_some, Option.toList_none, List.nil_append, List.cons_append, wsum_0, wsum_1, wsum_2, wsum_3, wsum_4, lkill, ↓reduceIte, if_true, if_false, Bool.false_eq_true, and_true, true_and, and_self, or_self, true_or, or_true, not_true, not_false_iff, mR_stI, mN_stI, isO_stI, isA_stI, mI_stI, mR_mW, mN_mW, isO_mW, isA_mW, mI_mW, mW_mW, stI_mW, vp_0, nI_addL, nI_mulL, nI_subL, nI_ltL, nI_leL, nI_Llt, nI_Lle, nI_eqL, nI_Leq, nI_add, pk_mul, nI_ltI, nI_leI, nI_eq, vpi, nI_clamp, nI_toN, ↓g_H_init_15, ↓g_H_init_21, hno, ho, h4, hk, hle]
    refine X_mkI (av := []) (rest := [.ref (mN M), .int (nI i), .ref 51]) okI_H30 (by omega) rfl (of_eq_true (wsum_3 _ _ _)) (by rw [h1]; exact ok_L_init_ Z d (M := al M) (b := 52 + 15 * i) hK (by rw [mN_al, h1])) (by omega) (fun r M' hq _ => ?_)
    obtain ⟨rfl, hn, hz, hr, hs1, hs2⟩ := LQ_use hq (fun y => by rw [mI_al, h1, if_pos rfl])
    have ho2 : isO M' (mN M) 2 := ⟨by omega, by rw [hk], by rw [hk]⟩
    have hv : (51 < mN M' ∧ (kd 51).1 = 2 ∧ vp_in (nI i) (kd 51).2) := ⟨by omega, rfl, vp_in_nI hi8 (by decide)⟩
    refine X_runT (C := C_H_init) (S := S_H_init) (T := t_H_init_33) 1000 kt_H_init okE_nil ?_
    simp (maxSteps := 3000000) (disch := first | exact True.intro | assumption | omega) only [↓eq_self, Option.toList_some, Option.toList_none, List.nil_append, List.cons_append, wsum_0, wsum_1, wsum_2, wsum_3, wsum_4, lkill, ↓reduceIte, if_true, if_false, Bool.false_eq_true, and_true, true_and, and_self, or_self, true_or, or_true, not_true, not_false_iff, mR_stI, mN_stI, isO_stI, isA_stI, mI_stI, mR_mW, mN_mW, isO_mW, isA_mW, mI_mW, mW_mW, stI_mW, vp_0, nI_addL, nI_mulL, nI_subL, nI_ltL, nI_leL, nI_Llt, nI_Lle, nI_eqL, nI_Leq, nI_add, pk_mul, nI_ltI, nI_leI, nI_eq, vpi, nI_clamp, nI_toN, ↓g_H_init_33, hv, ho2]
    refine ih (i + 1) _ (by omega) ?_
    refine ⟨by rw [mN_stR, hn]; omega, fun x y hx => ?_, fun x y hx => ?_, ?_, fun k hk => ?_, fun k hk => ?_⟩
    · rw [mI_stR, hs1 x y (by omega), mI_al, if_neg (by omega), h2 x y hx]
    · rw [mR_stR, u2_ne (by omega), hs2 x y (by omega), mR_al, if_neg (by omega), h3 x y hx]
    · rw [mR_stR, u2_ne (by omega), hs2 _ _ (by omega), mR_al, if_neg (by omega), h4]
    · rw [mR_stR, u2_at]
      by_cases q : k = i
      · rw [if_pos ⟨rfl, q⟩, q, h1]
      · rw [if_neg (fun z => q z.2), hs2 _ _ (by omega), mR_al, if_neg (by omega), h5 k (by omega)]
    · by_cases q : k = i
      · rw [q]
        exact ⟨hz, LedR_cg hr (fun x y q1 q2 => by rw [mR_stR, u2_ne (by omega)])⟩
      · have h6k := h6 k (by omega)
        exact ⟨LedZ_cg h6k.1 (fun x y q1 q2 => by rw [mI_stR, hs1 x y (by omega), mI_al, if_neg (by omega)]), LedR_cg h6k.2 (fun x y q1 q2 => by rw [mR_stR, u2_ne (by omega), hs2 x y (by omega), mR_al, if_neg (by omega)])⟩
set_option maxRecDepth 100000 in
set_option maxHeartbeats 4000000 in
theorem ok_H_init_ (Z : Zt) (d : Nat) {M : Mem} (hn : mN M = 51) : GmA Z (d + 3) s_H_init [.ref 50] M 172 (fun r M' => r = none ∧ HI M 8 M') := by
  have ho : isO M 50 1 := ⟨by omega, by rfl, by rfl⟩
  have ho1 : isO (al M) 50 1 := isO_N ho (by rw [mN_al]; omega)
  refine Gm_mk (C := C_H_init) (S := S_H_init) [some (.ref 50), none] 1000 kt_H_init okE_nil (fun r M' q => q.2.1) (by omega) ?_
  simp (maxSteps := 3000000) (disch := first | exact True.intro | assumption | omega) only [↓eq_self, Option.toList_some, Option.toList_none, List.nil_append, List.cons_append, wsum_0, wsum_1, wsum_2, wsum_3, wsum_4, lkill, ↓reduceIte, if_true, if_false, Bool.false_eq_true, and_true, true_and, and_self, or_self, true_or, or_true, not_true, not_false_iff, mR_stI, mN_stI, isO_stI, isA_stI, mI_stI, mR_mW, mN_mW, isO_mW, isA_mW, mI_mW, mW_mW, stI_mW, vp_0, nI_addL, nI_mulL, nI_subL, nI_ltL, nI_leL, nI_Llt, nI_Lle, nI_eqL, nI_Leq, nI_add, pk_mul, nI_ltI, nI_leI, nI_eq, vpi, nI_clamp, nI_toN, ↓g_H_init_0, ↓g_H_init_13, hn, mN_al]
  refine ⟨by omega, 8, ⟨rfl, rfl, by omega, by omega⟩, ho1, ?_⟩
  have := lp_H_init Z d (M0 := M) (n0 := mN M) 8 0 (stR (al M) 50 0 51) rfl ⟨by rw [mN_stR, mN_al, hn], fun x y hx => by rw [mI_stR, mI_al, if_neg (by omega)], fun x y hx => by rw [mR_stR, u2_ne (by omega), mR_al, if_neg (by omega)], by rw [mR_stR, u2_eq], fun k hk => absurd hk (Nat.not_lt_zero _), fun k hk => absurd hk (Nat.not_lt_zero _)⟩
  rw [hn] at this
  exact this
