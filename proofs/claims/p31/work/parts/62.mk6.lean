/-! bank -/
def C_B_init : List (Nat × Ent) := []
abbrev S_B_init : List Nat := [9, 12, 20, 23, 31, 34, 42, 45]
def t_B_init_61 : List PI := (61, 10, 1, 4, 5, 0, [37]) :: (64, 9, 5, 0, 0, 0, []) :: []
def t_B_init_53 : List PI := (53, 10, 1, 4, 4, 0, [33]) :: (56, 1, 1, 0, 0, 0, []) :: (57, 0, 0, 0, 1, 6, []) :: (59, 10, 7, 0, 0, 0, []) :: t_B_init_61
def t_B_init_45 : List PI := (45, 10, 1, 4, 3, 0, [29]) :: (48, 1, 1, 0, 0, 0, []) :: (49, 0, 0, 0, 1, 24, []) :: (51, 10, 7, 0, 0, 0, []) :: t_B_init_53
def t_B_init_42 : List PI := (42, 11, 4, 0, 13, 0, [28, 1]) :: t_B_init_45
def t_B_init_34 : List PI := (34, 10, 1, 4, 2, 0, [23]) :: (37, 1, 1, 0, 0, 0, []) :: (38, 10, 6, 1, 0, 0, [26]) :: (41, 7, 0, 0, 0, 0, []) :: t_B_init_42
def t_B_init_31 : List PI := (31, 11, 4, 0, 12, 0, [18, 1]) :: t_B_init_34
def t_B_init_23 : List PI := (23, 10, 1, 4, 1, 0, [19]) :: (26, 1, 1, 0, 0, 0, []) :: (27, 10, 6, 2, 0, 0, [16]) :: (30, 7, 0, 0, 0, 0, []) :: t_B_init_31
def t_B_init_20 : List PI := (20, 11, 4, 0, 12, 0, [18, 1]) :: t_B_init_23
def t_B_init_12 : List PI := (12, 10, 1, 4, 0, 0, [10]) :: (15, 1, 1, 0, 0, 0, []) :: (16, 10, 6, 2, 0, 0, [16]) :: (19, 7, 0, 0, 0, 0, []) :: t_B_init_20
def t_B_init_9 : List PI := (9, 11, 5, 0, 33, 0, [9, 1, 0]) :: t_B_init_12
def t_B_init_0 : List PI := (0, 1, 1, 0, 0, 0, []) :: (1, 12, 3, 0, 0, 0, [1]) :: (4, 1, 1, 0, 0, 0, []) :: (5, 10, 6, 3, 0, 0, [7]) :: (8, 7, 0, 0, 0, 0, []) :: t_B_init_9
theorem kt_B_init : okP s_B_init t_B_init_0 := k_B_init
theorem g_B_init_0 {Z : Zt} {nF f : Nat} {Kx : Nat → Kt} {Q : Option Value → Mem → Prop} {M : Mem} {x1 : Nat} : run Z nF C_B_init S_B_init Kx Q (f + 5) t_B_init_0 [some (.ref (x1))] [] M = ((16 ≤ (x1) ∧ wsum [] ≤ 8) ∧ (kd (mN (M)) = (3 + 3, cW 3) ∧ mN (M) + 1 ≤ nF) ∧ Kx 9 [some (.ref (x1))] [.ref (mN (M)), .ref (mN (M)), .ref (x1)] (al (M))) := rfl
theorem g_B_init_12 {Z : Zt} {nF f : Nat} {Kx : Nat → Kt} {Q : Option Value → Mem → Prop} {M : Mem} {x1 : Nat} {x2 : Nat} {x3 : Nat} : run Z nF C_B_init S_B_init Kx Q (f + 4) t_B_init_12 [some (.ref (x1))] [.ref (x2), .ref (x3)] M = (isO (M) (x3) 4 ∧ (kd (mN (stR (M) (x3) 0 (x2))) = (2 + 3, cW 2) ∧ mN (stR (M) (x3) 0 (x2)) + 1 ≤ nF) ∧ Kx 20 [some (.ref (x1))] [.ref (mN (stR (M) (x3) 0 (x2))), .ref (mN (stR (M) (x3) 0 (x2))), .ref (x1)] (al (stR (M) (x3) 0 (x2)))) := rfl
theorem g_B_init_23 {Z : Zt} {nF f : Nat} {Kx : Nat → Kt} {Q : Option Value → Mem → Prop} {M : Mem} {x1 : Nat} {x2 : Nat} {x3 : Nat} : run Z nF C_B_init S_B_init Kx Q (f + 4) t_B_init_23 [some (.ref (x1))] [.ref (x2), .ref (x3)] M = (isO (M) (x3) 4 ∧ (kd (mN (stR (M) (x3) 1 (x2))) = (2 + 3, cW 2) ∧ mN (stR (M) (x3) 1 (x2)) + 1 ≤ nF) ∧ Kx 31 [some (.ref (x1))] [.ref (mN (stR (M) (x3) 1 (x2))), .ref (mN (stR (M) (x3) 1 (x2))), .ref (x1)] (al (stR (M) (x3) 1 (x2)))) := rfl
theorem g_B_init_34 {Z : Zt} {nF f : Nat} {Kx : Nat → Kt} {Q : Option Value → Mem → Prop} {M : Mem} {x1 : Nat} {x2 : Nat} {x3 : Nat} : run Z nF C_B_init S_B_init Kx Q (f + 4) t_B_init_34 [some (.ref (x1))] [.ref (x2), .ref (x3)] M = (isO (M) (x3) 4 ∧ (kd (mN (stR (M) (x3) 2 (x2))) = (1 + 3, cW 1) ∧ mN (stR (M) (x3) 2 (x2)) + 1 ≤ nF) ∧ Kx 42 [some (.ref (x1))] [.ref (mN (stR (M) (x3) 2 (x2))), .ref (mN (stR (M) (x3) 2 (x2))), .ref (x1)] (al (stR (M) (x3) 2 (x2)))) := rfl
theorem g_B_init_45 {Z : Zt} {nF f : Nat} {Kx : Nat → Kt} {Q : Option Value → Mem → Prop} {M : Mem} {x1 : Nat} {x2 : Nat} {x3 : Nat} : run Z nF C_B_init S_B_init Kx Q (f + 4) t_B_init_45 [some (.ref (x1))] [.ref (x2), .ref (x3)] M = (isO (M) (x3) 4 ∧ ∃ n1 : Nat, (((24 : Int32)) = nI n1 ∧ kd (mN (stR (M) (x3) 3 (x2))) = (1, n1) ∧ n1 < 100000 ∧ mN (stR (M) (x3) 3 (x2)) + 1 ≤ nF) ∧ run Z nF C_B_init S_B_init Kx Q f t_B_init_53 [some (.ref (x1))] [.ref (mN (stR (M) (x3) 3 (x2))), .ref (x1)] (al (stR (M) (x3) 3 (x2)))) := rfl
theorem g_B_init_53 {Z : Zt} {nF f : Nat} {Kx : Nat → Kt} {Q : Option Value → Mem → Prop} {M : Mem} {x1 : Nat} {x2 : Nat} {x3 : Nat} : run Z nF C_B_init S_B_init Kx Q (f + 4) t_B_init_53 [some (.ref (x1))] [.ref (x2), .ref (x3)] M = (isO (M) (x3) 4 ∧ ∃ n1 : Nat, (((6 : Int32)) = nI n1 ∧ kd (mN (stR (M) (x3) 4 (x2))) = (1, n1) ∧ n1 < 100000 ∧ mN (stR (M) (x3) 4 (x2)) + 1 ≤ nF) ∧ run Z nF C_B_init S_B_init Kx Q f t_B_init_61 [some (.ref (x1))] [.ref (mN (stR (M) (x3) 4 (x2))), .ref (x1)] (al (stR (M) (x3) 4 (x2)))) := rfl
theorem g_B_init_61 {Z : Zt} {nF f : Nat} {Kx : Nat → Kt} {Q : Option Value → Mem → Prop} {M : Mem} {x1 : Nat} {x2 : Nat} {x3 : Nat} : run Z nF C_B_init S_B_init Kx Q (f + 2) t_B_init_61 [some (.ref (x1))] [.ref (x2), .ref (x3)] M = (isO (M) (x3) 4 ∧ Q none (stR (M) (x3) 5 (x2))) := rfl
theorem u2_nn {α : Type} {f : Nat → Nat → α} {a k x y : Nat} {v : α} (h : ¬ (x = a ∧ y = k)) : u2 f a k v x y = f x y := by rw [u2_at, if_neg h]
theorem okI_B9 : okI s_B_init (9, 11, 5, 0, 33, 0, [9, 1, 0]) := (show okP s_B_init t_B_init_9 from okP_seek 9 t_B_init_0 kt_B_init).1
theorem okI_B20 : okI s_B_init (20, 11, 4, 0, 12, 0, [18, 1]) := (show okP s_B_init t_B_init_20 from okP_seek 20 t_B_init_0 kt_B_init).1
theorem okI_B31 : okI s_B_init (31, 11, 4, 0, 12, 0, [18, 1]) := (show okP s_B_init t_B_init_31 from okP_seek 31 t_B_init_0 kt_B_init).1
theorem okI_B42 : okI s_B_init (42, 11, 4, 0, 13, 0, [28, 1]) := (show okP s_B_init t_B_init_42 from okP_seek 42 t_B_init_0 kt_B_init).1
def B1 (M : Mem) : Prop := (∀ x y, 16 ≤ x → x < 20 → mI M x y = 0) ∧ mR M 17 0 = 18 ∧ mR M 17 1 = 19
def B2 (M : Mem) : Prop := B1 M ∧ mR M 16 0 = 17 ∧ LedZ (mI M) 20 ∧ LedR M 20
def B3 (M : Mem) : Prop := B2 M ∧ mR M 16 1 = 20 ∧ LedZ (mI M) 35 ∧ LedR M 35
def B4 (M : Mem) : Prop := B3 M ∧ mR M 16 2 = 35 ∧ (∀ y, mI M 50 y = 0) ∧ mR M 50 0 = 51 ∧ (∀ k, k < 8 → mR M 51 k = 52 + 15 * k) ∧ ∀ k, k < 8 → LedZ (mI M) (52 + 15 * k) ∧ LedR M (52 + 15 * k)
def BQ (M : Mem) : Prop := B4 M ∧ mN M = 174 ∧ mR M 16 3 = 50 ∧ mR M 16 4 = 172 ∧ mR M 16 5 = 173 ∧ ∀ x y, 172 ≤ x → x < 174 → mI M x y = 0
theorem B1_cg {M M' : Mem} (h : B1 M) (hi : ∀ x y, 16 ≤ x → x < 20 → mI M' x y = mI M x y) (hr : ∀ x y, 16 < x → x < 20 → mR M' x y = mR M x y) : B1 M' := ⟨fun x y q1 q2 => by rw [hi x y q1 q2, h.1 x y q1 q2], by rw [hr _ _ (by omega) (by omega), h.2.1], by rw [hr _ _ (by omega) (by omega), h.2.2]⟩
theorem B2_cg {M M' : Mem} (h : B2 M) (hi : ∀ x y, 16 ≤ x → x < 35 → mI M' x y = mI M x y) (hr : ∀ x y, 16 < x → x < 35 → mR M' x y = mR M x y) (h0 : mR M' 16 0 = mR M 16 0) : B2 M' := ⟨B1_cg h.1 (fun x y q1 q2 => hi x y q1 (by omega)) (fun x y q1 q2 => hr x y q1 (by omega)), by rw [h0, h.2.1], LedZ_cg h.2.2.1 (fun x y q1 q2 => hi x y (by omega) (by omega)), LedR_cg h.2.2.2 (fun x y q1 q2 => hr x y (by omega) (by omega))⟩
theorem B3_cg {M M' : Mem} (h : B3 M) (hi : ∀ x y, 16 ≤ x → x < 50 → mI M' x y = mI M x y) (hr : ∀ x y, 16 < x → x < 50 → mR M' x y = mR M x y) (h0 : ∀ y, y < 2 → mR M' 16 y = mR M 16 y) : B3 M' := ⟨B2_cg h.1 (fun x y q1 q2 => hi x y q1 (by omega)) (fun x y q1 q2 => hr x y q1 (by omega)) (h0 0 (by omega)), by rw [h0 1 (by omega), h.2.1], LedZ_cg h.2.2.1 (fun x y q1 q2 => hi x y (by omega) (by omega)), LedR_cg h.2.2.2 (fun x y q1 q2 => hr x y (by omega) (by omega))⟩
theorem B4_cg {M M' : Mem} (h : B4 M) (hi : ∀ x y, 16 ≤ x → x < 172 → mI M' x y = mI M x y) (hr : ∀ x y, 16 < x → x < 172 → mR M' x y = mR M x y) (h0 : ∀ y, y < 3 → mR M' 16 y = mR M 16 y) : B4 M' := ⟨B3_cg h.1 (fun x y q1 q2 => hi x y q1 (by omega)) (fun x y q1 q2 => hr x y q1 (by omega)) (fun y q => h0 y (by omega)), by rw [h0 2 (by omega), h.2.1], fun y => by rw [hi _ _ (by omega) (by omega), h.2.2.1], by rw [hr _ _ (by omega) (by omega), h.2.2.2.1], fun k hk => by rw [hr _ _ (by omega) (by omega), h.2.2.2.2.1 k hk], fun k hk => ⟨LedZ_cg (h.2.2.2.2.2 k hk).1 (fun x y q1 q2 => hi x y (by omega) (by omega)), LedR_cg (h.2.2.2.2.2 k hk).2 (fun x y q1 q2 => hr x y (by omega) (by omega))⟩⟩
theorem LdK_20 : LdK 20 := ⟨by omega, by decide⟩
theorem LdK_35 : LdK 35 := ⟨by omega, by decide⟩
set_option maxRecDepth 100000 in
set_option maxHeartbeats 4000000 in
theorem go_B_init_45 (Z : Zt) (d : Nat) {M : Mem} {n0 : Nat} (hn : mN M = 172) (h : B4 M) : X Z (d + 4) s_B_init n0 174 (fun r M' => r = none ∧ BQ M') 45 [some (.ref 16)] [.ref 50, .ref 16] M := by
  have ho : isO M 16 4 := ⟨by omega, by rfl, by rfl⟩
  have ho1 : isO (al (stR M 16 3 50)) 16 4 := isO_N ho (by rw [mN_al, mN_stR]; omega)
  have ho2 : isO (al (stR (al (stR M 16 3 50)) 16 4 172)) 16 4 := isO_N ho (by rw [mN_al, mN_stR, mN_al, mN_stR]; omega)
  refine X_runT (C := C_B_init) (S := S_B_init) (T := t_B_init_45) 1000 kt_B_init okE_nil ?_
  simp (maxSteps := 3000000) (disch := first | exact True.intro | assumption | omega) only [↓eq_self, Option.toList_some, Option.toList_none, List.nil_append, List.cons_append, wsum_0, wsum_1, wsum_2, wsum_3, wsum_4, lkill, ↓reduceIte, if_true, if_false, Bool.false_eq_true, and_true, true_and, and_self, or_self, true_or, or_true, not_true, not_false_iff, mR_stI, mN_stI, isO_stI, isA_stI, mI_stI, mR_mW, mN_mW, isO_mW, isA_mW, mI_mW, mW_mW, stI_mW, vp_0, nI_addL, nI_mulL, nI_subL, nI_ltL, nI_leL, nI_Llt, nI_Lle, nI_eqL, nI_Leq, nI_add, pk_mul, nI_ltI, nI_leI, nI_eq, vpi, nI_clamp, nI_toN, ↓g_B_init_45, ↓g_B_init_53, ↓g_B_init_61, ho, mN_al, mN_stR, hn, ho1, ho2]
  refine ⟨24, ⟨rfl, rfl, by omega, by omega⟩, 6, ⟨rfl, rfl, by omega, by omega⟩, ?_⟩
  refine ⟨B4_cg h (fun x y q1 q2 => ?_) (fun x y q1 q2 => ?_) (fun y q => ?_), ?_, ?_, ?_, ?_, fun x y q1 q2 => ?_⟩
  · rw [mI_stR, mI_al, mN_stR, mN_al, mN_stR, hn, if_neg (by omega), mI_stR, mI_al, mN_stR, hn, if_neg (by omega), mI_stR]
  · rw [mR_stR, u2_nn (by omega), mR_al, mN_stR, mN_al, mN_stR, hn, if_neg (by omega), mR_stR, u2_nn (by omega), mR_al, mN_stR, hn, if_neg (by omega), mR_stR, u2_nn (by omega)]
  · rw [mR_stR, u2_nn (by omega), mR_al, mN_stR, mN_al, mN_stR, hn, if_neg (by omega), mR_stR, u2_nn (by omega), mR_al, mN_stR, hn, if_neg (by omega), mR_stR, u2_nn (by omega)]
  · rw [mN_stR, mN_al, mN_stR, mN_al, mN_stR, hn]
  · rw [mR_stR, u2_nn (by omega), mR_al, mN_stR, mN_al, mN_stR, hn, if_neg (by omega), mR_stR, u2_nn (by omega), mR_al, mN_stR, hn, if_neg (by omega), mR_stR, u2_eq]
  · rw [mR_stR, u2_nn (by omega), mR_al, mN_stR, mN_al, mN_stR, hn, if_neg (by omega), mR_stR, u2_eq]
  · rw [mR_stR, u2_eq]
  · rw [mI_stR, mI_al, mN_stR, mN_al, mN_stR, hn]
    by_cases q : x = 172 + 1
    · rw [if_pos q]
    · rw [if_neg q, mI_stR, mI_al, mN_stR, hn, if_pos (by omega)]
set_option maxRecDepth 100000 in
set_option maxHeartbeats 4000000 in
theorem go_B_init_34 (Z : Zt) (d : Nat) {M : Mem} {n0 : Nat} (hn : mN M = 50) (h : B3 M) : X Z (d + 4) s_B_init n0 174 (fun r M' => r = none ∧ BQ M') 34 [some (.ref 16)] [.ref 35, .ref 16] M := by
  have ho : isO M 16 4 := ⟨by omega, by rfl, by rfl⟩
  have hk : kd 50 = (1 + 3, cW 1) := by rfl
  refine X_runT (C := C_B_init) (S := S_B_init) (T := t_B_init_34) 1000 kt_B_init okE_nil ?_
  simp (maxSteps := 3000000) (disch := first | exact True.intro | assumption | omega) only [↓eq_self, Option.toList_some, Option.toList_none, List.nil_append, List.cons_append, wsum_0, wsum_1, wsum_2, wsum_3, wsum_4, lkill, ↓reduceIte, if_true, if_false, Bool.false_eq_true, and_true, true_and, and_self, or_self, true_or, or_true, not_true, not_false_iff, mR_stI, mN_stI, isO_stI, isA_stI, mI_stI, mR_mW, mN_mW, isO_mW, isA_mW, mI_mW, mW_mW, stI_mW, vp_0, nI_addL, nI_mulL, nI_subL, nI_ltL, nI_leL, nI_Llt, nI_Lle, nI_eqL, nI_Leq, nI_add, pk_mul, nI_ltI, nI_leI, nI_eq, vpi, nI_clamp, nI_toN, ↓g_B_init_34, ho, mN_al, mN_stR, hn, hk]
  refine ⟨by omega, ?_⟩
  refine X_mkI (d := d + 3) (nF := 174) (av := []) (rest := [.ref 50, .ref 16]) okI_B42 (by omega) rfl (of_eq_true (wsum_2 _ _)) (ok_H_init_ Z d (M := al (stR M 16 2 35)) (by rw [mN_al, mN_stR, hn])) (by omega) (fun r M' hq hn' => ?_)
  obtain ⟨rfl, -, h2, h3, h4, h5, h6⟩ := hq
  refine go_B_init_45 Z d hn' ⟨B3_cg h (fun x y q1 q2 => ?_) (fun x y q1 q2 => ?_) (fun y q => ?_), ?_, fun y => ?_, h4, h5, h6⟩
  · rw [h2 _ _ (by omega), mI_al, mN_stR, hn, if_neg (by omega), mI_stR]
  · rw [h3 _ _ (by omega), mR_al, mN_stR, hn, if_neg (by omega), mR_stR, u2_nn (by omega)]
  · rw [h3 _ _ (by omega), mR_al, mN_stR, hn, if_neg (by omega), mR_stR, u2_nn (by omega)]
  · rw [h3 _ _ (by omega), mR_al, mN_stR, hn, if_neg (by omega), mR_stR, u2_eq]
  · rw [h2 _ _ (by omega), mI_al, mN_stR, hn, if_pos rfl]
set_option maxRecDepth 100000 in
set_option maxHeartbeats 4000000 in
theorem go_B_init_23 (Z : Zt) (d : Nat) {M : Mem} {n0 : Nat} (hn : mN M = 35) (h : B2 M) : X Z (d + 4) s_B_init n0 174 (fun r M' => r = none ∧ BQ M') 23 [some (.ref 16)] [.ref 20, .ref 16] M := by
  have ho : isO M 16 4 := ⟨by omega, by rfl, by rfl⟩
  have hk : kd 35 = (2 + 3, cW 2) := by rfl
  refine X_runT (C := C_B_init) (S := S_B_init) (T := t_B_init_23) 1000 kt_B_init okE_nil ?_
  simp (maxSteps := 3000000) (disch := first | exact True.intro | assumption | omega) only [↓eq_self, Option.toList_some, Option.toList_none, List.nil_append, List.cons_append, wsum_0, wsum_1, wsum_2, wsum_3, wsum_4, lkill, ↓reduceIte, if_true, if_false, Bool.false_eq_true, and_true, true_and, and_self, or_self, true_or, or_true, not_true, not_false_iff, mR_stI, mN_stI, isO_stI, isA_stI, mI_stI, mR_mW, mN_mW, isO_mW, isA_mW, mI_mW, mW_mW, stI_mW, vp_0, nI_addL, nI_mulL, nI_subL, nI_ltL, nI_leL, nI_Llt, nI_Lle, nI_eqL, nI_Leq, nI_add, pk_mul, nI_ltI, nI_leI, nI_eq, vpi, nI_clamp, nI_toN, ↓g_B_init_23, ho, mN_al, mN_stR, hn, hk]
  refine ⟨by omega, ?_⟩
  refine X_mkI (d := d + 3) (nF := 174) (av := []) (rest := [.ref 35, .ref 16]) okI_B31 (by omega) rfl (of_eq_true (wsum_2 _ _)) (ok_L_init_ Z (d + 1) (M := al (stR M 16 1 20)) LdK_35 (by rw [mN_al, mN_stR, hn])) (by omega) (fun r M' hq hn' => ?_)
  obtain ⟨rfl, hn2, hz, hr, hs1, hs2⟩ := LQ_use hq (fun y => by rw [mI_al, mN_stR, hn, if_pos rfl])
  refine go_B_init_34 Z d hn2 ⟨B2_cg h (fun x y q1 q2 => ?_) (fun x y q1 q2 => ?_) ?_, ?_, hz, hr⟩
  · rw [hs1 _ _ (by omega), mI_al, mN_stR, hn, if_neg (by omega), mI_stR]
  · rw [hs2 _ _ (by omega), mR_al, mN_stR, hn, if_neg (by omega), mR_stR, u2_nn (by omega)]
  · rw [hs2 _ _ (by omega), mR_al, mN_stR, hn, if_neg (by omega), mR_stR, u2_nn (by omega)]
  · rw [hs2 _ _ (by omega), mR_al, mN_stR, hn, if_neg (by omega), mR_stR, u2_eq]
set_option maxRecDepth 100000 in
set_option maxHeartbeats 4000000 in
theorem go_B_init_12 (Z : Zt) (d : Nat) {M : Mem} {n0 : Nat} (hn : mN M = 20) (h : B1 M) : X Z (d + 4) s_B_init n0 174 (fun r M' => r = none ∧ BQ M') 12 [some (.ref 16)] [.ref 17, .ref 16] M := by
  have ho : isO M 16 4 := ⟨by omega, by rfl, by rfl⟩
  have hk : kd 20 = (2 + 3, cW 2) := by rfl
  refine X_runT (C := C_B_init) (S := S_B_init) (T := t_B_init_12) 1000 kt_B_init okE_nil ?_
  simp (maxSteps := 3000000) (disch := first | exact True.intro | assumption | omega) only [↓eq_self, Option.toList_some, Option.toList_none, List.nil_append, List.cons_append, wsum_0, wsum_1, wsum_2, wsum_3, wsum_4, lkill, ↓reduceIte, if_true, if_false, Bool.false_eq_true, and_true, true_and, and_self, or_self, true_or, or_true, not_true, not_false_iff, mR_stI, mN_stI, isO_stI, isA_stI, mI_stI, mR_mW, mN_mW, isO_mW, isA_mW, mI_mW, mW_mW, stI_mW, vp_0, nI_addL, nI_mulL, nI_subL, nI_ltL, nI_leL, nI_Llt, nI_Lle, nI_eqL, nI_Leq, nI_add, pk_mul, nI_ltI, nI_leI, nI_eq, vpi, nI_clamp, nI_toN, ↓g_B_init_12, ho, mN_al, mN_stR, hn, hk]
  refine ⟨by omega, ?_⟩
  refine X_mkI (d := d + 3) (nF := 174) (av := []) (rest := [.ref 20, .ref 16]) okI_B20 (by omega) rfl (of_eq_true (wsum_2 _ _)) (ok_L_init_ Z (d + 1) (M := al (stR M 16 0 17)) LdK_20 (by rw [mN_al, mN_stR, hn])) (by omega) (fun r M' hq hn' => ?_)
  obtain ⟨rfl, hn2, hz, hr, hs1, hs2⟩ := LQ_use hq (fun y => by rw [mI_al, mN_stR, hn, if_pos rfl])
  refine go_B_init_23 Z d hn2 ⟨B1_cg h (fun x y q1 q2 => ?_) (fun x y q1 q2 => ?_), ?_, hz, hr⟩
  · rw [hs1 _ _ (by omega), mI_al, mN_stR, hn, if_neg (by omega), mI_stR]
  · rw [hs2 _ _ (by omega), mR_al, mN_stR, hn, if_neg (by omega), mR_stR, u2_nn (by omega)]
  · rw [hs2 _ _ (by omega), mR_al, mN_stR, hn, if_neg (by omega), mR_stR, u2_eq]
set_option maxRecDepth 100000 in
set_option maxHeartbeats 4000000 in
theorem ok_B_init_ (Z : Zt) (d : Nat) {M : Mem} (hn : mN M = 17) (hz : ∀ y, mI M 16 y = 0) : GmA Z (d + 4) s_B_init [.ref 16] M 174 (fun r M' => r = none ∧ BQ M') := by
  have hk : kd 17 = (3 + 3, cW 3) := by rfl
  refine Gm_mk (C := C_B_init) (S := S_B_init) [some (.ref 16)] 1000 kt_B_init okE_nil (fun r M' q => q.2.2.1) (by omega) ?_
  simp (maxSteps := 3000000) (disch := first | exact True.intro | assumption | omega) only [↓eq_self, Option.toList_some, Option.toList_none, List.nil_append, List.cons_append, wsum_0, wsum_1, wsum_2, wsum_3, wsum_4, lkill, ↓reduceIte, if_true, if_false, Bool.false_eq_true, and_true, true_and, and_self, or_self, true_or, or_true, not_true, not_false_iff, mR_stI, mN_stI, isO_stI, isA_stI, mI_stI, mR_mW, mN_mW, isO_mW, isA_mW, mI_mW, mW_mW, stI_mW, vp_0, nI_addL, nI_mulL, nI_subL, nI_ltL, nI_leL, nI_Llt, nI_Lle, nI_eqL, nI_Leq, nI_add, pk_mul, nI_ltI, nI_leI, nI_eq, vpi, nI_clamp, nI_toN, ↓g_B_init_0, hn, mN_al, hk]
  refine ⟨by omega, by omega, ?_⟩
  refine X_mkIN (d := d + 3) (nF := 174) (av := []) (rest := [.ref 17, .ref 16]) okI_B9 (by omega) rfl (of_eq_true (wsum_2 _ _)) (ok_V_init_ Z (d + 2) (M := al M) (by rw [mN_al, hn])) (by omega) (fun r M' hq hn' => ?_)
  obtain ⟨rfl, rfl⟩ := hq
  refine go_B_init_12 Z d hn' ⟨fun x y q1 q2 => ?_, ?_, ?_⟩
  · unfold V_new
    rw [mI_stR, mI_al, mN_stR, mN_al, mN_al, hn]
    by_cases q : x = 19
    · rw [if_pos q]
    · rw [if_neg (by omega), mI_stR, mI_al, mN_al, hn]
      by_cases q3 : x = 18
      · rw [if_pos q3]
      · rw [if_neg (by omega), mI_al, hn]
        by_cases q4 : x = 17
        · rw [if_pos q4]
        · rw [if_neg q4, (show x = 16 by omega), hz]
  · unfold V_new
    rw [mR_stR, u2_nn (by omega), mR_al, mN_stR, mN_al, mN_al, hn, if_neg (by omega), mR_stR, u2_eq]
  · unfold V_new
    rw [mR_stR, u2_eq]
