/-! a demand becomes a grant -/
def gr1 (u : Nat → Int32) (k n : Nat) : Nat → Int32 := fun y => if y = 80 + 6 * uG u then u 451 else if 80 + 6 * uG u + 1 ≤ y ∧ y < 80 + 6 * uG u + 1 + n then u (320 + 5 * k + (y - (80 + 6 * uG u + 1))) else u y
def gr2 (u : Nat → Int32) (k : Nat) : Nat → Int32 := upF (upF (upF (gr1 u k 4) (80 + 6 * uG u + 5) (u (320 + 5 * k + 4))) 448 (nI (uG u + 1))) 451 (u 451 + nI 1)
def grU (u : Nat → Int32) (k : Nat) : Nat → Int32 := ldU (gr2 u k) k
theorem gr1_0 (u : Nat → Int32) (k : Nat) : upF u (80 + 6 * uG u) (u 451) = gr1 u k 0 := by
  funext y
  unfold upF gr1
  by_cases h : y = 80 + 6 * uG u
  · rw [if_pos h, if_pos h]
  · rw [if_neg h, if_neg h, if_neg (by omega)]
theorem gr1_s {u : Nat → Int32} {k n : Nat} : upF (gr1 u k n) (80 + 6 * uG u + 1 + n) (u (320 + 5 * k + n)) = gr1 u k (n + 1) := by
  funext y
  unfold upF gr1
  by_cases h : y = 80 + 6 * uG u + 1 + n
  · rw [if_pos h, if_neg (by omega), if_pos (by omega), h, Nat.add_sub_cancel_left]
  · rw [if_neg h]
    by_cases h3 : y = 80 + 6 * uG u
    · rw [if_pos h3, if_pos h3]
    · rw [if_neg h3, if_neg h3]
      by_cases h4 : 80 + 6 * uG u + 1 ≤ y ∧ y < 80 + 6 * uG u + 1 + n
      · rw [if_pos h4, if_pos (by omega)]
      · rw [if_neg h4, if_neg (by omega)]
theorem gr1_o {u : Nat → Int32} {k n y : Nat} (h : y < 80 + 6 * uG u ∨ 80 + 6 * uG u + 1 + n ≤ y) : gr1 u k n y = u y := by
  unfold gr1
  rw [if_neg (by omega), if_neg (by omega)]
theorem gr2_D {u : Nat → Int32} {k : Nat} (h : MdD u) (hg : uG u < 40) : MdD (gr2 u k) := by
  unfold gr2
  refine MdD_g (s := uG u + 1) h ?_ ?_ (by omega) ?_ ?_
  · rw [up_ne (by omega), up_ne (by omega), up_ne (by omega), gr1_o (by omega)]
  · rw [up_ne (by omega), up_at]
  · rw [up_ne (by omega), up_ne (by omega), up_ne (by omega), gr1_o (by omega)]
  · rw [up_ne (by omega), up_ne (by omega), up_ne (by omega), gr1_o (by omega)]
theorem gr2_d {u : Nat → Int32} {k : Nat} (hg : uG u < 40) : gr2 u k 449 = u 449 := by
  unfold gr2
  rw [up_ne (by omega), up_ne (by omega), up_ne (by omega), gr1_o (by omega)]
theorem grU_D {u : Nat → Int32} {k : Nat} (h : MdD u) (hg : uG u < 40) : MdD (grU u k) := ldU_D (gr2_D h hg)
def e_M_grants : Ent := (fun av M => ∃ (o : Nat) (k : Nat), av = [.ref o, .int (nI k)] ∧ k < 2 ^ 31 ∧ (o = 174 ∧ MO M ∧ k < uD (mI M 175) ∧ uG (mI M 175) < 40), fun av M r_ M_ => ∀ (o : Nat) (k : Nat), k < 2 ^ 31 → av = [.ref o, .int (nI k)] → r_ = (some (.int (mI M 175 (320 + 5 * k + 4)))) ∧ M_ = (mW M (rwF (mI M) 175 (grU (mI M 175) k))))
theorem pc_M_grants {o : Nat} {k : Nat} {M : Mem} {K : Option Value → Mem → Prop} (hp : o = 174 ∧ MO M ∧ k < uD (mI M 175) ∧ uG (mI M 175) < 40) (h_k : k < 2 ^ 31) : pcall e_M_grants [.ref o, .int (nI k)] M K = K (some (.int (mI M 175 (320 + 5 * k + 4)))) (mW M (rwF (mI M) 175 (grU (mI M 175) k))) := propext ⟨fun h => h.2 _ _ (fun o' k' h_k' e => by simp only [List.cons.injEq, Value.ref.injEq, Value.int.injEq, Value.long.injEq, and_true] at e; obtain ⟨q0, q1⟩ := e; obtain rfl := q0; obtain rfl := (nI_eq h_k h_k').mp q1; exact ⟨rfl, rfl⟩), fun h => ⟨⟨o, k, rfl, h_k, hp⟩, fun r_ M_ q => by obtain ⟨rfl, rfl⟩ := q _ _ h_k rfl; exact h⟩⟩
theorem mk_M_grants {Z : Zt} {d : Nat} (h : ∀ (o : Nat) (k : Nat) (M : Mem), k < 2 ^ 31 → (o = 174 ∧ MO M ∧ k < uD (mI M 175) ∧ uG (mI M 175) < 40) → Gm Z d s_M_grants [.ref o, .int (nI k)] M (ex (some (.int (mI M 175 (320 + 5 * k + 4)))) (mW M (rwF (mI M) 175 (grU (mI M 175) k))))) : okE Z d i_M_grants e_M_grants := by
  rintro av M ⟨o, k, rfl, h_k, hp⟩
  exact Gm.cons (h o k M h_k hp) (fun r_ M_ q o' k' h_k' e => by simp only [List.cons.injEq, Value.ref.injEq, Value.int.injEq, Value.long.injEq, and_true] at e; obtain ⟨q0, q1⟩ := e; obtain rfl := q0; obtain rfl := (nI_eq h_k h_k').mp q1; exact q)
def C_M_grants : List (Nat × Ent) := [(i_M_demandOf, e_M_demandOf), (i_M_leavesDemand, e_M_leavesDemand)]
abbrev S_M_grants : List Nat := [39]
def t_M_grants_107 : List PI := (107, 1, 0, 3, 0, 0, []) :: (108, 9, 0, 0, 0, 0, []) :: []
def t_M_grants_90 : List PI := (90, 1, 1, 0, 0, 0, []) :: (91, 8, 1, 5, 0, 0, [7]) :: (94, 0, 0, 0, 2, 451, []) :: (97, 7, 1, 0, 0, 0, []) :: (98, 8, 4, 0, 0, 0, []) :: (99, 0, 0, 0, 0, 1, []) :: (100, 2, 0, 0, 0, 0, []) :: (101, 10, 4, 0, 0, 0, []) :: (102, 1, 1, 0, 0, 0, []) :: (103, 1, 0, 1, 0, 0, []) :: (104, 11, 0, 5, 134, 0, [104, 2]) :: t_M_grants_107
def t_M_grants_69 : List PI := (69, 1, 1, 0, 0, 0, []) :: (70, 8, 1, 5, 0, 0, [7]) :: (73, 1, 0, 2, 0, 0, []) :: (74, 0, 0, 0, 0, 5, []) :: (75, 2, 0, 0, 0, 0, []) :: (76, 1, 0, 3, 0, 0, []) :: (77, 10, 4, 0, 0, 0, []) :: (78, 1, 1, 0, 0, 0, []) :: (79, 8, 1, 5, 0, 0, [7]) :: (82, 0, 0, 0, 2, 448, []) :: (85, 7, 1, 0, 0, 0, []) :: (86, 8, 4, 0, 0, 0, []) :: (87, 0, 0, 0, 0, 1, []) :: (88, 2, 0, 0, 0, 0, []) :: (89, 10, 4, 0, 0, 0, []) :: t_M_grants_90
def t_M_grants_62 : List PI := (62, 10, 4, 0, 0, 0, []) :: (63, 1, 6, 4, 0, 1, []) :: (66, 6, 0, 39, 0, 0, []) :: t_M_grants_69
def t_M_grants_45 : List PI := (45, 1, 1, 0, 0, 0, []) :: (46, 8, 1, 5, 0, 0, [7]) :: (49, 1, 0, 2, 0, 0, []) :: (50, 0, 0, 0, 0, 1, []) :: (51, 2, 0, 0, 0, 0, []) :: (52, 1, 0, 4, 0, 0, []) :: (54, 2, 0, 0, 0, 0, []) :: (55, 1, 1, 0, 0, 0, []) :: (56, 1, 0, 1, 0, 0, []) :: (57, 1, 0, 4, 0, 0, []) :: (59, 11, 0, 5, 122, 0, [97, 3]) :: t_M_grants_62
def t_M_grants_39 : List PI := (39, 1, 0, 4, 0, 0, []) :: (41, 0, 0, 0, 0, 4, []) :: (42, 4, 3, 69, 0, 0, []) :: t_M_grants_45
def t_M_grants_21 : List PI := (21, 1, 3, 3, 0, 0, []) :: (22, 1, 1, 0, 0, 0, []) :: (23, 8, 1, 5, 0, 0, [7]) :: (26, 1, 0, 2, 0, 0, []) :: (27, 1, 1, 0, 0, 0, []) :: (28, 8, 1, 5, 0, 0, [7]) :: (31, 0, 0, 0, 2, 451, []) :: (34, 8, 4, 0, 0, 0, []) :: (35, 10, 4, 0, 0, 0, []) :: (36, 0, 0, 0, 0, 0, []) :: (37, 1, 3, 4, 0, 0, []) :: t_M_grants_39
def t_M_grants_0 : List PI := (0, 0, 0, 0, 1, 80, []) :: (2, 0, 0, 0, 1, 6, []) :: (4, 1, 1, 0, 0, 0, []) :: (5, 8, 1, 5, 0, 0, [7]) :: (8, 0, 0, 0, 2, 448, []) :: (11, 8, 4, 0, 0, 0, []) :: (12, 2, 2, 0, 0, 0, []) :: (13, 2, 0, 0, 0, 0, []) :: (14, 1, 3, 2, 0, 0, []) :: (15, 1, 1, 0, 0, 0, []) :: (16, 1, 0, 1, 0, 0, []) :: (17, 0, 0, 0, 0, 4, []) :: (18, 11, 0, 5, 122, 0, [97, 3]) :: t_M_grants_21
theorem kt_M_grants : okP s_M_grants t_M_grants_0 := k_M_grants
theorem g_M_grants_0 {Z : Zt} {nF f : Nat} {Kx : Nat → Kt} {Q : Option Value → Mem → Prop} {M : Mem} {x1 : Nat} {x2 : Int32} : run Z nF C_M_grants S_M_grants Kx Q (f + 13) t_M_grants_0 [some (.ref (x1)), some (.int (x2)), none, none, none] [] M = (isO (M) (x1) 5 ∧ isA (M) (mR (M) (x1) 0) ((nI 448)) ∧ ((isO (M) (x1) 5) ∧ wsum [] ≤ 8) ∧ pcall e_M_demandOf [.ref (x1), .int (x2), .int ((nI 4))] (M) (fun v M_ => run Z nF C_M_grants S_M_grants Kx Q f t_M_grants_21 [some (.ref (x1)), some (.int (x2)), some (.int (((nI 80)) + (((nI 6)) * (mI (M) (mR (M) (x1) 0) (Int32.toNatClampNeg ((nI 448))))))), none, none] (v.toList ++ []) M_)) := rfl
theorem g_M_grants_21 {Z : Zt} {nF f : Nat} {Kx : Nat → Kt} {Q : Option Value → Mem → Prop} {M : Mem} {x1 : Nat} {x2 : Int32} {x3 : Int32} {x4 : Int32} : run Z nF C_M_grants S_M_grants Kx Q (f + 11) t_M_grants_21 [some (.ref (x1)), some (.int (x2)), some (.int (x3)), none, none] [.int (x4)] M = (isO (M) (x1) 5 ∧ isO (M) (x1) 5 ∧ isA (M) (mR (M) (x1) 0) ((nI 451)) ∧ isA (M) (mR (M) (x1) 0) (x3) ∧ Kx 39 [some (.ref (x1)), some (.int (x2)), some (.int (x3)), some (.int (x4)), some (.int ((nI 0)))] [] (stI (M) (mR (M) (x1) 0) (Int32.toNatClampNeg (x3)) (mI (M) (mR (M) (x1) 0) (Int32.toNatClampNeg ((nI 451)))))) := rfl
theorem g_M_grants_39 {Z : Zt} {nF f : Nat} {Kx : Nat → Kt} {Q : Option Value → Mem → Prop} {M : Mem} {x1 : Nat} {x2 : Int32} {x3 : Int32} {x4 : Int32} {x5 : Int32} : run Z nF C_M_grants S_M_grants Kx Q (f + 3) t_M_grants_39 [some (.ref (x1)), some (.int (x2)), some (.int (x3)), some (.int (x4)), some (.int (x5))] [] M = ((if ((nI 4)) ≤ (x5) then run Z nF C_M_grants S_M_grants Kx Q f t_M_grants_69 [some (.ref (x1)), some (.int (x2)), some (.int (x3)), some (.int (x4)), some (.int (x5))] [] (M) else run Z nF C_M_grants S_M_grants Kx Q f t_M_grants_45 [some (.ref (x1)), some (.int (x2)), some (.int (x3)), some (.int (x4)), some (.int (x5))] [] (M))) := rfl
theorem g_M_grants_45 {Z : Zt} {nF f : Nat} {Kx : Nat → Kt} {Q : Option Value → Mem → Prop} {M : Mem} {x1 : Nat} {x2 : Int32} {x3 : Int32} {x4 : Int32} {x5 : Int32} : run Z nF C_M_grants S_M_grants Kx Q (f + 11) t_M_grants_45 [some (.ref (x1)), some (.int (x2)), some (.int (x3)), some (.int (x4)), some (.int (x5))] [] M = (isO (M) (x1) 5 ∧ ((isO (M) (x1) 5) ∧ wsum [.int (((x3) + ((nI 1))) + (x5)), .ref (mR (M) (x1) 0)] ≤ 8) ∧ pcall e_M_demandOf [.ref (x1), .int (x2), .int (x5)] (M) (fun v M_ => run Z nF C_M_grants S_M_grants Kx Q f t_M_grants_62 [some (.ref (x1)), some (.int (x2)), some (.int (x3)), some (.int (x4)), some (.int (x5))] (v.toList ++ [.int (((x3) + ((nI 1))) + (x5)), .ref (mR (M) (x1) 0)]) M_)) := rfl
theorem g_M_grants_62 {Z : Zt} {nF f : Nat} {Kx : Nat → Kt} {Q : Option Value → Mem → Prop} {M : Mem} {x1 : Nat} {x2 : Int32} {x3 : Int32} {x4 : Int32} {x5 : Int32} {x6 : Int32} {x7 : Int32} {x8 : Nat} : run Z nF C_M_grants S_M_grants Kx Q (f + 3) t_M_grants_62 [some (.ref (x1)), some (.int (x2)), some (.int (x3)), some (.int (x4)), some (.int (x5))] [.int (x6), .int (x7), .ref (x8)] M = (isA (M) (x8) (x7) ∧ Kx 39 [some (.ref (x1)), some (.int (x2)), some (.int (x3)), some (.int (x4)), some (.int (x5 + (nI 1)))] [] (stI (M) (x8) (Int32.toNatClampNeg (x7)) (x6))) := rfl
theorem g_M_grants_69 {Z : Zt} {nF f : Nat} {Kx : Nat → Kt} {Q : Option Value → Mem → Prop} {M : Mem} {x1 : Nat} {x2 : Int32} {x3 : Int32} {x4 : Int32} {x5 : Int32} : run Z nF C_M_grants S_M_grants Kx Q (f + 15) t_M_grants_69 [some (.ref (x1)), some (.int (x2)), some (.int (x3)), some (.int (x4)), some (.int (x5))] [] M = (isO (M) (x1) 5 ∧ isA (M) (mR (M) (x1) 0) ((x3) + ((nI 5))) ∧ isO (stI (M) (mR (M) (x1) 0) (Int32.toNatClampNeg ((x3) + ((nI 5)))) (x4)) (x1) 5 ∧ isA (stI (M) (mR (M) (x1) 0) (Int32.toNatClampNeg ((x3) + ((nI 5)))) (x4)) (mR (stI (M) (mR (M) (x1) 0) (Int32.toNatClampNeg ((x3) + ((nI 5)))) (x4)) (x1) 0) ((nI 448)) ∧ isA (stI (M) (mR (M) (x1) 0) (Int32.toNatClampNeg ((x3) + ((nI 5)))) (x4)) (mR (stI (M) (mR (M) (x1) 0) (Int32.toNatClampNeg ((x3) + ((nI 5)))) (x4)) (x1) 0) ((nI 448)) ∧ run Z nF C_M_grants S_M_grants Kx Q f t_M_grants_90 [some (.ref (x1)), some (.int (x2)), some (.int (x3)), some (.int (x4)), some (.int (x5))] [] (stI (stI (M) (mR (M) (x1) 0) (Int32.toNatClampNeg ((x3) + ((nI 5)))) (x4)) (mR (stI (M) (mR (M) (x1) 0) (Int32.toNatClampNeg ((x3) + ((nI 5)))) (x4)) (x1) 0) (Int32.toNatClampNeg ((nI 448))) ((mI (stI (M) (mR (M) (x1) 0) (Int32.toNatClampNeg ((x3) + ((nI 5)))) (x4)) (mR (stI (M) (mR (M) (x1) 0) (Int32.toNatClampNeg ((x3) + ((nI 5)))) (x4)) (x1) 0) (Int32.toNatClampNeg ((nI 448)))) + ((nI 1))))) := rfl
theorem g_M_grants_90 {Z : Zt} {nF f : Nat} {Kx : Nat → Kt} {Q : Option Value → Mem → Prop} {M : Mem} {x1 : Nat} {x2 : Int32} {x3 : Int32} {x4 : Int32} {x5 : Int32} : run Z nF C_M_grants S_M_grants Kx Q (f + 11) t_M_grants_90 [some (.ref (x1)), some (.int (x2)), some (.int (x3)), some (.int (x4)), some (.int (x5))] [] M = (isO (M) (x1) 5 ∧ isA (M) (mR (M) (x1) 0) ((nI 451)) ∧ isA (M) (mR (M) (x1) 0) ((nI 451)) ∧ ((isO (stI (M) (mR (M) (x1) 0) (Int32.toNatClampNeg ((nI 451))) ((mI (M) (mR (M) (x1) 0) (Int32.toNatClampNeg ((nI 451)))) + ((nI 1)))) (x1) 5) ∧ wsum [] ≤ 8) ∧ pcall e_M_leavesDemand [.ref (x1), .int (x2)] (stI (M) (mR (M) (x1) 0) (Int32.toNatClampNeg ((nI 451))) ((mI (M) (mR (M) (x1) 0) (Int32.toNatClampNeg ((nI 451)))) + ((nI 1)))) (fun v M_ => run Z nF C_M_grants S_M_grants Kx Q f t_M_grants_107 [some (.ref (x1)), some (.int (x2)), some (.int (x3)), some (.int (x4)), some (.int (x5))] (v.toList ++ []) M_)) := rfl
theorem g_M_grants_107 {Z : Zt} {nF f : Nat} {Kx : Nat → Kt} {Q : Option Value → Mem → Prop} {M : Mem} {x1 : Nat} {x2 : Int32} {x3 : Int32} {x4 : Int32} {x5 : Int32} : run Z nF C_M_grants S_M_grants Kx Q (f + 2) t_M_grants_107 [some (.ref (x1)), some (.int (x2)), some (.int (x3)), some (.int (x4)), some (.int (x5))] [] M = (Q (some (.int (x4))) (M)) := rfl
set_option maxRecDepth 100000 in
set_option maxHeartbeats 4000000 in
theorem lp_M_grants (Z : Zt) (d : Nat) {M : Mem} {k : Nat} (hM : MO M) (hk : k < uD (mI M 175)) (hg : uG (mI M 175) < 40) : ∀ n r, r + n = 4 → X Z (d + 2) s_M_grants (mN M) (mN M) (ex (some (.int (mI M 175 (320 + 5 * k + 4)))) (mW M (rwF (mI M) 175 (grU (mI M 175) k)))) 39 [some (.ref 174), some (.int (nI k)), some (.int (nI (80 + 6 * uG (mI M 175)))), some (.int (mI M 175 (320 + 5 * k + 4))), some (.int (nI r))] [] (mW M (rwF (mI M) 175 (gr1 (mI M 175) k r))) := by
  obtain ⟨hB, hU⟩ := hM
  have h24 := hU.2.2.1.2
  have hG := hU.2.1.1
  intro n
  induction n with
  | zero =>
    intro r hr
    obtain rfl : r = 4 := by omega
    have h2D := gr2_D (k := k) hU hg
    have h2d : uD (gr2 (mI M 175) k) = uD (mI M 175) := by unfold uD; rw [gr2_d hg]
    have hld : ∀ {K : Option Value → Mem → Prop}, pcall e_M_leavesDemand [.ref 174, .int (nI k)] (mW M (rwF (mI M) 175 (gr2 (mI M 175) k))) K = K none (mW M (rwF (mI M) 175 (grU (mI M 175) k))) := by
      intro K
      rw [pc_M_leavesDemand (o := 174) (k := k) (M := mW M (rwF (mI M) 175 (gr2 (mI M 175) k))) ⟨rfl, MO_rw hB h2D, by rw [mI_mW, rw_at, h2d]; exact hk⟩ (by omega)]
      rw [mI_mW, rw_at, rw_rw, mW_mW]
      rfl
    have e1 : gr1 (mI M 175) k 4 448 = nI (uG (mI M 175)) := by rw [gr1_o (by omega), hG]
    have e2 : gr1 (mI M 175) k 4 451 = mI M 175 451 := gr1_o (by omega)
    refine X_runT (C := C_M_grants) (S := S_M_grants) (T := t_M_grants_39) 1000 kt_M_grants (okE_cons (ok_M_demandOf Z d) (okE_cons (ok_M_leavesDemand Z d) okE_nil)) ?_
    simp (maxSteps := 3000000) (disch := first | exact True.intro | assumption | omega) only [↓eq_self, Option.toList_some, Option.toList_none, List.nil_append, List.cons_append, wsum_0, wsum_1, wsum_2, wsum_3, wsum_4, lkill, ↓reduceIte, if_true, if_false, Bool.false_eq_true, and_true, true_and, and_self, or_self, true_or, or_true, not_true, not_false_iff, mR_stI, mN_stI, isO_stI, isA_stI, mI_stI, mR_mW, mN_mW, isO_mW, isA_mW, mI_mW, mW_mW, stI_mW, vp_0, nI_add, nI_ltI, nI_leI, nI_eq, vpi, nI_clamp, nI_toN, nI_geT, nI_lt4, pk_mul, pk_sub, bv_0n, bv_1n, ↓bv_01n, n01a, n01b, Nat.reduceSub, u2_rw, rw_rw, rw_at, rw_ne, rw_175_174, rw_176_174, rw_176_175, rw_177_174, rw_177_175, rw_177_176, rw_178_174, rw_178_175, rw_178_176, rw_178_177, rw_179_174, rw_179_175, rw_179_176, rw_179_177, rw_179_178, rw_180_174, rw_180_175, rw_180_176, rw_180_177, rw_180_178, rw_180_179, up_at, up_ne, Nat.zero_add, Nat.add_zero, bk_oM hB, bk_m0 hB, bk_m1 hB, bk_m2 hB, bk_m4 hB, bk_m6 hB, bk_m9 hB, md_a hB, md_p hB, md_s hB, md_t hB, md_r hB, md_v hB, ite_nt, ↓g_M_grants_0, ↓g_M_grants_21, ↓g_M_grants_39, ↓g_M_grants_45, ↓g_M_grants_62, ↓g_M_grants_69, ↓g_M_grants_90, ↓g_M_grants_107, Nat.le_refl, e1, e2, ← gr2.eq_1, hld]
    exact ⟨rfl, rfl⟩
  | succ n ih =>
    intro r hr
    have h1 : ¬ 4 ≤ r := by omega
    have hdo : ∀ {K : Option Value → Mem → Prop}, pcall e_M_demandOf [.ref 174, .int (nI k), .int (nI r)] (mW M (rwF (mI M) 175 (gr1 (mI M 175) k r))) K = K (some (.int (mI M 175 (320 + 5 * k + r)))) (mW M (rwF (mI M) 175 (gr1 (mI M 175) k r))) := by
      intro K
      rw [pc_M_demandOf (o := 174) (k := k) (w := r) (M := mW M (rwF (mI M) 175 (gr1 (mI M 175) k r))) ⟨rfl, hB, by omega, by omega⟩ (by omega) (by omega)]
      rw [mI_mW, rw_at, gr1_o (by omega)]
    refine X_runT (C := C_M_grants) (S := S_M_grants) (T := t_M_grants_39) 1000 kt_M_grants (okE_cons (ok_M_demandOf Z d) (okE_cons (ok_M_leavesDemand Z d) okE_nil)) ?_
    simp (maxSteps := 3000000) (disch := first | exact True.intro | assumption | omega) only [↓eq_self, Option.toList_some, Option.toList_none, List.nil_append, List.cons_append, wsum_0, wsum_1, wsum_2, wsum_3, wsum_4, lkill, ↓reduceIte, if_true, if_false, Bool.false_eq_true, and_true, true_and, and_self, or_self, true_or, or_true, not_true, not_false_iff, mR_stI, mN_stI, isO_stI, isA_stI, mI_stI, mR_mW, mN_mW, isO_mW, isA_mW, mI_mW, mW_mW, stI_mW, vp_0, nI_add, nI_ltI, nI_leI, nI_eq, vpi, nI_clamp, nI_toN, nI_geT, nI_lt4, pk_mul, pk_sub, bv_0n, bv_1n, ↓bv_01n, n01a, n01b, Nat.reduceSub, u2_rw, rw_rw, rw_at, rw_ne, rw_175_174, rw_176_174, rw_176_175, rw_177_174, rw_177_175, rw_177_176, rw_178_174, rw_178_175, rw_178_176, rw_178_177, rw_179_174, rw_179_175, rw_179_176, rw_179_177, rw_179_178, rw_180_174, rw_180_175, rw_180_176, rw_180_177, rw_180_178, rw_180_179, up_at, up_ne, Nat.zero_add, Nat.add_zero, bk_oM hB, bk_m0 hB, bk_m1 hB, bk_m2 hB, bk_m4 hB, bk_m6 hB, bk_m9 hB, md_a hB, md_p hB, md_s hB, md_t hB, md_r hB, md_v hB, ite_nt, ↓g_M_grants_0, ↓g_M_grants_21, ↓g_M_grants_39, ↓g_M_grants_45, ↓g_M_grants_62, ↓g_M_grants_69, ↓g_M_grants_90, ↓g_M_grants_107, h1, hdo, gr1_s]
    exact ih (r + 1) (by omega)
set_option maxRecDepth 100000 in
set_option maxHeartbeats 4000000 in
theorem ok_M_grants (Z : Zt) (d : Nat) : okE Z (d + 2) i_M_grants e_M_grants := mk_M_grants fun o k M h1 hp => by
  obtain ⟨rfl, hM, hk, hg⟩ := hp
  obtain ⟨hB, hU⟩ := id hM
  have h24 := hU.2.2.1.2
  have hG := hU.2.1.1
  have hdo : ∀ {K : Option Value → Mem → Prop}, pcall e_M_demandOf [.ref 174, .int (nI k), .int (nI 4)] M K = K (some (.int (mI M 175 (320 + 5 * k + 4)))) M := pc_M_demandOf (o := 174) (k := k) (w := 4) (M := M) ⟨rfl, hB, by omega, by omega⟩ (by omega) (by omega)
  refine Gm_run (C := C_M_grants) (S := S_M_grants) [some (.ref 174), some (.int (nI k)), none, none, none] 1000 kt_M_grants (okE_cons (ok_M_demandOf Z d) (okE_cons (ok_M_leavesDemand Z d) okE_nil)) (ex_n rfl) ?_
  simp (maxSteps := 3000000) (disch := first | exact True.intro | assumption | omega) only [↓eq_self, Option.toList_some, Option.toList_none, List.nil_append, List.cons_append, wsum_0, wsum_1, wsum_2, wsum_3, wsum_4, lkill, ↓reduceIte, if_true, if_false, Bool.false_eq_true, and_true, true_and, and_self, or_self, true_or, or_true, not_true, not_false_iff, mR_stI, mN_stI, isO_stI, isA_stI, mI_stI, mR_mW, mN_mW, isO_mW, isA_mW, mI_mW, mW_mW, stI_mW, vp_0, nI_add, nI_ltI, nI_leI, nI_eq, vpi, nI_clamp, nI_toN, nI_geT, nI_lt4, pk_mul, pk_sub, bv_0n, bv_1n, ↓bv_01n, n01a, n01b, Nat.reduceSub, u2_rw, rw_rw, rw_at, rw_ne, rw_175_174, rw_176_174, rw_176_175, rw_177_174, rw_177_175, rw_177_176, rw_178_174, rw_178_175, rw_178_176, rw_178_177, rw_179_174, rw_179_175, rw_179_176, rw_179_177, rw_179_178, rw_180_174, rw_180_175, rw_180_176, rw_180_177, rw_180_178, rw_180_179, up_at, up_ne, Nat.zero_add, Nat.add_zero, bk_oM hB, bk_m0 hB, bk_m1 hB, bk_m2 hB, bk_m4 hB, bk_m6 hB, bk_m9 hB, md_a hB, md_p hB, md_s hB, md_t hB, md_r hB, md_v hB, ite_nt, ↓g_M_grants_0, ↓g_M_grants_21, ↓g_M_grants_39, ↓g_M_grants_45, ↓g_M_grants_62, ↓g_M_grants_69, ↓g_M_grants_90, ↓g_M_grants_107, hG, hdo, gr1_0 _ k]
  exact lp_M_grants Z d hM hk hg 4 0 rfl
/-! bankruptcy -/
theorem addm1 (x : Int32) : x + (-1 : Int32) = x - nI 1 := by
  rw [Int32.sub_eq_add_neg]
  rfl
def rgU (t : Nat) : Nat → (Nat → Int32) → Nat → Int32
  | 0, u => u
  | k + 1, u => rgU t k (if u (80 + 6 * k + 5) = nI t then lgU u k else u)
def rdU (t : Nat) : Nat → (Nat → Int32) → Nat → Int32
  | 0, u => u
  | k + 1, u => rdU t k (if u (320 + 5 * k + 4) = nI t then ldU u k else u)
def gb1 (u : Nat → Int32) (t r : Nat) : Nat → Int32 :=
  let l := u (8 + 12 * t + (8 + r))
  let u1 := cfU u r l
  let u2 := upF u1 (8 + 12 * t + (4 + r)) (u1 (8 + 12 * t + (4 + r)) + -l)
  upF u2 (8 + 12 * t + (8 + r)) (u2 (8 + 12 * t + (8 + r)) + -l)
def gbP (u : Nat → Int32) (t : Nat) : Nat → Nat → Int32
  | 0 => u
  | r + 1 => gb1 (gbP u t r) t r
def gb2 (u : Nat → Int32) (t : Nat) : Nat → Int32 := upF u (8 + 12 * t + 1) (u (8 + 12 * t + 1) + -u (8 + 12 * t + 1))
def gb3 (u : Nat → Int32) (t : Nat) : Nat → Int32 := upF (upF (upF (upF (upF u (8 + 12 * t + 3) (nI 0)) (8 + 12 * t + 2) (u 446)) (440 + uB u) (nI t)) 450 (nI (uB u + 1))) 453 (u 453 + nI 1)
def bnA (u : Nat → Int32) (t : Nat) : Nat → Int32 := rgU t (uG u) u
def bnB (u : Nat → Int32) (t : Nat) : Nat → Int32 := rdU t (uD (bnA u t)) (bnA u t)
def bnU (u : Nat → Int32) (t : Nat) : Nat → Int32 := gb3 (gb2 (gbP (bnB u t) t 4) t) t
theorem rgU_D (t : Nat) : ∀ k u, MdD u → MdD (rgU t k u)
  | 0, u, h => h
  | k + 1, u, h => by
    unfold rgU
    split
    · exact rgU_D t k _ (lgU_D h)
    · exact rgU_D t k _ h
theorem rdU_D (t : Nat) : ∀ k u, MdD u → MdD (rdU t k u)
  | 0, u, h => h
  | k + 1, u, h => by
    unfold rdU
    split
    · exact rdU_D t k _ (ldU_D h)
    · exact rdU_D t k _ h
theorem rgU_o {t y : Nat} (h : y < 80 ∨ 320 ≤ y) (h2 : y ≠ 448) : ∀ k u, MdD u → rgU t k u y = u y
  | 0, u, hu => rfl
  | k + 1, u, hu => by
    unfold rgU
    split
    · rw [rgU_o h h2 k _ (lgU_D hu), lgU_o h h2 hu.2.1.2]
    · exact rgU_o h h2 k _ hu
theorem rdU_o {t y : Nat} (h : y < 320 ∨ 440 ≤ y) (h2 : y ≠ 449) : ∀ k u, MdD u → rdU t k u y = u y
  | 0, u, hu => rfl
  | k + 1, u, hu => by
    unfold rdU
    split
    · rw [rdU_o h h2 k _ (ldU_D hu), ldU_o h h2 hu.2.2.1.2]
    · exact rdU_o h h2 k _ hu
theorem gb1_o {u : Nat → Int32} {t r y : Nat} (h1 : y ≠ 4 + r) (h2 : y ≠ 8 + 12 * t + (4 + r)) (h3 : y ≠ 8 + 12 * t + (8 + r)) : gb1 u t r y = u y := by
  unfold gb1 cfU
  rw [up_ne h3, up_ne h2, up_ne h1]
theorem gbP_o {u : Nat → Int32} {t y : Nat} (ht : t < 6) (h1 : y < 4 ∨ 80 ≤ y) : ∀ r, r ≤ 4 → gbP u t r y = u y
  | 0, _ => rfl
  | r + 1, hr => by
    unfold gbP
    rw [gb1_o (by omega) (by omega) (by omega), gbP_o ht h1 r (by omega)]
theorem gbP_D {u : Nat → Int32} {t r : Nat} (ht : t < 6) (hr : r ≤ 4) (h : MdD u) : MdD (gbP u t r) := MdD_cg h (gbP_o ht (by omega) r hr) (gbP_o ht (by omega) r hr) (gbP_o ht (by omega) r hr) (gbP_o ht (by omega) r hr)
theorem bnA_D {u : Nat → Int32} {t : Nat} (h : MdD u) : MdD (bnA u t) := rgU_D t _ u h
theorem bnB_D {u : Nat → Int32} {t : Nat} (h : MdD u) : MdD (bnB u t) := rdU_D t _ _ (bnA_D h)
theorem bnB_o {u : Nat → Int32} {t y : Nat} (h : MdD u) (h1 : y < 80 ∨ 440 ≤ y) (h2 : y ≠ 448) (h3 : y ≠ 449) : bnB u t y = u y := by
  unfold bnB
  rw [rdU_o (by omega) h3 _ _ (bnA_D h)]
  unfold bnA
  rw [rgU_o (by omega) h2 _ _ h]
theorem gb2_D {u : Nat → Int32} {t : Nat} (ht : t < 6) (h : MdD u) : MdD (gb2 u t) := MdD_cg h (up_ne (by omega)) (up_ne (by omega)) (up_ne (by omega)) (up_ne (by omega))
theorem gb2_o {u : Nat → Int32} {t y : Nat} (h : y ≠ 8 + 12 * t + 1) : gb2 u t y = u y := up_ne h
def e_M_goesBankrupt : Ent := (fun av M => ∃ (o : Nat) (t : Nat), av = [.ref o, .int (nI t)] ∧ t < 2 ^ 31 ∧ (o = 174 ∧ MO M ∧ t < 6 ∧ uB (mI M 175) < 6), fun av M r_ M_ => ∀ (o : Nat) (t : Nat), t < 2 ^ 31 → av = [.ref o, .int (nI t)] → r_ = (none) ∧ M_ = (mW M (rwF (mI M) 175 (bnU (mI M 175) t))))
theorem pc_M_goesBankrupt {o : Nat} {t : Nat} {M : Mem} {K : Option Value → Mem → Prop} (hp : o = 174 ∧ MO M ∧ t < 6 ∧ uB (mI M 175) < 6) (h_t : t < 2 ^ 31) : pcall e_M_goesBankrupt [.ref o, .int (nI t)] M K = K (none) (mW M (rwF (mI M) 175 (bnU (mI M 175) t))) := propext ⟨fun h => h.2 _ _ (fun o' t' h_t' e => by simp only [List.cons.injEq, Value.ref.injEq, Value.int.injEq, Value.long.injEq, and_true] at e; obtain ⟨q0, q1⟩ := e; obtain rfl := q0; obtain rfl := (nI_eq h_t h_t').mp q1; exact ⟨rfl, rfl⟩), fun h => ⟨⟨o, t, rfl, h_t, hp⟩, fun r_ M_ q => by obtain ⟨rfl, rfl⟩ := q _ _ h_t rfl; exact h⟩⟩
theorem mk_M_goesBankrupt {Z : Zt} {d : Nat} (h : ∀ (o : Nat) (t : Nat) (M : Mem), t < 2 ^ 31 → (o = 174 ∧ MO M ∧ t < 6 ∧ uB (mI M 175) < 6) → Gm Z d s_M_goesBankrupt [.ref o, .int (nI t)] M (ex (none) (mW M (rwF (mI M) 175 (bnU (mI M 175) t))))) : okE Z d i_M_goesBankrupt e_M_goesBankrupt := by
  rintro av M ⟨o, t, rfl, h_t, hp⟩
  exact Gm.cons (h o t M h_t hp) (fun r_ M_ q o' t' h_t' e => by simp only [List.cons.injEq, Value.ref.injEq, Value.int.injEq, Value.long.injEq, and_true] at e; obtain ⟨q0, q1⟩ := e; obtain rfl := q0; obtain rfl := (nI_eq h_t h_t').mp q1; exact q)
def C_M_goesBankrupt : List (Nat × Ent) := [(i_M_grantOf, e_M_grantOf), (i_M_leavesGrant, e_M_leavesGrant), (i_M_demandOf, e_M_demandOf), (i_M_leavesDemand, e_M_leavesDemand), (i_M_of, e_M_of), (i_M_comesToFund, e_M_comesToFund), (i_M_adds, e_M_adds)]
abbrev S_M_goesBankrupt : List Nat := [11, 47, 74]
def t_M_goesBankrupt_202 : List PI := (202, 1, 1, 0, 0, 0, []) :: (203, 8, 1, 5, 0, 0, [7]) :: (206, 0, 0, 0, 2, 453, []) :: (209, 7, 1, 0, 0, 0, []) :: (210, 8, 4, 0, 0, 0, []) :: (211, 0, 0, 0, 0, 1, []) :: (212, 2, 0, 0, 0, 0, []) :: (213, 10, 4, 0, 0, 0, []) :: (214, 9, 5, 0, 0, 0, []) :: []
def t_M_goesBankrupt_172 : List PI := (172, 1, 1, 0, 0, 0, []) :: (173, 8, 1, 5, 0, 0, [7]) :: (176, 0, 0, 0, 2, 440, []) :: (179, 1, 1, 0, 0, 0, []) :: (180, 8, 1, 5, 0, 0, [7]) :: (183, 0, 0, 0, 2, 450, []) :: (186, 8, 4, 0, 0, 0, []) :: (187, 2, 0, 0, 0, 0, []) :: (188, 1, 0, 1, 0, 0, []) :: (189, 10, 4, 0, 0, 0, []) :: (190, 1, 1, 0, 0, 0, []) :: (191, 8, 1, 5, 0, 0, [7]) :: (194, 0, 0, 0, 2, 450, []) :: (197, 7, 1, 0, 0, 0, []) :: (198, 8, 4, 0, 0, 0, []) :: (199, 0, 0, 0, 0, 1, []) :: (200, 2, 0, 0, 0, 0, []) :: (201, 10, 4, 0, 0, 0, []) :: t_M_goesBankrupt_202
def t_M_goesBankrupt_135 : List PI := (135, 1, 1, 0, 0, 0, []) :: (136, 8, 1, 5, 0, 0, [7]) :: (139, 0, 0, 0, 1, 8, []) :: (141, 0, 0, 0, 1, 12, []) :: (143, 1, 0, 1, 0, 0, []) :: (144, 2, 2, 0, 0, 0, []) :: (145, 2, 0, 0, 0, 0, []) :: (146, 0, 0, 0, 0, 3, []) :: (147, 2, 0, 0, 0, 0, []) :: (148, 0, 0, 0, 0, 0, []) :: (149, 10, 4, 0, 0, 0, []) :: (150, 1, 1, 0, 0, 0, []) :: (151, 8, 1, 5, 0, 0, [7]) :: (154, 0, 0, 0, 1, 8, []) :: (156, 0, 0, 0, 1, 12, []) :: (158, 1, 0, 1, 0, 0, []) :: (159, 2, 2, 0, 0, 0, []) :: (160, 2, 0, 0, 0, 0, []) :: (161, 0, 0, 0, 0, 2, []) :: (162, 2, 0, 0, 0, 0, []) :: (163, 1, 1, 0, 0, 0, []) :: (164, 8, 1, 5, 0, 0, [7]) :: (167, 0, 0, 0, 2, 446, []) :: (170, 8, 4, 0, 0, 0, []) :: (171, 10, 4, 0, 0, 0, []) :: t_M_goesBankrupt_172
def t_M_goesBankrupt_131 : List PI := (131, 2, 5, 0, 0, 0, []) :: (132, 11, 0, 5, 106, 0, [134, 4]) :: t_M_goesBankrupt_135
def t_M_goesBankrupt_122 : List PI := (122, 1, 1, 0, 0, 0, []) :: (123, 1, 0, 1, 0, 0, []) :: (124, 0, 0, 0, 0, 1, []) :: (125, 1, 1, 0, 0, 0, []) :: (126, 1, 0, 1, 0, 0, []) :: (127, 0, 0, 0, 0, 1, []) :: (128, 11, 0, 5, 105, 0, [84, 3]) :: t_M_goesBankrupt_131
def t_M_goesBankrupt_116 : List PI := (116, 1, 6, 2, 0, 1, []) :: (119, 6, 0, 74, 0, 0, []) :: t_M_goesBankrupt_122
def t_M_goesBankrupt_105 : List PI := (105, 1, 1, 0, 0, 0, []) :: (106, 1, 0, 1, 0, 0, []) :: (107, 0, 0, 0, 1, 8, []) :: (109, 1, 0, 2, 0, 0, []) :: (110, 2, 0, 0, 0, 0, []) :: (111, 1, 0, 3, 0, 0, []) :: (112, 2, 5, 0, 0, 0, []) :: (113, 11, 0, 5, 106, 0, [134, 4]) :: t_M_goesBankrupt_116
def t_M_goesBankrupt_95 : List PI := (95, 1, 1, 0, 0, 0, []) :: (96, 1, 0, 1, 0, 0, []) :: (97, 0, 0, 0, 0, 4, []) :: (98, 1, 0, 2, 0, 0, []) :: (99, 2, 0, 0, 0, 0, []) :: (100, 1, 0, 3, 0, 0, []) :: (101, 2, 5, 0, 0, 0, []) :: (102, 11, 0, 5, 106, 0, [134, 4]) :: t_M_goesBankrupt_105
def t_M_goesBankrupt_88 : List PI := (88, 1, 3, 3, 0, 0, []) :: (89, 1, 1, 0, 0, 0, []) :: (90, 1, 0, 2, 0, 0, []) :: (91, 1, 0, 3, 0, 0, []) :: (92, 11, 0, 5, 144, 0, [138, 3]) :: t_M_goesBankrupt_95
def t_M_goesBankrupt_79 : List PI := (79, 1, 1, 0, 0, 0, []) :: (80, 1, 0, 1, 0, 0, []) :: (81, 0, 0, 0, 1, 8, []) :: (83, 1, 0, 2, 0, 0, []) :: (84, 2, 0, 0, 0, 0, []) :: (85, 11, 0, 5, 105, 0, [84, 3]) :: t_M_goesBankrupt_88
def t_M_goesBankrupt_74 : List PI := (74, 1, 0, 2, 0, 0, []) :: (75, 0, 0, 0, 0, 4, []) :: (76, 4, 3, 122, 0, 0, []) :: t_M_goesBankrupt_79
def t_M_goesBankrupt_72 : List PI := (72, 0, 0, 0, 0, 0, []) :: (73, 1, 3, 2, 0, 0, []) :: t_M_goesBankrupt_74
def t_M_goesBankrupt_66 : List PI := (66, 1, 6, 2, 0, -1, []) :: (69, 6, 0, 47, 0, 0, []) :: t_M_goesBankrupt_72
def t_M_goesBankrupt_61 : List PI := (61, 1, 1, 0, 0, 0, []) :: (62, 1, 0, 2, 0, 0, []) :: (63, 11, 0, 5, 134, 0, [104, 2]) :: t_M_goesBankrupt_66
def t_M_goesBankrupt_57 : List PI := (57, 1, 0, 1, 0, 0, []) :: (58, 4, 1, 66, 0, 0, []) :: t_M_goesBankrupt_61
def t_M_goesBankrupt_51 : List PI := (51, 1, 1, 0, 0, 0, []) :: (52, 1, 0, 2, 0, 0, []) :: (53, 0, 0, 0, 0, 4, []) :: (54, 11, 0, 5, 122, 0, [97, 3]) :: t_M_goesBankrupt_57
def t_M_goesBankrupt_47 : List PI := (47, 1, 0, 2, 0, 0, []) :: (48, 5, 2, 72, 0, 0, []) :: t_M_goesBankrupt_51
def t_M_goesBankrupt_36 : List PI := (36, 1, 1, 0, 0, 0, []) :: (37, 8, 1, 5, 0, 0, [7]) :: (40, 0, 0, 0, 2, 449, []) :: (43, 8, 4, 0, 0, 0, []) :: (44, 0, 0, 0, 0, 1, []) :: (45, 2, 1, 0, 0, 0, []) :: (46, 1, 3, 2, 0, 0, []) :: t_M_goesBankrupt_47
def t_M_goesBankrupt_30 : List PI := (30, 1, 6, 2, 0, -1, []) :: (33, 6, 0, 11, 0, 0, []) :: t_M_goesBankrupt_36
def t_M_goesBankrupt_25 : List PI := (25, 1, 1, 0, 0, 0, []) :: (26, 1, 0, 2, 0, 0, []) :: (27, 11, 0, 5, 135, 0, [125, 2]) :: t_M_goesBankrupt_30
def t_M_goesBankrupt_21 : List PI := (21, 1, 0, 1, 0, 0, []) :: (22, 4, 1, 30, 0, 0, []) :: t_M_goesBankrupt_25
def t_M_goesBankrupt_15 : List PI := (15, 1, 1, 0, 0, 0, []) :: (16, 1, 0, 2, 0, 0, []) :: (17, 0, 0, 0, 0, 5, []) :: (18, 11, 0, 5, 121, 0, [77, 3]) :: t_M_goesBankrupt_21
def t_M_goesBankrupt_11 : List PI := (11, 1, 0, 2, 0, 0, []) :: (12, 5, 2, 36, 0, 0, []) :: t_M_goesBankrupt_15
def t_M_goesBankrupt_0 : List PI := (0, 1, 1, 0, 0, 0, []) :: (1, 8, 1, 5, 0, 0, [7]) :: (4, 0, 0, 0, 2, 448, []) :: (7, 8, 4, 0, 0, 0, []) :: (8, 0, 0, 0, 0, 1, []) :: (9, 2, 1, 0, 0, 0, []) :: (10, 1, 3, 2, 0, 0, []) :: t_M_goesBankrupt_11
theorem kt_M_goesBankrupt : okP s_M_goesBankrupt t_M_goesBankrupt_0 := k_M_goesBankrupt
theorem g_M_goesBankrupt_0 {Z : Zt} {nF f : Nat} {Kx : Nat → Kt} {Q : Option Value → Mem → Prop} {M : Mem} {x1 : Nat} {x2 : Int32} : run Z nF C_M_goesBankrupt S_M_goesBankrupt Kx Q (f + 7) t_M_goesBankrupt_0 [some (.ref (x1)), some (.int (x2)), none, none] [] M = (isO (M) (x1) 5 ∧ isA (M) (mR (M) (x1) 0) ((nI 448)) ∧ Kx 11 [some (.ref (x1)), some (.int (x2)), some (.int ((mI (M) (mR (M) (x1) 0) (Int32.toNatClampNeg ((nI 448)))) - ((nI 1)))), none] [] (M)) := rfl
theorem g_M_goesBankrupt_11 {Z : Zt} {nF f : Nat} {Kx : Nat → Kt} {Q : Option Value → Mem → Prop} {M : Mem} {x1 : Nat} {x2 : Int32} {x3 : Int32} : run Z nF C_M_goesBankrupt S_M_goesBankrupt Kx Q (f + 2) t_M_goesBankrupt_11 [some (.ref (x1)), some (.int (x2)), some (.int (x3)), none] [] M = ((if (x3) < nI 0 then run Z nF C_M_goesBankrupt S_M_goesBankrupt Kx Q f t_M_goesBankrupt_36 [some (.ref (x1)), some (.int (x2)), some (.int (x3)), none] [] (M) else run Z nF C_M_goesBankrupt S_M_goesBankrupt Kx Q f t_M_goesBankrupt_15 [some (.ref (x1)), some (.int (x2)), some (.int (x3)), none] [] (M))) := rfl
theorem g_M_goesBankrupt_15 {Z : Zt} {nF f : Nat} {Kx : Nat → Kt} {Q : Option Value → Mem → Prop} {M : Mem} {x1 : Nat} {x2 : Int32} {x3 : Int32} : run Z nF C_M_goesBankrupt S_M_goesBankrupt Kx Q (f + 4) t_M_goesBankrupt_15 [some (.ref (x1)), some (.int (x2)), some (.int (x3)), none] [] M = (((isO (M) (x1) 5) ∧ wsum [] ≤ 8) ∧ pcall e_M_grantOf [.ref (x1), .int (x3), .int ((nI 5))] (M) (fun v M_ => run Z nF C_M_goesBankrupt S_M_goesBankrupt Kx Q f t_M_goesBankrupt_21 [some (.ref (x1)), some (.int (x2)), some (.int (x3)), none] (v.toList ++ []) M_)) := rfl
theorem g_M_goesBankrupt_21 {Z : Zt} {nF f : Nat} {Kx : Nat → Kt} {Q : Option Value → Mem → Prop} {M : Mem} {x1 : Nat} {x2 : Int32} {x3 : Int32} {x4 : Int32} : run Z nF C_M_goesBankrupt S_M_goesBankrupt Kx Q (f + 2) t_M_goesBankrupt_21 [some (.ref (x1)), some (.int (x2)), some (.int (x3)), none] [.int (x4)] M = ((if (x4) = (x2) then run Z nF C_M_goesBankrupt S_M_goesBankrupt Kx Q f t_M_goesBankrupt_25 [some (.ref (x1)), some (.int (x2)), some (.int (x3)), none] [] (M) else run Z nF C_M_goesBankrupt S_M_goesBankrupt Kx Q f t_M_goesBankrupt_30 [some (.ref (x1)), some (.int (x2)), some (.int (x3)), none] [] (M))) := rfl
theorem g_M_goesBankrupt_25 {Z : Zt} {nF f : Nat} {Kx : Nat → Kt} {Q : Option Value → Mem → Prop} {M : Mem} {x1 : Nat} {x2 : Int32} {x3 : Int32} : run Z nF C_M_goesBankrupt S_M_goesBankrupt Kx Q (f + 3) t_M_goesBankrupt_25 [some (.ref (x1)), some (.int (x2)), some (.int (x3)), none] [] M = (((isO (M) (x1) 5) ∧ wsum [] ≤ 8) ∧ pcall e_M_leavesGrant [.ref (x1), .int (x3)] (M) (fun v M_ => run Z nF C_M_goesBankrupt S_M_goesBankrupt Kx Q f t_M_goesBankrupt_30 [some (.ref (x1)), some (.int (x2)), some (.int (x3)), none] (v.toList ++ []) M_)) := rfl
theorem g_M_goesBankrupt_30 {Z : Zt} {nF f : Nat} {Kx : Nat → Kt} {Q : Option Value → Mem → Prop} {M : Mem} {x1 : Nat} {x2 : Int32} {x3 : Int32} : run Z nF C_M_goesBankrupt S_M_goesBankrupt Kx Q (f + 2) t_M_goesBankrupt_30 [some (.ref (x1)), some (.int (x2)), some (.int (x3)), none] [] M = (Kx 11 [some (.ref (x1)), some (.int (x2)), some (.int (x3 + (-1 : Int32))), none] [] (M)) := rfl
theorem g_M_goesBankrupt_36 {Z : Zt} {nF f : Nat} {Kx : Nat → Kt} {Q : Option Value → Mem → Prop} {M : Mem} {x1 : Nat} {x2 : Int32} {x3 : Int32} : run Z nF C_M_goesBankrupt S_M_goesBankrupt Kx Q (f + 7) t_M_goesBankrupt_36 [some (.ref (x1)), some (.int (x2)), some (.int (x3)), none] [] M = (isO (M) (x1) 5 ∧ isA (M) (mR (M) (x1) 0) ((nI 449)) ∧ Kx 47 [some (.ref (x1)), some (.int (x2)), some (.int ((mI (M) (mR (M) (x1) 0) (Int32.toNatClampNeg ((nI 449)))) - ((nI 1)))), none] [] (M)) := rfl
theorem g_M_goesBankrupt_47 {Z : Zt} {nF f : Nat} {Kx : Nat → Kt} {Q : Option Value → Mem → Prop} {M : Mem} {x1 : Nat} {x2 : Int32} {x3 : Int32} : run Z nF C_M_goesBankrupt S_M_goesBankrupt Kx Q (f + 2) t_M_goesBankrupt_47 [some (.ref (x1)), some (.int (x2)), some (.int (x3)), none] [] M = ((if (x3) < nI 0 then run Z nF C_M_goesBankrupt S_M_goesBankrupt Kx Q f t_M_goesBankrupt_72 [some (.ref (x1)), some (.int (x2)), some (.int (x3)), none] [] (M) else run Z nF C_M_goesBankrupt S_M_goesBankrupt Kx Q f t_M_goesBankrupt_51 [some (.ref (x1)), some (.int (x2)), some (.int (x3)), none] [] (M))) := rfl
theorem g_M_goesBankrupt_51 {Z : Zt} {nF f : Nat} {Kx : Nat → Kt} {Q : Option Value → Mem → Prop} {M : Mem} {x1 : Nat} {x2 : Int32} {x3 : Int32} : run Z nF C_M_goesBankrupt S_M_goesBankrupt Kx Q (f + 4) t_M_goesBankrupt_51 [some (.ref (x1)), some (.int (x2)), some (.int (x3)), none] [] M = (((isO (M) (x1) 5) ∧ wsum [] ≤ 8) ∧ pcall e_M_demandOf [.ref (x1), .int (x3), .int ((nI 4))] (M) (fun v M_ => run Z nF C_M_goesBankrupt S_M_goesBankrupt Kx Q f t_M_goesBankrupt_57 [some (.ref (x1)), some (.int (x2)), some (.int (x3)), none] (v.toList ++ []) M_)) := rfl
theorem g_M_goesBankrupt_57 {Z : Zt} {nF f : Nat} {Kx : Nat → Kt} {Q : Option Value → Mem → Prop} {M : Mem} {x1 : Nat} {x2 : Int32} {x3 : Int32} {x4 : Int32} : run Z nF C_M_goesBankrupt S_M_goesBankrupt Kx Q (f + 2) t_M_goesBankrupt_57 [some (.ref (x1)), some (.int (x2)), some (.int (x3)), none] [.int (x4)] M = ((if (x4) = (x2) then run Z nF C_M_goesBankrupt S_M_goesBankrupt Kx Q f t_M_goesBankrupt_61 [some (.ref (x1)), some (.int (x2)), some (.int (x3)), none] [] (M) else run Z nF C_M_goesBankrupt S_M_goesBankrupt Kx Q f t_M_goesBankrupt_66 [some (.ref (x1)), some (.int (x2)), some (.int (x3)), none] [] (M))) := rfl
theorem g_M_goesBankrupt_61 {Z : Zt} {nF f : Nat} {Kx : Nat → Kt} {Q : Option Value → Mem → Prop} {M : Mem} {x1 : Nat} {x2 : Int32} {x3 : Int32} : run Z nF C_M_goesBankrupt S_M_goesBankrupt Kx Q (f + 3) t_M_goesBankrupt_61 [some (.ref (x1)), some (.int (x2)), some (.int (x3)), none] [] M = (((isO (M) (x1) 5) ∧ wsum [] ≤ 8) ∧ pcall e_M_leavesDemand [.ref (x1), .int (x3)] (M) (fun v M_ => run Z nF C_M_goesBankrupt S_M_goesBankrupt Kx Q f t_M_goesBankrupt_66 [some (.ref (x1)), some (.int (x2)), some (.int (x3)), none] (v.toList ++ []) M_)) := rfl
theorem g_M_goesBankrupt_66 {Z : Zt} {nF f : Nat} {Kx : Nat → Kt} {Q : Option Value → Mem → Prop} {M : Mem} {x1 : Nat} {x2 : Int32} {x3 : Int32} : run Z nF C_M_goesBankrupt S_M_goesBankrupt Kx Q (f + 2) t_M_goesBankrupt_66 [some (.ref (x1)), some (.int (x2)), some (.int (x3)), none] [] M = (Kx 47 [some (.ref (x1)), some (.int (x2)), some (.int (x3 + (-1 : Int32))), none] [] (M)) := rfl
theorem g_M_goesBankrupt_72 {Z : Zt} {nF f : Nat} {Kx : Nat → Kt} {Q : Option Value → Mem → Prop} {M : Mem} {x1 : Nat} {x2 : Int32} {x3 : Int32} : run Z nF C_M_goesBankrupt S_M_goesBankrupt Kx Q (f + 2) t_M_goesBankrupt_72 [some (.ref (x1)), some (.int (x2)), some (.int (x3)), none] [] M = (Kx 74 [some (.ref (x1)), some (.int (x2)), some (.int ((nI 0))), none] [] (M)) := rfl
theorem g_M_goesBankrupt_74 {Z : Zt} {nF f : Nat} {Kx : Nat → Kt} {Q : Option Value → Mem → Prop} {M : Mem} {x1 : Nat} {x2 : Int32} {x3 : Int32} {x4 : Option Value} : run Z nF C_M_goesBankrupt S_M_goesBankrupt Kx Q (f + 3) t_M_goesBankrupt_74 [some (.ref (x1)), some (.int (x2)), some (.int (x3)), x4] [] M = ((if ((nI 4)) ≤ (x3) then run Z nF C_M_goesBankrupt S_M_goesBankrupt Kx Q f t_M_goesBankrupt_122 [some (.ref (x1)), some (.int (x2)), some (.int (x3)), x4] [] (M) else run Z nF C_M_goesBankrupt S_M_goesBankrupt Kx Q f t_M_goesBankrupt_79 [some (.ref (x1)), some (.int (x2)), some (.int (x3)), x4] [] (M))) := rfl
theorem g_M_goesBankrupt_79 {Z : Zt} {nF f : Nat} {Kx : Nat → Kt} {Q : Option Value → Mem → Prop} {M : Mem} {x1 : Nat} {x2 : Int32} {x3 : Int32} {x4 : Option Value} : run Z nF C_M_goesBankrupt S_M_goesBankrupt Kx Q (f + 6) t_M_goesBankrupt_79 [some (.ref (x1)), some (.int (x2)), some (.int (x3)), x4] [] M = (((isO (M) (x1) 5) ∧ wsum [] ≤ 8) ∧ pcall e_M_of [.ref (x1), .int (x2), .int (((nI 8)) + (x3))] (M) (fun v M_ => run Z nF C_M_goesBankrupt S_M_goesBankrupt Kx Q f t_M_goesBankrupt_88 [some (.ref (x1)), some (.int (x2)), some (.int (x3)), x4] (v.toList ++ []) M_)) := rfl
theorem g_M_goesBankrupt_88 {Z : Zt} {nF f : Nat} {Kx : Nat → Kt} {Q : Option Value → Mem → Prop} {M : Mem} {x1 : Nat} {x2 : Int32} {x3 : Int32} {x4 : Option Value} {x5 : Int32} : run Z nF C_M_goesBankrupt S_M_goesBankrupt Kx Q (f + 5) t_M_goesBankrupt_88 [some (.ref (x1)), some (.int (x2)), some (.int (x3)), x4] [.int (x5)] M = (((isO (M) (x1) 5) ∧ wsum [] ≤ 8) ∧ pcall e_M_comesToFund [.ref (x1), .int (x3), .int (x5)] (M) (fun v M_ => run Z nF C_M_goesBankrupt S_M_goesBankrupt Kx Q f t_M_goesBankrupt_95 [some (.ref (x1)), some (.int (x2)), some (.int (x3)), some (.int (x5))] (v.toList ++ []) M_)) := rfl
theorem g_M_goesBankrupt_95 {Z : Zt} {nF f : Nat} {Kx : Nat → Kt} {Q : Option Value → Mem → Prop} {M : Mem} {x1 : Nat} {x2 : Int32} {x3 : Int32} {x4 : Int32} : run Z nF C_M_goesBankrupt S_M_goesBankrupt Kx Q (f + 8) t_M_goesBankrupt_95 [some (.ref (x1)), some (.int (x2)), some (.int (x3)), some (.int (x4))] [] M = (((isO (M) (x1) 5) ∧ wsum [] ≤ 8) ∧ pcall e_M_adds [.ref (x1), .int (x2), .int (((nI 4)) + (x3)), .int (-(x4))] (M) (fun v M_ => run Z nF C_M_goesBankrupt S_M_goesBankrupt Kx Q f t_M_goesBankrupt_105 [some (.ref (x1)), some (.int (x2)), some (.int (x3)), some (.int (x4))] (v.toList ++ []) M_)) := rfl
theorem g_M_goesBankrupt_105 {Z : Zt} {nF f : Nat} {Kx : Nat → Kt} {Q : Option Value → Mem → Prop} {M : Mem} {x1 : Nat} {x2 : Int32} {x3 : Int32} {x4 : Int32} : run Z nF C_M_goesBankrupt S_M_goesBankrupt Kx Q (f + 8) t_M_goesBankrupt_105 [some (.ref (x1)), some (.int (x2)), some (.int (x3)), some (.int (x4))] [] M = (((isO (M) (x1) 5) ∧ wsum [] ≤ 8) ∧ pcall e_M_adds [.ref (x1), .int (x2), .int (((nI 8)) + (x3)), .int (-(x4))] (M) (fun v M_ => run Z nF C_M_goesBankrupt S_M_goesBankrupt Kx Q f t_M_goesBankrupt_116 [some (.ref (x1)), some (.int (x2)), some (.int (x3)), some (.int (x4))] (v.toList ++ []) M_)) := rfl
theorem g_M_goesBankrupt_116 {Z : Zt} {nF f : Nat} {Kx : Nat → Kt} {Q : Option Value → Mem → Prop} {M : Mem} {x1 : Nat} {x2 : Int32} {x3 : Int32} {x4 : Int32} : run Z nF C_M_goesBankrupt S_M_goesBankrupt Kx Q (f + 2) t_M_goesBankrupt_116 [some (.ref (x1)), some (.int (x2)), some (.int (x3)), some (.int (x4))] [] M = (Kx 74 [some (.ref (x1)), some (.int (x2)), some (.int (x3 + (nI 1))), some (.int (x4))] [] (M)) := rfl
theorem g_M_goesBankrupt_122 {Z : Zt} {nF f : Nat} {Kx : Nat → Kt} {Q : Option Value → Mem → Prop} {M : Mem} {x1 : Nat} {x2 : Int32} {x3 : Int32} {x4 : Option Value} : run Z nF C_M_goesBankrupt S_M_goesBankrupt Kx Q (f + 7) t_M_goesBankrupt_122 [some (.ref (x1)), some (.int (x2)), some (.int (x3)), x4] [] M = (((isO (M) (x1) 5) ∧ wsum [.int ((nI 1)), .int (x2), .ref (x1)] ≤ 8) ∧ pcall e_M_of [.ref (x1), .int (x2), .int ((nI 1))] (M) (fun v M_ => run Z nF C_M_goesBankrupt S_M_goesBankrupt Kx Q f t_M_goesBankrupt_131 [some (.ref (x1)), some (.int (x2)), some (.int (x3)), x4] (v.toList ++ [.int ((nI 1)), .int (x2), .ref (x1)]) M_)) := rfl
theorem g_M_goesBankrupt_131 {Z : Zt} {nF f : Nat} {Kx : Nat → Kt} {Q : Option Value → Mem → Prop} {M : Mem} {x1 : Nat} {x2 : Int32} {x3 : Int32} {x4 : Option Value} {x5 : Int32} {x6 : Int32} {x7 : Int32} {x8 : Nat} : run Z nF C_M_goesBankrupt S_M_goesBankrupt Kx Q (f + 2) t_M_goesBankrupt_131 [some (.ref (x1)), some (.int (x2)), some (.int (x3)), x4] [.int (x5), .int (x6), .int (x7), .ref (x8)] M = (((isO (M) (x8) 5) ∧ wsum [] ≤ 8) ∧ pcall e_M_adds [.ref (x8), .int (x7), .int (x6), .int (-(x5))] (M) (fun v M_ => run Z nF C_M_goesBankrupt S_M_goesBankrupt Kx Q f t_M_goesBankrupt_135 [some (.ref (x1)), some (.int (x2)), some (.int (x3)), x4] (v.toList ++ []) M_)) := rfl
theorem g_M_goesBankrupt_135 {Z : Zt} {nF f : Nat} {Kx : Nat → Kt} {Q : Option Value → Mem → Prop} {M : Mem} {x1 : Nat} {x2 : Int32} {x3 : Int32} {x4 : Option Value} : run Z nF C_M_goesBankrupt S_M_goesBankrupt Kx Q (f + 25) t_M_goesBankrupt_135 [some (.ref (x1)), some (.int (x2)), some (.int (x3)), x4] [] M = (isO (M) (x1) 5 ∧ isA (M) (mR (M) (x1) 0) ((((nI 8)) + (((nI 12)) * (x2))) + ((nI 3))) ∧ isO (stI (M) (mR (M) (x1) 0) (Int32.toNatClampNeg ((((nI 8)) + (((nI 12)) * (x2))) + ((nI 3)))) ((nI 0))) (x1) 5 ∧ isO (stI (M) (mR (M) (x1) 0) (Int32.toNatClampNeg ((((nI 8)) + (((nI 12)) * (x2))) + ((nI 3)))) ((nI 0))) (x1) 5 ∧ isA (stI (M) (mR (M) (x1) 0) (Int32.toNatClampNeg ((((nI 8)) + (((nI 12)) * (x2))) + ((nI 3)))) ((nI 0))) (mR (stI (M) (mR (M) (x1) 0) (Int32.toNatClampNeg ((((nI 8)) + (((nI 12)) * (x2))) + ((nI 3)))) ((nI 0))) (x1) 0) ((nI 446)) ∧ isA (stI (M) (mR (M) (x1) 0) (Int32.toNatClampNeg ((((nI 8)) + (((nI 12)) * (x2))) + ((nI 3)))) ((nI 0))) (mR (stI (M) (mR (M) (x1) 0) (Int32.toNatClampNeg ((((nI 8)) + (((nI 12)) * (x2))) + ((nI 3)))) ((nI 0))) (x1) 0) ((((nI 8)) + (((nI 12)) * (x2))) + ((nI 2))) ∧ run Z nF C_M_goesBankrupt S_M_goesBankrupt Kx Q f t_M_goesBankrupt_172 [some (.ref (x1)), some (.int (x2)), some (.int (x3)), x4] [] (stI (stI (M) (mR (M) (x1) 0) (Int32.toNatClampNeg ((((nI 8)) + (((nI 12)) * (x2))) + ((nI 3)))) ((nI 0))) (mR (stI (M) (mR (M) (x1) 0) (Int32.toNatClampNeg ((((nI 8)) + (((nI 12)) * (x2))) + ((nI 3)))) ((nI 0))) (x1) 0) (Int32.toNatClampNeg ((((nI 8)) + (((nI 12)) * (x2))) + ((nI 2)))) (mI (stI (M) (mR (M) (x1) 0) (Int32.toNatClampNeg ((((nI 8)) + (((nI 12)) * (x2))) + ((nI 3)))) ((nI 0))) (mR (stI (M) (mR (M) (x1) 0) (Int32.toNatClampNeg ((((nI 8)) + (((nI 12)) * (x2))) + ((nI 3)))) ((nI 0))) (x1) 0) (Int32.toNatClampNeg ((nI 446)))))) := rfl
theorem g_M_goesBankrupt_172 {Z : Zt} {nF f : Nat} {Kx : Nat → Kt} {Q : Option Value → Mem → Prop} {M : Mem} {x1 : Nat} {x2 : Int32} {x3 : Int32} {x4 : Option Value} : run Z nF C_M_goesBankrupt S_M_goesBankrupt Kx Q (f + 18) t_M_goesBankrupt_172 [some (.ref (x1)), some (.int (x2)), some (.int (x3)), x4] [] M = (isO (M) (x1) 5 ∧ isO (M) (x1) 5 ∧ isA (M) (mR (M) (x1) 0) ((nI 450)) ∧ isA (M) (mR (M) (x1) 0) (((nI 440)) + (mI (M) (mR (M) (x1) 0) (Int32.toNatClampNeg ((nI 450))))) ∧ isO (stI (M) (mR (M) (x1) 0) (Int32.toNatClampNeg (((nI 440)) + (mI (M) (mR (M) (x1) 0) (Int32.toNatClampNeg ((nI 450)))))) (x2)) (x1) 5 ∧ isA (stI (M) (mR (M) (x1) 0) (Int32.toNatClampNeg (((nI 440)) + (mI (M) (mR (M) (x1) 0) (Int32.toNatClampNeg ((nI 450)))))) (x2)) (mR (stI (M) (mR (M) (x1) 0) (Int32.toNatClampNeg (((nI 440)) + (mI (M) (mR (M) (x1) 0) (Int32.toNatClampNeg ((nI 450)))))) (x2)) (x1) 0) ((nI 450)) ∧ isA (stI (M) (mR (M) (x1) 0) (Int32.toNatClampNeg (((nI 440)) + (mI (M) (mR (M) (x1) 0) (Int32.toNatClampNeg ((nI 450)))))) (x2)) (mR (stI (M) (mR (M) (x1) 0) (Int32.toNatClampNeg (((nI 440)) + (mI (M) (mR (M) (x1) 0) (Int32.toNatClampNeg ((nI 450)))))) (x2)) (x1) 0) ((nI 450)) ∧ run Z nF C_M_goesBankrupt S_M_goesBankrupt Kx Q f t_M_goesBankrupt_202 [some (.ref (x1)), some (.int (x2)), some (.int (x3)), x4] [] (stI (stI (M) (mR (M) (x1) 0) (Int32.toNatClampNeg (((nI 440)) + (mI (M) (mR (M) (x1) 0) (Int32.toNatClampNeg ((nI 450)))))) (x2)) (mR (stI (M) (mR (M) (x1) 0) (Int32.toNatClampNeg (((nI 440)) + (mI (M) (mR (M) (x1) 0) (Int32.toNatClampNeg ((nI 450)))))) (x2)) (x1) 0) (Int32.toNatClampNeg ((nI 450))) ((mI (stI (M) (mR (M) (x1) 0) (Int32.toNatClampNeg (((nI 440)) + (mI (M) (mR (M) (x1) 0) (Int32.toNatClampNeg ((nI 450)))))) (x2)) (mR (stI (M) (mR (M) (x1) 0) (Int32.toNatClampNeg (((nI 440)) + (mI (M) (mR (M) (x1) 0) (Int32.toNatClampNeg ((nI 450)))))) (x2)) (x1) 0) (Int32.toNatClampNeg ((nI 450)))) + ((nI 1))))) := rfl
theorem g_M_goesBankrupt_202 {Z : Zt} {nF f : Nat} {Kx : Nat → Kt} {Q : Option Value → Mem → Prop} {M : Mem} {x1 : Nat} {x2 : Int32} {x3 : Int32} {x4 : Option Value} : run Z nF C_M_goesBankrupt S_M_goesBankrupt Kx Q (f + 9) t_M_goesBankrupt_202 [some (.ref (x1)), some (.int (x2)), some (.int (x3)), x4] [] M = (isO (M) (x1) 5 ∧ isA (M) (mR (M) (x1) 0) ((nI 453)) ∧ isA (M) (mR (M) (x1) 0) ((nI 453)) ∧ Q none (stI (M) (mR (M) (x1) 0) (Int32.toNatClampNeg ((nI 453))) ((mI (M) (mR (M) (x1) 0) (Int32.toNatClampNeg ((nI 453)))) + ((nI 1))))) := rfl
set_option maxRecDepth 100000 in
set_option maxHeartbeats 4000000 in
theorem lp_M_gb3 (Z : Zt) (d : Nat) {M : Mem} {t : Nat} {u : Nat → Int32} (hB : BkS M) (ht : t < 6) (hu : MdD u) (hb : uB u < 6) : ∀ n r w, r + n = 4 → X Z (d + 3) s_M_goesBankrupt (mN M) (mN M) (ex none (mW M (rwF (mI M) 175 (gb3 (gb2 (gbP u t 4) t) t)))) 74 [some (.ref 174), some (.int (nI t)), some (.int (nI r)), w] [] (mW M (rwF (mI M) 175 (gbP u t r))) := by
  intro n
  induction n with
  | zero =>
    intro r w hr
    obtain rfl : r = 4 := by omega
    have hD := gbP_D (r := 4) ht (by omega) hu
    have hD2 := gb2_D ht hD
    have hb2 : uB (gb2 (gbP u t 4) t) = uB u := by unfold uB; rw [gb2_o (by omega), gbP_o ht (by omega) 4 (by omega)]
    have hof : ∀ {K : Option Value → Mem → Prop}, pcall e_M_of [.ref 174, .int (nI t), .int (nI 1)] (mW M (rwF (mI M) 175 (gbP u t 4))) K = K (some (.int (gbP u t 4 (8 + 12 * t + 1)))) (mW M (rwF (mI M) 175 (gbP u t 4))) := by
      intro K
      rw [pc_M_of (o := 174) (t := t) (w := 1) (M := mW M (rwF (mI M) 175 (gbP u t 4))) ⟨rfl, hB, ht, by omega⟩ (by omega) (by omega), mI_mW, rw_at]
    have had : ∀ {K : Option Value → Mem → Prop}, pcall e_M_adds [.ref 174, .int (nI t), .int (nI 1), .int (-(gbP u t 4 (8 + 12 * t + 1)))] (mW M (rwF (mI M) 175 (gbP u t 4))) K = K none (mW M (rwF (mI M) 175 (gb2 (gbP u t 4) t))) := by
      intro K
      rw [pc_M_adds (o := 174) (t := t) (w := 1) (n := -(gbP u t 4 (8 + 12 * t + 1))) (M := mW M (rwF (mI M) 175 (gbP u t 4))) ⟨rfl, hB, ht, by omega⟩ (by omega) (by omega), mI_mW, rw_at, rw_rw, mW_mW]
      rfl
    generalize hv : gb2 (gbP u t 4) t = v at *
    have e450 : v 450 = nI (uB v) := hD2.2.2.2.1
    have hb3 : uB v < 6 := by omega
    refine X_runT (C := C_M_goesBankrupt) (S := S_M_goesBankrupt) (T := t_M_goesBankrupt_74) 1000 kt_M_goesBankrupt (okE_cons (ok_M_grantOf Z (d + 1)) (okE_cons (ok_M_leavesGrant Z (d + 1)) (okE_cons (ok_M_demandOf Z (d + 1)) (okE_cons (ok_M_leavesDemand Z (d + 1)) (okE_cons (ok_M_of Z (d + 1)) (okE_cons (ok_M_comesToFund Z d) (okE_cons (ok_M_adds Z (d + 1)) okE_nil))))))) ?_
    simp (maxSteps := 3000000) (disch := first | exact True.intro | assumption | omega) only [↓eq_self, Option.toList_some, Option.toList_none, List.nil_append, List.cons_append, wsum_0, wsum_1, wsum_2, wsum_3, wsum_4, lkill, ↓reduceIte, if_true, if_false, Bool.false_eq_true, and_true, true_and, and_self, or_self, true_or, or_true, not_true, not_false_iff, mR_stI, mN_stI, isO_stI, isA_stI, mI_stI, mR_mW, mN_mW, isO_mW, isA_mW, mI_mW, mW_mW, stI_mW, vp_0, nI_add, nI_ltI, nI_leI, nI_eq, vpi, nI_clamp, nI_toN, nI_geT, nI_lt4, pk_mul, pk_sub, bv_0n, bv_1n, ↓bv_01n, n01a, n01b, Nat.reduceSub, u2_rw, rw_rw, rw_at, rw_ne, rw_175_174, rw_176_174, rw_176_175, rw_177_174, rw_177_175, rw_177_176, rw_178_174, rw_178_175, rw_178_176, rw_178_177, rw_179_174, rw_179_175, rw_179_176, rw_179_177, rw_179_178, rw_180_174, rw_180_175, rw_180_176, rw_180_177, rw_180_178, rw_180_179, up_at, up_ne, Nat.zero_add, Nat.add_zero, bk_oM hB, bk_m0 hB, bk_m1 hB, bk_m2 hB, bk_m4 hB, bk_m6 hB, bk_m9 hB, md_a hB, md_p hB, md_s hB, md_t hB, md_r hB, md_v hB, ite_nt, ↓g_M_goesBankrupt_0, ↓g_M_goesBankrupt_11, ↓g_M_goesBankrupt_15, ↓g_M_goesBankrupt_21, ↓g_M_goesBankrupt_25, ↓g_M_goesBankrupt_30, ↓g_M_goesBankrupt_36, ↓g_M_goesBankrupt_47, ↓g_M_goesBankrupt_51, ↓g_M_goesBankrupt_57, ↓g_M_goesBankrupt_61, ↓g_M_goesBankrupt_66, ↓g_M_goesBankrupt_72, ↓g_M_goesBankrupt_74, ↓g_M_goesBankrupt_79, ↓g_M_goesBankrupt_88, ↓g_M_goesBankrupt_95, ↓g_M_goesBankrupt_105, ↓g_M_goesBankrupt_116, ↓g_M_goesBankrupt_122, ↓g_M_goesBankrupt_131, ↓g_M_goesBankrupt_135, ↓g_M_goesBankrupt_172, ↓g_M_goesBankrupt_202, Nat.le_refl, hof, had, e450]
    exact ⟨rfl, rfl⟩
  | succ n ih =>
    intro r w hr
    have h1 : ¬ 4 ≤ r := by omega
    have hr4 : r < 4 := by omega
    have hx := fun w => ih (r + 1) w (by omega)
    unfold gbP gb1 at hx
    simp only [] at hx
    generalize hv : gbP u t r = v at *
    have hof : ∀ {K : Option Value → Mem → Prop}, pcall e_M_of [.ref 174, .int (nI t), .int (nI (8 + r))] (mW M (rwF (mI M) 175 v)) K = K (some (.int (v (8 + 12 * t + (8 + r))))) (mW M (rwF (mI M) 175 v)) := by
      intro K
      rw [pc_M_of (o := 174) (t := t) (w := 8 + r) (M := mW M (rwF (mI M) 175 v)) ⟨rfl, hB, ht, by omega⟩ (by omega) (by omega), mI_mW, rw_at]
    have hcf : ∀ {x : Int32} {K : Option Value → Mem → Prop}, pcall e_M_comesToFund [.ref 174, .int (nI r), .int x] (mW M (rwF (mI M) 175 v)) K = K none (mW M (rwF (mI M) 175 (cfU v r x))) := by
      intro x K
      rw [pc_M_comesToFund (o := 174) (r := r) (n := x) (M := mW M (rwF (mI M) 175 v)) ⟨rfl, hB, hr4⟩ (by omega), mI_mW, rw_at, rw_rw, mW_mW]
    have had : ∀ {w : Nat} {x : Int32} {g : Nat → Int32} {K : Option Value → Mem → Prop}, w < 12 → pcall e_M_adds [.ref 174, .int (nI t), .int (nI w), .int x] (mW M (rwF (mI M) 175 g)) K = K none (mW M (rwF (mI M) 175 (upF g (8 + 12 * t + w) (g (8 + 12 * t + w) + x)))) := by
      intro w x g K hw
      rw [pc_M_adds (o := 174) (t := t) (w := w) (n := x) (M := mW M (rwF (mI M) 175 g)) ⟨rfl, hB, ht, hw⟩ (by omega) (by omega), mI_mW, rw_at, rw_rw, mW_mW]
    have hx := hx (some (.int (v (8 + 12 * t + (8 + r)))))
    generalize hc : cfU v r (v (8 + 12 * t + (8 + r))) = c at *
    refine X_runT (C := C_M_goesBankrupt) (S := S_M_goesBankrupt) (T := t_M_goesBankrupt_74) 1000 kt_M_goesBankrupt (okE_cons (ok_M_grantOf Z (d + 1)) (okE_cons (ok_M_leavesGrant Z (d + 1)) (okE_cons (ok_M_demandOf Z (d + 1)) (okE_cons (ok_M_leavesDemand Z (d + 1)) (okE_cons (ok_M_of Z (d + 1)) (okE_cons (ok_M_comesToFund Z d) (okE_cons (ok_M_adds Z (d + 1)) okE_nil))))))) ?_
    simp (maxSteps := 3000000) (disch := first | exact True.intro | assumption | omega) only [↓eq_self, Option.toList_some, Option.toList_none, List.nil_append, List.cons_append, wsum_0, wsum_1, wsum_2, wsum_3, wsum_4, lkill, ↓reduceIte, if_true, if_false, Bool.false_eq_true, and_true, true_and, and_self, or_self, true_or, or_true, not_true, not_false_iff, mR_stI, mN_stI, isO_stI, isA_stI, mI_stI, mR_mW, mN_mW, isO_mW, isA_mW, mI_mW, mW_mW, stI_mW, vp_0, nI_add, nI_ltI, nI_leI, nI_eq, vpi, nI_clamp, nI_toN, nI_geT, nI_lt4, pk_mul, pk_sub, bv_0n, bv_1n, ↓bv_01n, n01a, n01b, Nat.reduceSub, u2_rw, rw_rw, rw_at, rw_ne, rw_175_174, rw_176_174, rw_176_175, rw_177_174, rw_177_175, rw_177_176, rw_178_174, rw_178_175, rw_178_176, rw_178_177, rw_179_174, rw_179_175, rw_179_176, rw_179_177, rw_179_178, rw_180_174, rw_180_175, rw_180_176, rw_180_177, rw_180_178, rw_180_179, up_at, up_ne, Nat.zero_add, Nat.add_zero, bk_oM hB, bk_m0 hB, bk_m1 hB, bk_m2 hB, bk_m4 hB, bk_m6 hB, bk_m9 hB, md_a hB, md_p hB, md_s hB, md_t hB, md_r hB, md_v hB, ite_nt, ↓g_M_goesBankrupt_0, ↓g_M_goesBankrupt_11, ↓g_M_goesBankrupt_15, ↓g_M_goesBankrupt_21, ↓g_M_goesBankrupt_25, ↓g_M_goesBankrupt_30, ↓g_M_goesBankrupt_36, ↓g_M_goesBankrupt_47, ↓g_M_goesBankrupt_51, ↓g_M_goesBankrupt_57, ↓g_M_goesBankrupt_61, ↓g_M_goesBankrupt_66, ↓g_M_goesBankrupt_72, ↓g_M_goesBankrupt_74, ↓g_M_goesBankrupt_79, ↓g_M_goesBankrupt_88, ↓g_M_goesBankrupt_95, ↓g_M_goesBankrupt_105, ↓g_M_goesBankrupt_116, ↓g_M_goesBankrupt_122, ↓g_M_goesBankrupt_131, ↓g_M_goesBankrupt_135, ↓g_M_goesBankrupt_172, ↓g_M_goesBankrupt_202, h1, hof, hcf, hc, had]
    have hne : 8 + 12 * t + (8 + r) ≠ 8 + 12 * t + (4 + r) := by omega
    rw [up_ne hne] at hx
    exact hx
set_option maxRecDepth 100000 in
set_option maxHeartbeats 4000000 in
theorem lp_M_gb2 (Z : Zt) (d : Nat) {M : Mem} {t : Nat} {g : Nat → Int32} (hB : BkS M) (ht : t < 6) : ∀ k u, MdD u → uB u < 6 → k ≤ uD u → rdU t k u = g → X Z (d + 3) s_M_goesBankrupt (mN M) (mN M) (ex none (mW M (rwF (mI M) 175 (gb3 (gb2 (gbP g t 4) t) t)))) 47 [some (.ref 174), some (.int (nI t)), some (.int (nI k - nI 1)), none] [] (mW M (rwF (mI M) 175 u)) := by
  intro k
  induction k with
  | zero =>
    intro u hu hb hk hg
    have e0 : (nI 0 - nI 1 < nI 0) = True := by decide
    subst hg
    refine X_runT (C := C_M_goesBankrupt) (S := S_M_goesBankrupt) (T := t_M_goesBankrupt_47) 1000 kt_M_goesBankrupt (okE_cons (ok_M_grantOf Z (d + 1)) (okE_cons (ok_M_leavesGrant Z (d + 1)) (okE_cons (ok_M_demandOf Z (d + 1)) (okE_cons (ok_M_leavesDemand Z (d + 1)) (okE_cons (ok_M_of Z (d + 1)) (okE_cons (ok_M_comesToFund Z d) (okE_cons (ok_M_adds Z (d + 1)) okE_nil))))))) ?_
    simp (maxSteps := 3000000) (disch := first | exact True.intro | assumption | omega) only [↓eq_self, Option.toList_some, Option.toList_none, List.nil_append, List.cons_append, wsum_0, wsum_1, wsum_2, wsum_3, wsum_4, lkill, ↓reduceIte, if_true, if_false, Bool.false_eq_true, and_true, true_and, and_self, or_self, true_or, or_true, not_true, not_false_iff, mR_stI, mN_stI, isO_stI, isA_stI, mI_stI, mR_mW, mN_mW, isO_mW, isA_mW, mI_mW, mW_mW, stI_mW, vp_0, nI_add, nI_ltI, nI_leI, nI_eq, vpi, nI_clamp, nI_toN, nI_geT, nI_lt4, pk_mul, pk_sub, bv_0n, bv_1n, ↓bv_01n, n01a, n01b, Nat.reduceSub, u2_rw, rw_rw, rw_at, rw_ne, rw_175_174, rw_176_174, rw_176_175, rw_177_174, rw_177_175, rw_177_176, rw_178_174, rw_178_175, rw_178_176, rw_178_177, rw_179_174, rw_179_175, rw_179_176, rw_179_177, rw_179_178, rw_180_174, rw_180_175, rw_180_176, rw_180_177, rw_180_178, rw_180_179, up_at, up_ne, Nat.zero_add, Nat.add_zero, bk_oM hB, bk_m0 hB, bk_m1 hB, bk_m2 hB, bk_m4 hB, bk_m6 hB, bk_m9 hB, md_a hB, md_p hB, md_s hB, md_t hB, md_r hB, md_v hB, ite_nt, ↓g_M_goesBankrupt_0, ↓g_M_goesBankrupt_11, ↓g_M_goesBankrupt_15, ↓g_M_goesBankrupt_21, ↓g_M_goesBankrupt_25, ↓g_M_goesBankrupt_30, ↓g_M_goesBankrupt_36, ↓g_M_goesBankrupt_47, ↓g_M_goesBankrupt_51, ↓g_M_goesBankrupt_57, ↓g_M_goesBankrupt_61, ↓g_M_goesBankrupt_66, ↓g_M_goesBankrupt_72, ↓g_M_goesBankrupt_74, ↓g_M_goesBankrupt_79, ↓g_M_goesBankrupt_88, ↓g_M_goesBankrupt_95, ↓g_M_goesBankrupt_105, ↓g_M_goesBankrupt_116, ↓g_M_goesBankrupt_122, ↓g_M_goesBankrupt_131, ↓g_M_goesBankrupt_135, ↓g_M_goesBankrupt_172, ↓g_M_goesBankrupt_202, e0]
    exact lp_M_gb3 Z d hB ht hu hb 4 0 none rfl
  | succ k ih =>
    intro u hu hb hk hg
    have h24 := hu.2.2.1.2
    have h1 : nI (k + 1) - nI 1 = nI k := by rw [pk_sub (by omega), Nat.add_sub_cancel]
    have h2 : ¬ k < 0 := by omega
    have hdo : ∀ {K : Option Value → Mem → Prop}, pcall e_M_demandOf [.ref 174, .int (nI k), .int (nI 4)] (mW M (rwF (mI M) 175 u)) K = K (some (.int (u (320 + 5 * k + 4)))) (mW M (rwF (mI M) 175 u)) := by
      intro K
      rw [pc_M_demandOf (o := 174) (k := k) (w := 4) (M := mW M (rwF (mI M) 175 u)) ⟨rfl, hB, by omega, by omega⟩ (by omega) (by omega), mI_mW, rw_at]
    unfold rdU at hg
    refine X_runT (C := C_M_goesBankrupt) (S := S_M_goesBankrupt) (T := t_M_goesBankrupt_47) 1000 kt_M_goesBankrupt (okE_cons (ok_M_grantOf Z (d + 1)) (okE_cons (ok_M_leavesGrant Z (d + 1)) (okE_cons (ok_M_demandOf Z (d + 1)) (okE_cons (ok_M_leavesDemand Z (d + 1)) (okE_cons (ok_M_of Z (d + 1)) (okE_cons (ok_M_comesToFund Z d) (okE_cons (ok_M_adds Z (d + 1)) okE_nil))))))) ?_
    rw [h1]
    by_cases h : u (320 + 5 * k + 4) = nI t
    · have hld : ∀ {K : Option Value → Mem → Prop}, pcall e_M_leavesDemand [.ref 174, .int (nI k)] (mW M (rwF (mI M) 175 u)) K = K none (mW M (rwF (mI M) 175 (ldU u k))) := by
        intro K
        rw [pc_M_leavesDemand (o := 174) (k := k) (M := mW M (rwF (mI M) 175 u)) ⟨rfl, MO_rw hB hu, by rw [mI_mW, rw_at]; omega⟩ (by omega), mI_mW, rw_at, rw_rw, mW_mW]
      rw [if_pos h] at hg
      simp (maxSteps := 3000000) (disch := first | exact True.intro | assumption | omega) only [↓eq_self, Option.toList_some, Option.toList_none, List.nil_append, List.cons_append, wsum_0, wsum_1, wsum_2, wsum_3, wsum_4, lkill, ↓reduceIte, if_true, if_false, Bool.false_eq_true, and_true, true_and, and_self, or_self, true_or, or_true, not_true, not_false_iff, mR_stI, mN_stI, isO_stI, isA_stI, mI_stI, mR_mW, mN_mW, isO_mW, isA_mW, mI_mW, mW_mW, stI_mW, vp_0, nI_add, nI_ltI, nI_leI, nI_eq, vpi, nI_clamp, nI_toN, nI_geT, nI_lt4, pk_mul, pk_sub, bv_0n, bv_1n, ↓bv_01n, n01a, n01b, Nat.reduceSub, u2_rw, rw_rw, rw_at, rw_ne, rw_175_174, rw_176_174, rw_176_175, rw_177_174, rw_177_175, rw_177_176, rw_178_174, rw_178_175, rw_178_176, rw_178_177, rw_179_174, rw_179_175, rw_179_176, rw_179_177, rw_179_178, rw_180_174, rw_180_175, rw_180_176, rw_180_177, rw_180_178, rw_180_179, up_at, up_ne, Nat.zero_add, Nat.add_zero, bk_oM hB, bk_m0 hB, bk_m1 hB, bk_m2 hB, bk_m4 hB, bk_m6 hB, bk_m9 hB, md_a hB, md_p hB, md_s hB, md_t hB, md_r hB, md_v hB, ite_nt, ↓g_M_goesBankrupt_0, ↓g_M_goesBankrupt_11, ↓g_M_goesBankrupt_15, ↓g_M_goesBankrupt_21, ↓g_M_goesBankrupt_25, ↓g_M_goesBankrupt_30, ↓g_M_goesBankrupt_36, ↓g_M_goesBankrupt_47, ↓g_M_goesBankrupt_51, ↓g_M_goesBankrupt_57, ↓g_M_goesBankrupt_61, ↓g_M_goesBankrupt_66, ↓g_M_goesBankrupt_72, ↓g_M_goesBankrupt_74, ↓g_M_goesBankrupt_79, ↓g_M_goesBankrupt_88, ↓g_M_goesBankrupt_95, ↓g_M_goesBankrupt_105, ↓g_M_goesBankrupt_116, ↓g_M_goesBankrupt_122, ↓g_M_goesBankrupt_131, ↓g_M_goesBankrupt_135, ↓g_M_goesBankrupt_172, ↓g_M_goesBankrupt_202, h2, hdo, h, hld, addm1]
      refine ih (ldU u k) (ldU_D hu) ?_ ?_ hg
      · unfold uB at hb ⊢
        rw [ldU_o (by omega) (by omega) h24]
        exact hb
      · rw [show uD (ldU u k) = uD u - 1 from tN_of (ldP_c u k _) (by omega)]
        omega
    · rw [if_neg h] at hg
      simp (maxSteps := 3000000) (disch := first | exact True.intro | assumption | omega) only [↓eq_self, Option.toList_some, Option.toList_none, List.nil_append, List.cons_append, wsum_0, wsum_1, wsum_2, wsum_3, wsum_4, lkill, ↓reduceIte, if_true, if_false, Bool.false_eq_true, and_true, true_and, and_self, or_self, true_or, or_true, not_true, not_false_iff, mR_stI, mN_stI, isO_stI, isA_stI, mI_stI, mR_mW, mN_mW, isO_mW, isA_mW, mI_mW, mW_mW, stI_mW, vp_0, nI_add, nI_ltI, nI_leI, nI_eq, vpi, nI_clamp, nI_toN, nI_geT, nI_lt4, pk_mul, pk_sub, bv_0n, bv_1n, ↓bv_01n, n01a, n01b, Nat.reduceSub, u2_rw, rw_rw, rw_at, rw_ne, rw_175_174, rw_176_174, rw_176_175, rw_177_174, rw_177_175, rw_177_176, rw_178_174, rw_178_175, rw_178_176, rw_178_177, rw_179_174, rw_179_175, rw_179_176, rw_179_177, rw_179_178, rw_180_174, rw_180_175, rw_180_176, rw_180_177, rw_180_178, rw_180_179, up_at, up_ne, Nat.zero_add, Nat.add_zero, bk_oM hB, bk_m0 hB, bk_m1 hB, bk_m2 hB, bk_m4 hB, bk_m6 hB, bk_m9 hB, md_a hB, md_p hB, md_s hB, md_t hB, md_r hB, md_v hB, ite_nt, ↓g_M_goesBankrupt_0, ↓g_M_goesBankrupt_11, ↓g_M_goesBankrupt_15, ↓g_M_goesBankrupt_21, ↓g_M_goesBankrupt_25, ↓g_M_goesBankrupt_30, ↓g_M_goesBankrupt_36, ↓g_M_goesBankrupt_47, ↓g_M_goesBankrupt_51, ↓g_M_goesBankrupt_57, ↓g_M_goesBankrupt_61, ↓g_M_goesBankrupt_66, ↓g_M_goesBankrupt_72, ↓g_M_goesBankrupt_74, ↓g_M_goesBankrupt_79, ↓g_M_goesBankrupt_88, ↓g_M_goesBankrupt_95, ↓g_M_goesBankrupt_105, ↓g_M_goesBankrupt_116, ↓g_M_goesBankrupt_122, ↓g_M_goesBankrupt_131, ↓g_M_goesBankrupt_135, ↓g_M_goesBankrupt_172, ↓g_M_goesBankrupt_202, h2, hdo, h, addm1]
      exact ih u hu hb (by omega) hg
set_option maxRecDepth 100000 in
set_option maxHeartbeats 4000000 in
theorem lp_M_gb1 (Z : Zt) (d : Nat) {M : Mem} {t : Nat} {g : Nat → Int32} (hB : BkS M) (ht : t < 6) : ∀ k u, MdD u → uB u < 6 → k ≤ uG u → rgU t k u = g → X Z (d + 3) s_M_goesBankrupt (mN M) (mN M) (ex none (mW M (rwF (mI M) 175 (gb3 (gb2 (gbP (rdU t (uD g) g) t 4) t) t)))) 11 [some (.ref 174), some (.int (nI t)), some (.int (nI k - nI 1)), none] [] (mW M (rwF (mI M) 175 u)) := by
  intro k
  induction k with
  | zero =>
    intro u hu hb hk hg
    have e0 : (nI 0 - nI 1 < nI 0) = True := by decide
    have hD := hu.2.2.1.1
    subst hg
    refine X_runT (C := C_M_goesBankrupt) (S := S_M_goesBankrupt) (T := t_M_goesBankrupt_11) 1000 kt_M_goesBankrupt (okE_cons (ok_M_grantOf Z (d + 1)) (okE_cons (ok_M_leavesGrant Z (d + 1)) (okE_cons (ok_M_demandOf Z (d + 1)) (okE_cons (ok_M_leavesDemand Z (d + 1)) (okE_cons (ok_M_of Z (d + 1)) (okE_cons (ok_M_comesToFund Z d) (okE_cons (ok_M_adds Z (d + 1)) okE_nil))))))) ?_
    simp (maxSteps := 3000000) (disch := first | exact True.intro | assumption | omega) only [↓eq_self, Option.toList_some, Option.toList_none, List.nil_append, List.cons_append, wsum_0, wsum_1, wsum_2, wsum_3, wsum_4, lkill, ↓reduceIte, if_true, if_false, Bool.false_eq_true, and_true, true_and, and_self, or_self, true_or, or_true, not_true, not_false_iff, mR_stI, mN_stI, isO_stI, isA_stI, mI_stI, mR_mW, mN_mW, isO_mW, isA_mW, mI_mW, mW_mW, stI_mW, vp_0, nI_add, nI_ltI, nI_leI, nI_eq, vpi, nI_clamp, nI_toN, nI_geT, nI_lt4, pk_mul, pk_sub, bv_0n, bv_1n, ↓bv_01n, n01a, n01b, Nat.reduceSub, u2_rw, rw_rw, rw_at, rw_ne, rw_175_174, rw_176_174, rw_176_175, rw_177_174, rw_177_175, rw_177_176, rw_178_174, rw_178_175, rw_178_176, rw_178_177, rw_179_174, rw_179_175, rw_179_176, rw_179_177, rw_179_178, rw_180_174, rw_180_175, rw_180_176, rw_180_177, rw_180_178, rw_180_179, up_at, up_ne, Nat.zero_add, Nat.add_zero, bk_oM hB, bk_m0 hB, bk_m1 hB, bk_m2 hB, bk_m4 hB, bk_m6 hB, bk_m9 hB, md_a hB, md_p hB, md_s hB, md_t hB, md_r hB, md_v hB, ite_nt, ↓g_M_goesBankrupt_0, ↓g_M_goesBankrupt_11, ↓g_M_goesBankrupt_15, ↓g_M_goesBankrupt_21, ↓g_M_goesBankrupt_25, ↓g_M_goesBankrupt_30, ↓g_M_goesBankrupt_36, ↓g_M_goesBankrupt_47, ↓g_M_goesBankrupt_51, ↓g_M_goesBankrupt_57, ↓g_M_goesBankrupt_61, ↓g_M_goesBankrupt_66, ↓g_M_goesBankrupt_72, ↓g_M_goesBankrupt_74, ↓g_M_goesBankrupt_79, ↓g_M_goesBankrupt_88, ↓g_M_goesBankrupt_95, ↓g_M_goesBankrupt_105, ↓g_M_goesBankrupt_116, ↓g_M_goesBankrupt_122, ↓g_M_goesBankrupt_131, ↓g_M_goesBankrupt_135, ↓g_M_goesBankrupt_172, ↓g_M_goesBankrupt_202, e0, hD]
    exact lp_M_gb2 Z d hB ht (uD u) u hu hb (Nat.le_refl _) rfl
  | succ k ih =>
    intro u hu hb hk hg
    have h24 := hu.2.1.2
    have h1 : nI (k + 1) - nI 1 = nI k := by rw [pk_sub (by omega), Nat.add_sub_cancel]
    have h2 : ¬ k < 0 := by omega
    have hdo : ∀ {K : Option Value → Mem → Prop}, pcall e_M_grantOf [.ref 174, .int (nI k), .int (nI 5)] (mW M (rwF (mI M) 175 u)) K = K (some (.int (u (80 + 6 * k + 5)))) (mW M (rwF (mI M) 175 u)) := by
      intro K
      rw [pc_M_grantOf (o := 174) (k := k) (w := 5) (M := mW M (rwF (mI M) 175 u)) ⟨rfl, hB, by omega, by omega⟩ (by omega) (by omega), mI_mW, rw_at]
    unfold rgU at hg
    refine X_runT (C := C_M_goesBankrupt) (S := S_M_goesBankrupt) (T := t_M_goesBankrupt_11) 1000 kt_M_goesBankrupt (okE_cons (ok_M_grantOf Z (d + 1)) (okE_cons (ok_M_leavesGrant Z (d + 1)) (okE_cons (ok_M_demandOf Z (d + 1)) (okE_cons (ok_M_leavesDemand Z (d + 1)) (okE_cons (ok_M_of Z (d + 1)) (okE_cons (ok_M_comesToFund Z d) (okE_cons (ok_M_adds Z (d + 1)) okE_nil))))))) ?_
    rw [h1]
    by_cases h : u (80 + 6 * k + 5) = nI t
    · have hld : ∀ {K : Option Value → Mem → Prop}, pcall e_M_leavesGrant [.ref 174, .int (nI k)] (mW M (rwF (mI M) 175 u)) K = K none (mW M (rwF (mI M) 175 (lgU u k))) := by
        intro K
        rw [pc_M_leavesGrant (o := 174) (k := k) (M := mW M (rwF (mI M) 175 u)) ⟨rfl, MO_rw hB hu, by rw [mI_mW, rw_at]; omega⟩ (by omega), mI_mW, rw_at, rw_rw, mW_mW]
      rw [if_pos h] at hg
      simp (maxSteps := 3000000) (disch := first | exact True.intro | assumption | omega) only [↓eq_self, Option.toList_some, Option.toList_none, List.nil_append, List.cons_append, wsum_0, wsum_1, wsum_2, wsum_3, wsum_4, lkill, ↓reduceIte, if_true, if_false, Bool.false_eq_true, and_true, true_and, and_self, or_self, true_or, or_true, not_true, not_false_iff, mR_stI, mN_stI, isO_stI, isA_stI, mI_stI, mR_mW, mN_mW, isO_mW, isA_mW, mI_mW, mW_mW, stI_mW, vp_0, nI_add, nI_ltI, nI_leI, nI_eq, vpi, nI_clamp, nI_toN, nI_geT, nI_lt4, pk_mul, pk_sub, bv_0n, bv_1n, ↓bv_01n, n01a, n01b, Nat.reduceSub, u2_rw, rw_rw, rw_at, rw_ne, rw_175_174, rw_176_174, rw_176_175, rw_177_174, rw_177_175, rw_177_176, rw_178_174, rw_178_175, rw_178_176, rw_178_177, rw_179_174, rw_179_175, rw_179_176, rw_179_177, rw_179_178, rw_180_174, rw_180_175, rw_180_176, rw_180_177, rw_180_178, rw_180_179, up_at, up_ne, Nat.zero_add, Nat.add_zero, bk_oM hB, bk_m0 hB, bk_m1 hB, bk_m2 hB, bk_m4 hB, bk_m6 hB, bk_m9 hB, md_a hB, md_p hB, md_s hB, md_t hB, md_r hB, md_v hB, ite_nt, ↓g_M_goesBankrupt_0, ↓g_M_goesBankrupt_11, ↓g_M_goesBankrupt_15, ↓g_M_goesBankrupt_21, ↓g_M_goesBankrupt_25, ↓g_M_goesBankrupt_30, ↓g_M_goesBankrupt_36, ↓g_M_goesBankrupt_47, ↓g_M_goesBankrupt_51, ↓g_M_goesBankrupt_57, ↓g_M_goesBankrupt_61, ↓g_M_goesBankrupt_66, ↓g_M_goesBankrupt_72, ↓g_M_goesBankrupt_74, ↓g_M_goesBankrupt_79, ↓g_M_goesBankrupt_88, ↓g_M_goesBankrupt_95, ↓g_M_goesBankrupt_105, ↓g_M_goesBankrupt_116, ↓g_M_goesBankrupt_122, ↓g_M_goesBankrupt_131, ↓g_M_goesBankrupt_135, ↓g_M_goesBankrupt_172, ↓g_M_goesBankrupt_202, h2, hdo, h, hld, addm1]
      refine ih (lgU u k) (lgU_D hu) ?_ ?_ hg
      · unfold uB at hb ⊢
        rw [lgU_o (by omega) (by omega) h24]
        exact hb
      · rw [show uG (lgU u k) = uG u - 1 from tN_of (lgP_c u k _) (by omega)]
        omega
    · rw [if_neg h] at hg
      simp (maxSteps := 3000000) (disch := first | exact True.intro | assumption | omega) only [↓eq_self, Option.toList_some, Option.toList_none, List.nil_append, List.cons_append, wsum_0, wsum_1, wsum_2, wsum_3, wsum_4, lkill, ↓reduceIte, if_true, if_false, Bool.false_eq_true, and_true, true_and, and_self, or_self, true_or, or_true, not_true, not_false_iff, mR_stI, mN_stI, isO_stI, isA_stI, mI_stI, mR_mW, mN_mW, isO_mW, isA_mW, mI_mW, mW_mW, stI_mW, vp_0, nI_add, nI_ltI, nI_leI, nI_eq, vpi, nI_clamp, nI_toN, nI_geT, nI_lt4, pk_mul, pk_sub, bv_0n, bv_1n, ↓bv_01n, n01a, n01b, Nat.reduceSub, u2_rw, rw_rw, rw_at, rw_ne, rw_175_174, rw_176_174, rw_176_175, rw_177_174, rw_177_175, rw_177_176, rw_178_174, rw_178_175, rw_178_176, rw_178_177, rw_179_174, rw_179_175, rw_179_176, rw_179_177, rw_179_178, rw_180_174, rw_180_175, rw_180_176, rw_180_177, rw_180_178, rw_180_179, up_at, up_ne, Nat.zero_add, Nat.add_zero, bk_oM hB, bk_m0 hB, bk_m1 hB, bk_m2 hB, bk_m4 hB, bk_m6 hB, bk_m9 hB, md_a hB, md_p hB, md_s hB, md_t hB, md_r hB, md_v hB, ite_nt, ↓g_M_goesBankrupt_0, ↓g_M_goesBankrupt_11, ↓g_M_goesBankrupt_15, ↓g_M_goesBankrupt_21, ↓g_M_goesBankrupt_25, ↓g_M_goesBankrupt_30, ↓g_M_goesBankrupt_36, ↓g_M_goesBankrupt_47, ↓g_M_goesBankrupt_51, ↓g_M_goesBankrupt_57, ↓g_M_goesBankrupt_61, ↓g_M_goesBankrupt_66, ↓g_M_goesBankrupt_72, ↓g_M_goesBankrupt_74, ↓g_M_goesBankrupt_79, ↓g_M_goesBankrupt_88, ↓g_M_goesBankrupt_95, ↓g_M_goesBankrupt_105, ↓g_M_goesBankrupt_116, ↓g_M_goesBankrupt_122, ↓g_M_goesBankrupt_131, ↓g_M_goesBankrupt_135, ↓g_M_goesBankrupt_172, ↓g_M_goesBankrupt_202, h2, hdo, h, addm1]
      exact ih u hu hb (by omega) hg
set_option maxRecDepth 100000 in
set_option maxHeartbeats 4000000 in
theorem ok_M_goesBankrupt (Z : Zt) (d : Nat) : okE Z (d + 3) i_M_goesBankrupt e_M_goesBankrupt := mk_M_goesBankrupt fun o t M h1 hp => by
  obtain ⟨rfl, hM, ht, hb⟩ := hp
  obtain ⟨hB, hU⟩ := id hM
  have hG := hU.2.1.1
  refine Gm_run (C := C_M_goesBankrupt) (S := S_M_goesBankrupt) [some (.ref 174), some (.int (nI t)), none, none] 1000 kt_M_goesBankrupt (okE_cons (ok_M_grantOf Z (d + 1)) (okE_cons (ok_M_leavesGrant Z (d + 1)) (okE_cons (ok_M_demandOf Z (d + 1)) (okE_cons (ok_M_leavesDemand Z (d + 1)) (okE_cons (ok_M_of Z (d + 1)) (okE_cons (ok_M_comesToFund Z d) (okE_cons (ok_M_adds Z (d + 1)) okE_nil))))))) (ex_n rfl) ?_
  simp (maxSteps := 3000000) (disch := first | exact True.intro | assumption | omega) only [↓eq_self, Option.toList_some, Option.toList_none, List.nil_append, List.cons_append, wsum_0, wsum_1, wsum_2, wsum_3, wsum_4, lkill, ↓reduceIte, if_true, if_false, Bool.false_eq_true, and_true, true_and, and_self, or_self, true_or, or_true, not_true, not_false_iff, mR_stI, mN_stI, isO_stI, isA_stI, mI_stI, mR_mW, mN_mW, isO_mW, isA_mW, mI_mW, mW_mW, stI_mW, vp_0, nI_add, nI_ltI, nI_leI, nI_eq, vpi, nI_clamp, nI_toN, nI_geT, nI_lt4, pk_mul, pk_sub, bv_0n, bv_1n, ↓bv_01n, n01a, n01b, Nat.reduceSub, u2_rw, rw_rw, rw_at, rw_ne, rw_175_174, rw_176_174, rw_176_175, rw_177_174, rw_177_175, rw_177_176, rw_178_174, rw_178_175, rw_178_176, rw_178_177, rw_179_174, rw_179_175, rw_179_176, rw_179_177, rw_179_178, rw_180_174, rw_180_175, rw_180_176, rw_180_177, rw_180_178, rw_180_179, up_at, up_ne, Nat.zero_add, Nat.add_zero, bk_oM hB, bk_m0 hB, bk_m1 hB, bk_m2 hB, bk_m4 hB, bk_m6 hB, bk_m9 hB, md_a hB, md_p hB, md_s hB, md_t hB, md_r hB, md_v hB, ite_nt, ↓g_M_goesBankrupt_0, ↓g_M_goesBankrupt_11, ↓g_M_goesBankrupt_15, ↓g_M_goesBankrupt_21, ↓g_M_goesBankrupt_25, ↓g_M_goesBankrupt_30, ↓g_M_goesBankrupt_36, ↓g_M_goesBankrupt_47, ↓g_M_goesBankrupt_51, ↓g_M_goesBankrupt_57, ↓g_M_goesBankrupt_61, ↓g_M_goesBankrupt_66, ↓g_M_goesBankrupt_72, ↓g_M_goesBankrupt_74, ↓g_M_goesBankrupt_79, ↓g_M_goesBankrupt_88, ↓g_M_goesBankrupt_95, ↓g_M_goesBankrupt_105, ↓g_M_goesBankrupt_116, ↓g_M_goesBankrupt_122, ↓g_M_goesBankrupt_131, ↓g_M_goesBankrupt_135, ↓g_M_goesBankrupt_172, ↓g_M_goesBankrupt_202, hG]
  have := lp_M_gb1 Z d (M := M) hB ht (uG (mI M 175)) (mI M 175) hU hb (Nat.le_refl _) rfl
  rw [rwF_self] at this
  exact this
