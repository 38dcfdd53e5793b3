/-! model -/
def C_M_init : List (Nat × Ent) := []
abbrev S_M_init : List Nat := []
def t_M_init_54 : List PI := (54, 1, 1, 0, 0, 0, []) :: (55, 8, 1, 5, 0, 0, [7]) :: (58, 0, 0, 0, 2, 452, []) :: (61, 0, 0, 0, 0, 3, []) :: (62, 10, 4, 0, 0, 0, []) :: (63, 9, 5, 0, 0, 0, []) :: []
def t_M_init_46 : List PI := (46, 1, 1, 0, 0, 0, []) :: (47, 0, 0, 0, 1, 40, []) :: (49, 10, 7, 0, 0, 0, []) :: (51, 10, 1, 5, 9, 0, [25]) :: t_M_init_54
def t_M_init_39 : List PI := (39, 1, 1, 0, 0, 0, []) :: (40, 0, 0, 0, 0, 4, []) :: (41, 10, 7, 0, 0, 0, []) :: (43, 10, 1, 5, 6, 0, [22]) :: t_M_init_46
def t_M_init_31 : List PI := (31, 1, 1, 0, 0, 0, []) :: (32, 0, 0, 0, 1, 60, []) :: (34, 10, 7, 0, 0, 0, []) :: (36, 10, 1, 5, 4, 0, [19]) :: t_M_init_39
def t_M_init_22 : List PI := (22, 1, 1, 0, 0, 0, []) :: (23, 0, 0, 0, 2, 454, []) :: (26, 10, 7, 0, 0, 0, []) :: (28, 10, 1, 5, 2, 0, [16]) :: t_M_init_31
def t_M_init_13 : List PI := (13, 1, 1, 0, 0, 0, []) :: (14, 0, 0, 0, 2, 3632, []) :: (17, 10, 7, 0, 0, 0, []) :: (19, 10, 1, 5, 1, 0, [13]) :: t_M_init_22
def t_M_init_0 : List PI := (0, 1, 1, 0, 0, 0, []) :: (1, 12, 3, 0, 0, 0, [1]) :: (4, 1, 1, 0, 0, 0, []) :: (5, 0, 0, 0, 2, 454, []) :: (8, 10, 7, 0, 0, 0, []) :: (10, 10, 1, 5, 0, 0, [7]) :: t_M_init_13
theorem kt_M_init : okP s_M_init t_M_init_0 := k_M_init
theorem g_M_init_0 {Z : Zt} {nF f : Nat} {Kx : Nat → Kt} {Q : Option Value → Mem → Prop} {M : Mem} {x1 : Nat} : run Z nF C_M_init S_M_init Kx Q (f + 6) t_M_init_0 [some (.ref (x1))] [] M = ((16 ≤ (x1) ∧ wsum [] ≤ 8) ∧ ∃ n1 : Nat, (((nI 454)) = nI n1 ∧ kd (mN (M)) = (1, n1) ∧ n1 < 100000 ∧ mN (M) + 1 ≤ nF) ∧ isO (al (M)) (x1) 5 ∧ run Z nF C_M_init S_M_init Kx Q f t_M_init_13 [some (.ref (x1))] [] (stR (al (M)) (x1) 0 (mN (M)))) := rfl
theorem g_M_init_13 {Z : Zt} {nF f : Nat} {Kx : Nat → Kt} {Q : Option Value → Mem → Prop} {M : Mem} {x1 : Nat} : run Z nF C_M_init S_M_init Kx Q (f + 4) t_M_init_13 [some (.ref (x1))] [] M = (∃ n1 : Nat, (((nI 3632)) = nI n1 ∧ kd (mN (M)) = (1, n1) ∧ n1 < 100000 ∧ mN (M) + 1 ≤ nF) ∧ isO (al (M)) (x1) 5 ∧ run Z nF C_M_init S_M_init Kx Q f t_M_init_22 [some (.ref (x1))] [] (stR (al (M)) (x1) 1 (mN (M)))) := rfl
theorem g_M_init_22 {Z : Zt} {nF f : Nat} {Kx : Nat → Kt} {Q : Option Value → Mem → Prop} {M : Mem} {x1 : Nat} : run Z nF C_M_init S_M_init Kx Q (f + 4) t_M_init_22 [some (.ref (x1))] [] M = (∃ n1 : Nat, (((nI 454)) = nI n1 ∧ kd (mN (M)) = (1, n1) ∧ n1 < 100000 ∧ mN (M) + 1 ≤ nF) ∧ isO (al (M)) (x1) 5 ∧ run Z nF C_M_init S_M_init Kx Q f t_M_init_31 [some (.ref (x1))] [] (stR (al (M)) (x1) 2 (mN (M)))) := rfl
theorem g_M_init_31 {Z : Zt} {nF f : Nat} {Kx : Nat → Kt} {Q : Option Value → Mem → Prop} {M : Mem} {x1 : Nat} : run Z nF C_M_init S_M_init Kx Q (f + 4) t_M_init_31 [some (.ref (x1))] [] M = (∃ n1 : Nat, (((nI 60)) = nI n1 ∧ kd (mN (M)) = (1, n1) ∧ n1 < 100000 ∧ mN (M) + 1 ≤ nF) ∧ isO (al (M)) (x1) 5 ∧ run Z nF C_M_init S_M_init Kx Q f t_M_init_39 [some (.ref (x1))] [] (stR (al (M)) (x1) 4 (mN (M)))) := rfl
theorem g_M_init_39 {Z : Zt} {nF f : Nat} {Kx : Nat → Kt} {Q : Option Value → Mem → Prop} {M : Mem} {x1 : Nat} : run Z nF C_M_init S_M_init Kx Q (f + 4) t_M_init_39 [some (.ref (x1))] [] M = (∃ n1 : Nat, (((nI 4)) = nI n1 ∧ kd (mN (M)) = (1, n1) ∧ n1 < 100000 ∧ mN (M) + 1 ≤ nF) ∧ isO (al (M)) (x1) 5 ∧ run Z nF C_M_init S_M_init Kx Q f t_M_init_46 [some (.ref (x1))] [] (stR (al (M)) (x1) 6 (mN (M)))) := rfl
theorem g_M_init_46 {Z : Zt} {nF f : Nat} {Kx : Nat → Kt} {Q : Option Value → Mem → Prop} {M : Mem} {x1 : Nat} : run Z nF C_M_init S_M_init Kx Q (f + 4) t_M_init_46 [some (.ref (x1))] [] M = (∃ n1 : Nat, (((nI 40)) = nI n1 ∧ kd (mN (M)) = (1, n1) ∧ n1 < 100000 ∧ mN (M) + 1 ≤ nF) ∧ isO (al (M)) (x1) 5 ∧ run Z nF C_M_init S_M_init Kx Q f t_M_init_54 [some (.ref (x1))] [] (stR (al (M)) (x1) 9 (mN (M)))) := rfl
theorem g_M_init_54 {Z : Zt} {nF f : Nat} {Kx : Nat → Kt} {Q : Option Value → Mem → Prop} {M : Mem} {x1 : Nat} : run Z nF C_M_init S_M_init Kx Q (f + 6) t_M_init_54 [some (.ref (x1))] [] M = (isO (M) (x1) 5 ∧ isA (M) (mR (M) (x1) 0) ((nI 452)) ∧ Q none (stI (M) (mR (M) (x1) 0) (Int32.toNatClampNeg ((nI 452))) ((nI 3)))) := rfl
def MkI (M0 : Mem) (j : Nat) (M : Mem) : Prop := mN M = 175 + j ∧ (∀ x y, x < 175 → mI M x y = mI M0 x y) ∧ (∀ x y, 175 ≤ x → x < 175 + j → mI M x y = 0) ∧ (∀ x y, x < 174 → mR M x y = mR M0 x y)
theorem MkI_s {M0 M : Mem} {j : Nat} (k v : Nat) (h : MkI M0 j M) : MkI M0 (j + 1) (stR (al M) 174 k v) := by
  obtain ⟨h1, h2, h4, h3⟩ := h
  refine ⟨by rw [mN_stR, mN_al, h1]; omega, fun x y hx => ?_, fun x y hx hx2 => ?_, fun x y hx => ?_⟩
  · rw [mI_stR, mI_al, h1, if_neg (by omega), h2 x y hx]
  · rw [mI_stR, mI_al, h1]
    by_cases q : x = 175 + j
    · rw [if_pos q]
    · rw [if_neg q, h4 x y hx (by omega)]
  · rw [mR_stR, u2_nn (by omega), mR_al, h1, if_neg (by omega), h3 x y hx]
def M_new6 (M : Mem) : Mem := stR (al (stR (al (stR (al (stR (al (stR (al (stR (al M) 174 0 175)) 174 1 176)) 174 2 177)) 174 4 178)) 174 6 179)) 174 9 180
def M_new (M : Mem) : Mem := stI (M_new6 M) 175 452 3
def MkQ (M0 M : Mem) : Prop := mN M = 181 ∧ (mR M 174 0 = 175 ∧ mR M 174 1 = 176 ∧ mR M 174 2 = 177 ∧ mR M 174 4 = 178 ∧ mR M 174 6 = 179 ∧ mR M 174 9 = 180) ∧ (∀ x y, x < 175 → mI M x y = mI M0 x y) ∧ (∀ x y, 175 ≤ x → x < 181 → mI M x y = if x = 175 ∧ y = 452 then 3 else 0) ∧ (∀ x y, x < 174 → mR M x y = mR M0 x y)
theorem M_new_Q {M : Mem} (hn : mN M = 175) : MkQ M (M_new M) := by
  have h6 : MkI M 6 (M_new6 M) := MkI_s _ _ (MkI_s _ _ (MkI_s _ _ (MkI_s _ _ (MkI_s _ _ (MkI_s _ _ ⟨hn, fun x y _ => rfl, fun x y q1 q2 => by omega, fun x y _ => rfl⟩)))))
  have hR : ∀ y, mR (M_new M) 174 y = if y = 9 then 180 else if y = 6 then 179 else if y = 4 then 178 else if y = 2 then 177 else if y = 1 then 176 else if y = 0 then 175 else mR M 174 y := by
    intro y
    unfold M_new M_new6
    simp only [mR_stI, mR_stR, u2_at, mR_al, mN_al, mN_stR, hn, true_and, (show ¬ ((174 : Nat) = 175) by omega), (show ¬ ((174 : Nat) = 175 + 1) by omega), (show ¬ ((174 : Nat) = 175 + 1 + 1) by omega), (show ¬ ((174 : Nat) = 175 + 1 + 1 + 1) by omega), (show ¬ ((174 : Nat) = 175 + 1 + 1 + 1 + 1) by omega), (show ¬ ((174 : Nat) = 175 + 1 + 1 + 1 + 1 + 1) by omega), if_false]
  refine ⟨h6.1, ⟨by rw [hR]; rfl, by rw [hR]; rfl, by rw [hR]; rfl, by rw [hR]; rfl, by rw [hR]; rfl, by rw [hR]; rfl⟩, fun x y q => ?_, fun x y q1 q2 => ?_, fun x y q => ?_⟩
  · unfold M_new
    rw [mI_stI, u2_nn (by omega), h6.2.1 x y q]
  · unfold M_new
    rw [mI_stI, u2_at]
    by_cases q : x = 175 ∧ y = 452
    · rw [if_pos q, if_pos q]
    · rw [if_neg q, if_neg q, h6.2.2.1 x y q1 (by omega)]
  · unfold M_new
    rw [mR_stI, h6.2.2.2 x y q]
set_option maxRecDepth 100000 in
set_option maxHeartbeats 4000000 in
theorem ok_M_init_ (Z : Zt) (d : Nat) {M : Mem} (hn : mN M = 175) : GmA Z (d + 1) s_M_init [.ref 174] M 181 (fun r M' => r = none ∧ MkQ M M') := by
  have ho : ∀ {N : Mem}, 174 < mN N → isO N 174 5 := fun h => ⟨h, by rfl, by rfl⟩
  have hA : isA (M_new6 M) 175 (nI 452) := ⟨by show 175 < mN M + 6; omega, by rfl, vp_in_nI (by decide) (by decide)⟩
  refine Gm_mk (C := C_M_init) (S := S_M_init) [some (.ref 174)] 1000 kt_M_init okE_nil (fun r M' q => q.2.1) (by omega) ?_
  simp (maxSteps := 3000000) (disch := first | exact True.intro | assumption | omega) only [↓eq_self, Option.toList_some, Option.toList_none, List.nil_append, List.cons_append, wsum_0, wsum_1, wsum_2, wsum_3, wsum_4, lkill, ↓reduceIte, if_true, if_false, Bool.false_eq_true, and_true, true_and, and_self, or_self, true_or, or_true, not_true, not_false_iff, mR_stI, mN_stI, isO_stI, isA_stI, mI_stI, mR_mW, mN_mW, isO_mW, isA_mW, mI_mW, mW_mW, stI_mW, vp_0, nI_addL, nI_mulL, nI_subL, nI_ltL, nI_leL, nI_Llt, nI_Lle, nI_eqL, nI_Leq, nI_add, pk_mul, nI_ltI, nI_leI, nI_eq, vpi, nI_clamp, nI_toN, ↓g_M_init_0, ↓g_M_init_13, ↓g_M_init_22, ↓g_M_init_31, ↓g_M_init_39, ↓g_M_init_46, ↓g_M_init_54, hn, mN_al, mN_stR]
  have e : mR (M_new6 M) 174 0 = 175 := (M_new_Q hn).2.1.1
  refine ⟨by omega, 454, ⟨rfl, rfl, by omega, by omega⟩, ho (by simp only [mN_al, mN_stR]; omega), 3632, ⟨rfl, rfl, by omega, by omega⟩, ho (by simp only [mN_al, mN_stR]; omega), 454, ⟨rfl, rfl, by omega, by omega⟩, ho (by simp only [mN_al, mN_stR]; omega), 60, ⟨rfl, rfl, by omega, by omega⟩, ho (by simp only [mN_al, mN_stR]; omega), 4, ⟨rfl, rfl, by omega, by omega⟩, ho (by simp only [mN_al, mN_stR]; omega), 40, ⟨rfl, rfl, by omega, by omega⟩, ho (by simp only [mN_al, mN_stR]; omega), ho (by simp only [mN_al, mN_stR]; omega), ?_, ?_⟩
  · show isA (M_new6 M) (mR (M_new6 M) 174 0) (nI 452)
    rw [e]
    exact hA
  · show MkQ M (stI (M_new6 M) (mR (M_new6 M) 174 0) 452 3)
    rw [e]
    exact M_new_Q hn
