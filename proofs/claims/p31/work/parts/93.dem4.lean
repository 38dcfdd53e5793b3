/-! ===== the law's demands ===== -/
section Dm
variable {M : Mem} {t : Nat}
def yD (M : Mem) (x : Int32) (t : Nat) : Nat → Int32 := upF (upF (mI M 176) (wn (mI M 176)) (vcD x t)) 63 (nI (wn (mI M 176) + 1))
def MyD (M : Mem) (x : Int32) (t : Nat) : Mem := mW M (rwF (mI M) 176 (yD M x t))
theorem st_dm {x : Int32} {j w : Nat} {u0 : Nat → Int32} (hP : PI_ M) (hk : kaM M ≤ 15) (ht : t < aT (mI M 174)) (hR : RdI (mI M) j w u0) (hu : ∀ q, q < 4 → u0 q = nI (vcN x q)) (h0 : ¬ vcW x 4 = nI 0) : WB (MyD M x t) ∧ dmR (mI (MyD M x t)) (nI t) = nI (wn (mI M 176) + 1) ∧ mI (dmM (MyD M x t) (nI t)) 176 63 = nI (wn (mI M 176) + 1) ∧ StQ 1 0 M (some (.int (nI 1))) (dmM (MyD M x t) (nI t)) := by
  have ht3 : t < 3 := by have := hP.T3; omega
  have hGD := hP.GD
  have hc : CU (MyD M x t) (kaM M) (UM M) := CU_row hP.cu (by omega)
  have hX : Ext (mI M) (mI (MyD M x t)) := Ext.rf (mI M)
  obtain ⟨r1, r2⟩ := hR.end_ hX rfl
  have hb : UM M (8 + 12 * t + 3) = nI 1 := by
    unfold UM
    rw [Uw_a (by omega)]
    exact hP.b1 ht
  have hex : ∃ q, q < 4 ∧ 0 < nI (vcN x q) := by
    by_cases z : ∃ q, q < 4 ∧ 0 < vcN x q
    · obtain ⟨q, hq, q0⟩ := z
      have := vcN_lt x q
      exact ⟨q, hq, (nI_ltI (a := 0) (by omega) (by omega)).mpr q0⟩
    · exact absurd ((vc_0 x).mpr (fun r hr => Nat.eq_zero_of_not_pos (fun y => z ⟨r, hr, y⟩))) h0
  have hbd : ∀ r, r < 4 → 0 ≤ (nI (vcN x r)).toInt ∧ (nI (vcN x r)).toInt ≤ 99 := fun r hr => by
    have := vcN_lt x r
    rw [nI_toInt (by omega)]
    omega
  have eD : uD (UM M) = wn (mI M 176) := rfl
  obtain ⟨d1, d2, d3⟩ := dm_yes (s := fun q => nI (vcN x q)) hc (t := t) ht hb r1 (fun q hq => (r2 q hq).trans (hu q hq)) hex hbd (by omega)
  have hrow : ∀ x', 173 < x' → mI (dmM (MyD M x t) (nI t)) x' = mI (MyD M x t) x' := fun x' h => (d3.row h).trans (funext fun y => rv_o (by omega))
  have ea : mI (dmM (MyD M x t) (nI t)) 174 = mI M 174 := (hrow _ (by omega)).trans (mr_ne (by omega))
  have eg : mI (dmM (MyD M x t) (nI t)) 175 = mI M 175 := (hrow _ (by omega)).trans (mr_ne (by omega))
  have ey : mI (dmM (MyD M x t) (nI t)) 176 = yD M x t := (hrow _ (by omega)).trans (mr_at _ _ _)
  have e63 : yD M x t 63 = nI (wn (mI M 176) + 1) := up_at _ _ _
  have hN : mN (dmM (MyD M x t) (nI t)) = mN M := d3.1
  refine ⟨hc.1, d1, by rw [ey]; exact e63, ?_⟩
  generalize dmM (MyD M x t) (nI t) = M3 at *
  have eU : UM M3 = Uw (mI M 174) (mI M 175) (yD M x t) := by
    unfold UM
    rw [ea, eg, ey]
  have eR : RE (UM M3) (dpU (UM M) (fun q => nI (vcN x q)) t) := by
    rw [eU]
    exact RE_dp hP.2.2.1 (by omega) (fun r hr => vcD_un x hr ht3) (vcD_ow x ht3)
  have ew : wn (yD M x t) = wn (mI M 176) + 1 := tN_of e63 (by omega)
  have ek : kaM M3 = kaM M + 1 := by
    unfold kaM kaU
    rw [eU]
    unfold UM
    rw [Uw_451, Uw_451, Uw_D, Uw_D, ew]
    omega
  refine ⟨rfl, hN, ⟨d2.1, RL_re d2.2.1 d2.2.2.1 eR, IV_re d2.2.2 eR, by rw [ea, eg]; exact hP.2.2.2.1, by rw [hN]; exact hP.2.2.2.2.1, by rw [ek]; omega⟩, by rw [ek]; exact Nat.le_refl _, by rw [ea]; rfl⟩
end Dm
def e_W_demands : Ent := (fun av M => ∃ (t : Nat) (x y : Int32), t < aT (mI M 174) ∧ av = [.ref 16, .ref 174, .ref 176, .int (nI t), .int x, .int y] ∧ PI_ M ∧ kaM M ≤ 15, fun _ M r_ M_ => StQ 1 0 M r_ M_)
def C_W_demands : List (Nat × Ent) := [(i_W_vector, e_W_vector), (i_W_types, e_W_types), (i_B_demand, e_B_demand)]
abbrev S_W_demands : List Nat := []
def t_W_demands_104 : List PI := (104, 9, 1, 0, 0, 0, []) :: []
def t_W_demands_103 : List PI := (103, 0, 0, 0, 0, 0, []) :: t_W_demands_104
def t_W_demands_99 : List PI := (99, 0, 0, 0, 0, 1, []) :: (100, 6, 0, 104, 0, 0, []) :: t_W_demands_103
def t_W_demands_92 : List PI := (92, 1, 1, 2, 0, 0, []) :: (93, 0, 0, 0, 1, 63, []) :: (95, 8, 4, 0, 0, 0, []) :: (96, 4, 1, 103, 0, 0, []) :: t_W_demands_99
def t_W_demands_87 : List PI := (87, 1, 1, 0, 0, 0, []) :: (88, 1, 0, 3, 0, 0, []) :: (89, 11, 0, 4, 59, 0, [70, 2]) :: t_W_demands_92
def t_W_demands_66 : List PI := (66, 1, 1, 2, 0, 0, []) :: (67, 1, 1, 2, 0, 0, []) :: (68, 0, 0, 0, 1, 63, []) :: (70, 8, 4, 0, 0, 0, []) :: (71, 1, 0, 6, 0, 0, []) :: (73, 1, 0, 3, 0, 0, []) :: (74, 0, 0, 0, 1, 28, []) :: (76, 2, 8, 0, 0, 0, []) :: (77, 2, 7, 0, 0, 0, []) :: (78, 10, 4, 0, 0, 0, []) :: (79, 1, 1, 2, 0, 0, []) :: (80, 0, 0, 0, 1, 63, []) :: (82, 7, 1, 0, 0, 0, []) :: (83, 8, 4, 0, 0, 0, []) :: (84, 0, 0, 0, 0, 1, []) :: (85, 2, 0, 0, 0, 0, []) :: (86, 10, 4, 0, 0, 0, []) :: t_W_demands_87
def t_W_demands_64 : List PI := (64, 0, 0, 0, 0, 1, []) :: (65, 9, 1, 0, 0, 0, []) :: t_W_demands_66
def t_W_demands_55 : List PI := (55, 1, 1, 2, 0, 0, []) :: (56, 0, 0, 0, 1, 63, []) :: (58, 8, 4, 0, 0, 0, []) :: (59, 0, 0, 0, 1, 20, []) :: (61, 4, 1, 66, 0, 0, []) :: t_W_demands_64
def t_W_demands_54 : List PI := (54, 9, 1, 0, 0, 0, []) :: t_W_demands_55
def t_W_demands_53 : List PI := (53, 0, 0, 0, 0, 0, []) :: t_W_demands_54
def t_W_demands_49 : List PI := (49, 0, 0, 0, 0, 1, []) :: (50, 6, 0, 54, 0, 0, []) :: t_W_demands_53
def t_W_demands_44 : List PI := (44, 0, 0, 58, 3, -1000001, []) :: (46, 4, 1, 53, 0, 0, []) :: t_W_demands_49
def t_W_demands_39 : List PI := (39, 1, 1, 0, 0, 0, []) :: (40, 1, 0, 3, 0, 0, []) :: (41, 11, 0, 4, 59, 0, [70, 2]) :: t_W_demands_44
def t_W_demands_34 : List PI := (34, 1, 0, 6, 0, 0, []) :: (36, 5, 1, 55, 0, 0, []) :: t_W_demands_39
def t_W_demands_20 : List PI := (20, 1, 1, 1, 0, 0, []) :: (21, 0, 0, 0, 1, 8, []) :: (23, 0, 0, 0, 1, 12, []) :: (25, 1, 0, 3, 0, 0, []) :: (26, 2, 2, 0, 0, 0, []) :: (27, 2, 0, 0, 0, 0, []) :: (28, 0, 0, 0, 0, 3, []) :: (29, 2, 0, 0, 0, 0, []) :: (30, 8, 4, 0, 0, 0, []) :: (31, 5, 0, 39, 0, 0, []) :: t_W_demands_34
def t_W_demands_18 : List PI := (18, 0, 0, 0, 0, 0, []) :: (19, 9, 1, 0, 0, 0, []) :: t_W_demands_20
def t_W_demands_15 : List PI := (15, 5, 1, 20, 0, 0, []) :: t_W_demands_18
def t_W_demands_5 : List PI := (5, 1, 3, 6, 0, 0, []) :: (7, 1, 1, 0, 0, 0, []) :: (8, 1, 0, 6, 0, 0, []) :: (10, 1, 0, 5, 0, 0, []) :: (12, 11, 1, 0, 81, 0, [66, 3]) :: t_W_demands_15
def t_W_demands_0 : List PI := (0, 1, 0, 4, 0, 0, []) :: (2, 11, 1, 0, 82, 0, [63, 1]) :: t_W_demands_5
theorem kt_W_demands : okP s_W_demands t_W_demands_0 := k_W_demands
theorem g_W_demands_0 {Z : Zt} {nF f : Nat} {Kx : Nat → Kt} {Q : Option Value → Mem → Prop} {M : Mem} {x1 : Nat} {x2 : Nat} {x3 : Nat} {x4 : Int32} {x5 : Int32} {x6 : Int32} : run Z nF C_W_demands S_W_demands Kx Q (f + 2) t_W_demands_0 [some (.ref (x1)), some (.ref (x2)), some (.ref (x3)), some (.int (x4)), some (.int (x5)), some (.int (x6)), none] [] M = (((True) ∧ wsum [] ≤ 8) ∧ pcall e_W_vector [.int (x5)] (M) (fun v M_ => run Z nF C_W_demands S_W_demands Kx Q f t_W_demands_5 [some (.ref (x1)), some (.ref (x2)), some (.ref (x3)), some (.int (x4)), some (.int (x5)), some (.int (x6)), none] (v.toList ++ []) M_)) := id rfl
theorem g_W_demands_5 {Z : Zt} {nF f : Nat} {Kx : Nat → Kt} {Q : Option Value → Mem → Prop} {M : Mem} {x1 : Nat} {x2 : Nat} {x3 : Nat} {x4 : Int32} {x5 : Int32} {x6 : Int32} {x7 : Int32} : run Z nF C_W_demands S_W_demands Kx Q (f + 5) t_W_demands_5 [some (.ref (x1)), some (.ref (x2)), some (.ref (x3)), some (.int (x4)), some (.int (x5)), some (.int (x6)), none] [.int (x7)] M = (((True) ∧ wsum [] ≤ 8) ∧ pcall e_W_types [.ref (x1), .int (x7), .int (x6)] (M) (fun v M_ => run Z nF C_W_demands S_W_demands Kx Q f t_W_demands_15 [some (.ref (x1)), some (.ref (x2)), some (.ref (x3)), some (.int (x4)), some (.int (x5)), some (.int (x6)), some (.int (x7))] (v.toList ++ []) M_)) := id rfl
theorem g_W_demands_15 {Z : Zt} {nF f : Nat} {Kx : Nat → Kt} {Q : Option Value → Mem → Prop} {M : Mem} {x1 : Nat} {x2 : Nat} {x3 : Nat} {x4 : Int32} {x5 : Int32} {x6 : Int32} {x7 : Int32} {x8 : Int32} : run Z nF C_W_demands S_W_demands Kx Q (f + 1) t_W_demands_15 [some (.ref (x1)), some (.ref (x2)), some (.ref (x3)), some (.int (x4)), some (.int (x5)), some (.int (x6)), some (.int (x7))] [.int (x8)] M = ((if (x8) = nI 0 then run Z nF C_W_demands S_W_demands Kx Q f t_W_demands_18 [some (.ref (x1)), some (.ref (x2)), some (.ref (x3)), some (.int (x4)), some (.int (x5)), some (.int (x6)), some (.int (x7))] [] (M) else run Z nF C_W_demands S_W_demands Kx Q f t_W_demands_20 [some (.ref (x1)), some (.ref (x2)), some (.ref (x3)), some (.int (x4)), some (.int (x5)), some (.int (x6)), some (.int (x7))] [] (M))) := id rfl
theorem g_W_demands_18 {Z : Zt} {nF f : Nat} {Kx : Nat → Kt} {Q : Option Value → Mem → Prop} {M : Mem} {x1 : Nat} {x2 : Nat} {x3 : Nat} {x4 : Int32} {x5 : Int32} {x6 : Int32} {x7 : Int32} : run Z nF C_W_demands S_W_demands Kx Q (f + 2) t_W_demands_18 [some (.ref (x1)), some (.ref (x2)), some (.ref (x3)), some (.int (x4)), some (.int (x5)), some (.int (x6)), some (.int (x7))] [] M = ((((nI 0)) = nI 0 ∨ ((nI 0)) = nI 1) ∧ Q (some (.int ((nI 0)))) (M)) := id rfl
theorem g_W_demands_20 {Z : Zt} {nF f : Nat} {Kx : Nat → Kt} {Q : Option Value → Mem → Prop} {M : Mem} {x1 : Nat} {x2 : Nat} {x3 : Nat} {x4 : Int32} {x5 : Int32} {x6 : Int32} {x7 : Int32} : run Z nF C_W_demands S_W_demands Kx Q (f + 10) t_W_demands_20 [some (.ref (x1)), some (.ref (x2)), some (.ref (x3)), some (.int (x4)), some (.int (x5)), some (.int (x6)), some (.int (x7))] [] M = (isA (M) (x2) ((((nI 8)) + (((nI 12)) * (x4))) + ((nI 3))) ∧ (if (mI (M) (x2) (Int32.toNatClampNeg ((((nI 8)) + (((nI 12)) * (x4))) + ((nI 3))))) = nI 0 then run Z nF C_W_demands S_W_demands Kx Q f t_W_demands_39 [some (.ref (x1)), some (.ref (x2)), some (.ref (x3)), some (.int (x4)), some (.int (x5)), some (.int (x6)), some (.int (x7))] [] (M) else run Z nF C_W_demands S_W_demands Kx Q f t_W_demands_34 [some (.ref (x1)), some (.ref (x2)), some (.ref (x3)), some (.int (x4)), some (.int (x5)), some (.int (x6)), some (.int (x7))] [] (M))) := id rfl
theorem g_W_demands_34 {Z : Zt} {nF f : Nat} {Kx : Nat → Kt} {Q : Option Value → Mem → Prop} {M : Mem} {x1 : Nat} {x2 : Nat} {x3 : Nat} {x4 : Int32} {x5 : Int32} {x6 : Int32} {x7 : Int32} : run Z nF C_W_demands S_W_demands Kx Q (f + 2) t_W_demands_34 [some (.ref (x1)), some (.ref (x2)), some (.ref (x3)), some (.int (x4)), some (.int (x5)), some (.int (x6)), some (.int (x7))] [] M = ((if (x7) = nI 0 then run Z nF C_W_demands S_W_demands Kx Q f t_W_demands_39 [some (.ref (x1)), some (.ref (x2)), some (.ref (x3)), some (.int (x4)), some (.int (x5)), some (.int (x6)), some (.int (x7))] [] (M) else run Z nF C_W_demands S_W_demands Kx Q f t_W_demands_55 [some (.ref (x1)), some (.ref (x2)), some (.ref (x3)), some (.int (x4)), some (.int (x5)), some (.int (x6)), some (.int (x7))] [] (M))) := id rfl
theorem g_W_demands_39 {Z : Zt} {nF f : Nat} {Kx : Nat → Kt} {Q : Option Value → Mem → Prop} {M : Mem} {x1 : Nat} {x2 : Nat} {x3 : Nat} {x4 : Int32} {x5 : Int32} {x6 : Int32} {x7 : Int32} : run Z nF C_W_demands S_W_demands Kx Q (f + 3) t_W_demands_39 [some (.ref (x1)), some (.ref (x2)), some (.ref (x3)), some (.int (x4)), some (.int (x5)), some (.int (x6)), some (.int (x7))] [] M = (((isO (M) (x1) 4) ∧ wsum [] ≤ 8) ∧ pcall e_B_demand [.ref (x1), .int (x4)] (M) (fun v M_ => run Z nF C_W_demands S_W_demands Kx Q f t_W_demands_44 [some (.ref (x1)), some (.ref (x2)), some (.ref (x3)), some (.int (x4)), some (.int (x5)), some (.int (x6)), some (.int (x7))] (v.toList ++ []) M_)) := id rfl
theorem g_W_demands_44 {Z : Zt} {nF f : Nat} {Kx : Nat → Kt} {Q : Option Value → Mem → Prop} {M : Mem} {x1 : Nat} {x2 : Nat} {x3 : Nat} {x4 : Int32} {x5 : Int32} {x6 : Int32} {x7 : Int32} {x8 : Int32} : run Z nF C_W_demands S_W_demands Kx Q (f + 2) t_W_demands_44 [some (.ref (x1)), some (.ref (x2)), some (.ref (x3)), some (.int (x4)), some (.int (x5)), some (.int (x6)), some (.int (x7))] [.int (x8)] M = ((if (x8) = ((-1000001 : Int32)) then run Z nF C_W_demands S_W_demands Kx Q f t_W_demands_49 [some (.ref (x1)), some (.ref (x2)), some (.ref (x3)), some (.int (x4)), some (.int (x5)), some (.int (x6)), some (.int (x7))] [] (M) else run Z nF C_W_demands S_W_demands Kx Q f t_W_demands_53 [some (.ref (x1)), some (.ref (x2)), some (.ref (x3)), some (.int (x4)), some (.int (x5)), some (.int (x6)), some (.int (x7))] [] (M))) := id rfl
theorem g_W_demands_49 {Z : Zt} {nF f : Nat} {Kx : Nat → Kt} {Q : Option Value → Mem → Prop} {M : Mem} {x1 : Nat} {x2 : Nat} {x3 : Nat} {x4 : Int32} {x5 : Int32} {x6 : Int32} {x7 : Int32} : run Z nF C_W_demands S_W_demands Kx Q (f + 2) t_W_demands_49 [some (.ref (x1)), some (.ref (x2)), some (.ref (x3)), some (.int (x4)), some (.int (x5)), some (.int (x6)), some (.int (x7))] [] M = (run Z nF C_W_demands S_W_demands Kx Q f t_W_demands_54 [some (.ref (x1)), some (.ref (x2)), some (.ref (x3)), some (.int (x4)), some (.int (x5)), some (.int (x6)), some (.int (x7))] [.int ((nI 1))] (M)) := id rfl
theorem g_W_demands_53 {Z : Zt} {nF f : Nat} {Kx : Nat → Kt} {Q : Option Value → Mem → Prop} {M : Mem} {x1 : Nat} {x2 : Nat} {x3 : Nat} {x4 : Int32} {x5 : Int32} {x6 : Int32} {x7 : Int32} : run Z nF C_W_demands S_W_demands Kx Q (f + 1) t_W_demands_53 [some (.ref (x1)), some (.ref (x2)), some (.ref (x3)), some (.int (x4)), some (.int (x5)), some (.int (x6)), some (.int (x7))] [] M = (run Z nF C_W_demands S_W_demands Kx Q f t_W_demands_54 [some (.ref (x1)), some (.ref (x2)), some (.ref (x3)), some (.int (x4)), some (.int (x5)), some (.int (x6)), some (.int (x7))] [.int ((nI 0))] (M)) := id rfl
theorem g_W_demands_54 {Z : Zt} {nF f : Nat} {Kx : Nat → Kt} {Q : Option Value → Mem → Prop} {M : Mem} {x1 : Nat} {x2 : Nat} {x3 : Nat} {x4 : Int32} {x5 : Int32} {x6 : Int32} {x7 : Int32} {x8 : Int32} : run Z nF C_W_demands S_W_demands Kx Q (f + 1) t_W_demands_54 [some (.ref (x1)), some (.ref (x2)), some (.ref (x3)), some (.int (x4)), some (.int (x5)), some (.int (x6)), some (.int (x7))] [.int (x8)] M = (((x8) = nI 0 ∨ (x8) = nI 1) ∧ Q (some (.int (x8))) (M)) := id rfl
theorem g_W_demands_55 {Z : Zt} {nF f : Nat} {Kx : Nat → Kt} {Q : Option Value → Mem → Prop} {M : Mem} {x1 : Nat} {x2 : Nat} {x3 : Nat} {x4 : Int32} {x5 : Int32} {x6 : Int32} {x7 : Int32} : run Z nF C_W_demands S_W_demands Kx Q (f + 5) t_W_demands_55 [some (.ref (x1)), some (.ref (x2)), some (.ref (x3)), some (.int (x4)), some (.int (x5)), some (.int (x6)), some (.int (x7))] [] M = (isA (M) (x3) ((nI 63)) ∧ (if (mI (M) (x3) (Int32.toNatClampNeg ((nI 63)))) = ((nI 20)) then run Z nF C_W_demands S_W_demands Kx Q f t_W_demands_64 [some (.ref (x1)), some (.ref (x2)), some (.ref (x3)), some (.int (x4)), some (.int (x5)), some (.int (x6)), some (.int (x7))] [] (M) else run Z nF C_W_demands S_W_demands Kx Q f t_W_demands_66 [some (.ref (x1)), some (.ref (x2)), some (.ref (x3)), some (.int (x4)), some (.int (x5)), some (.int (x6)), some (.int (x7))] [] (M))) := id rfl
theorem g_W_demands_64 {Z : Zt} {nF f : Nat} {Kx : Nat → Kt} {Q : Option Value → Mem → Prop} {M : Mem} {x1 : Nat} {x2 : Nat} {x3 : Nat} {x4 : Int32} {x5 : Int32} {x6 : Int32} {x7 : Int32} : run Z nF C_W_demands S_W_demands Kx Q (f + 2) t_W_demands_64 [some (.ref (x1)), some (.ref (x2)), some (.ref (x3)), some (.int (x4)), some (.int (x5)), some (.int (x6)), some (.int (x7))] [] M = ((((nI 1)) = nI 0 ∨ ((nI 1)) = nI 1) ∧ Q (some (.int ((nI 1)))) (M)) := id rfl
theorem g_W_demands_66 {Z : Zt} {nF f : Nat} {Kx : Nat → Kt} {Q : Option Value → Mem → Prop} {M : Mem} {x1 : Nat} {x2 : Nat} {x3 : Nat} {x4 : Int32} {x5 : Int32} {x6 : Int32} {x7 : Int32} : run Z nF C_W_demands S_W_demands Kx Q (f + 17) t_W_demands_66 [some (.ref (x1)), some (.ref (x2)), some (.ref (x3)), some (.int (x4)), some (.int (x5)), some (.int (x6)), some (.int (x7))] [] M = (isA (M) (x3) ((nI 63)) ∧ isA (M) (x3) (mI (M) (x3) (Int32.toNatClampNeg ((nI 63)))) ∧ isA (stI (M) (x3) (Int32.toNatClampNeg (mI (M) (x3) (Int32.toNatClampNeg ((nI 63))))) ((x7) ||| ((x4) <<< (((nI 28)) &&& 31)))) (x3) ((nI 63)) ∧ isA (stI (M) (x3) (Int32.toNatClampNeg (mI (M) (x3) (Int32.toNatClampNeg ((nI 63))))) ((x7) ||| ((x4) <<< (((nI 28)) &&& 31)))) (x3) ((nI 63)) ∧ run Z nF C_W_demands S_W_demands Kx Q f t_W_demands_87 [some (.ref (x1)), some (.ref (x2)), some (.ref (x3)), some (.int (x4)), some (.int (x5)), some (.int (x6)), some (.int (x7))] [] (stI (stI (M) (x3) (Int32.toNatClampNeg (mI (M) (x3) (Int32.toNatClampNeg ((nI 63))))) ((x7) ||| ((x4) <<< (((nI 28)) &&& 31)))) (x3) (Int32.toNatClampNeg ((nI 63))) ((mI (stI (M) (x3) (Int32.toNatClampNeg (mI (M) (x3) (Int32.toNatClampNeg ((nI 63))))) ((x7) ||| ((x4) <<< (((nI 28)) &&& 31)))) (x3) (Int32.toNatClampNeg ((nI 63)))) + ((nI 1))))) := id rfl
theorem g_W_demands_87 {Z : Zt} {nF f : Nat} {Kx : Nat → Kt} {Q : Option Value → Mem → Prop} {M : Mem} {x1 : Nat} {x2 : Nat} {x3 : Nat} {x4 : Int32} {x5 : Int32} {x6 : Int32} {x7 : Int32} : run Z nF C_W_demands S_W_demands Kx Q (f + 3) t_W_demands_87 [some (.ref (x1)), some (.ref (x2)), some (.ref (x3)), some (.int (x4)), some (.int (x5)), some (.int (x6)), some (.int (x7))] [] M = (((isO (M) (x1) 4) ∧ wsum [] ≤ 8) ∧ pcall e_B_demand [.ref (x1), .int (x4)] (M) (fun v M_ => run Z nF C_W_demands S_W_demands Kx Q f t_W_demands_92 [some (.ref (x1)), some (.ref (x2)), some (.ref (x3)), some (.int (x4)), some (.int (x5)), some (.int (x6)), some (.int (x7))] (v.toList ++ []) M_)) := id rfl
theorem g_W_demands_92 {Z : Zt} {nF f : Nat} {Kx : Nat → Kt} {Q : Option Value → Mem → Prop} {M : Mem} {x1 : Nat} {x2 : Nat} {x3 : Nat} {x4 : Int32} {x5 : Int32} {x6 : Int32} {x7 : Int32} {x8 : Int32} : run Z nF C_W_demands S_W_demands Kx Q (f + 4) t_W_demands_92 [some (.ref (x1)), some (.ref (x2)), some (.ref (x3)), some (.int (x4)), some (.int (x5)), some (.int (x6)), some (.int (x7))] [.int (x8)] M = (isA (M) (x3) ((nI 63)) ∧ (if (x8) = (mI (M) (x3) (Int32.toNatClampNeg ((nI 63)))) then run Z nF C_W_demands S_W_demands Kx Q f t_W_demands_99 [some (.ref (x1)), some (.ref (x2)), some (.ref (x3)), some (.int (x4)), some (.int (x5)), some (.int (x6)), some (.int (x7))] [] (M) else run Z nF C_W_demands S_W_demands Kx Q f t_W_demands_103 [some (.ref (x1)), some (.ref (x2)), some (.ref (x3)), some (.int (x4)), some (.int (x5)), some (.int (x6)), some (.int (x7))] [] (M))) := id rfl
theorem g_W_demands_99 {Z : Zt} {nF f : Nat} {Kx : Nat → Kt} {Q : Option Value → Mem → Prop} {M : Mem} {x1 : Nat} {x2 : Nat} {x3 : Nat} {x4 : Int32} {x5 : Int32} {x6 : Int32} {x7 : Int32} : run Z nF C_W_demands S_W_demands Kx Q (f + 2) t_W_demands_99 [some (.ref (x1)), some (.ref (x2)), some (.ref (x3)), some (.int (x4)), some (.int (x5)), some (.int (x6)), some (.int (x7))] [] M = (run Z nF C_W_demands S_W_demands Kx Q f t_W_demands_104 [some (.ref (x1)), some (.ref (x2)), some (.ref (x3)), some (.int (x4)), some (.int (x5)), some (.int (x6)), some (.int (x7))] [.int ((nI 1))] (M)) := id rfl
theorem g_W_demands_103 {Z : Zt} {nF f : Nat} {Kx : Nat → Kt} {Q : Option Value → Mem → Prop} {M : Mem} {x1 : Nat} {x2 : Nat} {x3 : Nat} {x4 : Int32} {x5 : Int32} {x6 : Int32} {x7 : Int32} : run Z nF C_W_demands S_W_demands Kx Q (f + 1) t_W_demands_103 [some (.ref (x1)), some (.ref (x2)), some (.ref (x3)), some (.int (x4)), some (.int (x5)), some (.int (x6)), some (.int (x7))] [] M = (run Z nF C_W_demands S_W_demands Kx Q f t_W_demands_104 [some (.ref (x1)), some (.ref (x2)), some (.ref (x3)), some (.int (x4)), some (.int (x5)), some (.int (x6)), some (.int (x7))] [.int ((nI 0))] (M)) := id rfl
theorem g_W_demands_104 {Z : Zt} {nF f : Nat} {Kx : Nat → Kt} {Q : Option Value → Mem → Prop} {M : Mem} {x1 : Nat} {x2 : Nat} {x3 : Nat} {x4 : Int32} {x5 : Int32} {x6 : Int32} {x7 : Int32} {x8 : Int32} : run Z nF C_W_demands S_W_demands Kx Q (f + 1) t_W_demands_104 [some (.ref (x1)), some (.ref (x2)), some (.ref (x3)), some (.int (x4)), some (.int (x5)), some (.int (x6)), some (.int (x7))] [.int (x8)] M = (((x8) = nI 0 ∨ (x8) = nI 1) ∧ Q (some (.int (x8))) (M)) := id rfl
set_option maxRecDepth 100000 in
set_option maxHeartbeats 4000000 in
theorem ok_W_demands (Z : Zt) (d : Nat) : okE Z (d + 10) i_W_demands e_W_demands := by
  rintro av M ⟨t, x, y, ht, rfl, hP, hk⟩
  have ht3 : t < 3 := by have := hP.T3; omega
  have hW := hP.1
  have hv : ∀ {K : Option Value → Mem → Prop}, pcall e_W_vector [.int x] M K = K (some (.int (vcW x 4))) M := pc_W_vector (x := x) True.intro
  have hty : ∀ {K : Option Value → Mem → Prop}, pcall e_W_types [.ref 16, .int (vcW x 4), .int y] M K = ∀ M', TyQ M (vcW x 4) M' → K (some (.int (nI 1))) M' := pt_W_types (fun q hq => ⟨vcN x q, by have := vcN_lt x q; omega, vc_un x hq⟩) hW
  refine Gm_run (C := C_W_demands) (S := S_W_demands) [some (.ref 16), some (.ref 174), some (.ref 176), some (.int (nI t)), some (.int x), some (.int y), none] 1000 kt_W_demands (okE_cons (ok_W_vector Z (d + 7)) (okE_cons (ok_W_types Z d) (okE_cons (ok_B_demand Z (d + 1)) okE_nil))) (fun r M' q => q.2.1) ?_
  simp (maxSteps := 3000000) (disch := first | exact True.intro | assumption | omega) only [↓eq_self, Option.toList_some, Option.toList_none, List.nil_append, List.cons_append, wsum_0, wsum_1, wsum_2, wsum_3, wsum_4, lkill, ↓reduceIte, if_true, if_false, Bool.false_eq_true, and_true, true_and, and_self, or_self, true_or, or_true, not_true, not_false_iff, mR_stI, mN_stI, isO_stI, isA_stI, mI_stI, mR_mW, mN_mW, isO_mW, isA_mW, mI_mW, mW_mW, stI_mW, vp_0, nI_add, nI_ltI, nI_leI, nI_eq, vpi, nI_clamp, nI_toN, nI_geT, pk_mul, pk_sub, bv_0n, bv_1n, ↓bv_01n, n01a, n01b, Nat.reduceSub, Nat.reduceAdd, Nat.reduceMul, u2_rw, rw_rw, rw_at, rw_ne, up_at, up_ne, Nat.zero_add, Nat.add_zero, lw_mW, m1_lt0, ite_nt, ↓g_W_demands_0, ↓g_W_demands_5, hv, hty]
  intro M' hM'
  obtain ⟨g, j, w, u, rfl, hX, hR, hu⟩ := hM'
  obtain ⟨hP1, hr1⟩ := hP.tx hX
  have h10 := nI_n0 (m := 1) (by omega) (by omega)
  have e1 : mI (mW M g) 174 = mI M 174 := congrArg (fun T : Tr => T.1) hr1
  have ek1 : kaM (mW M g) = kaM M := by
    have e2 : mI (mW M g) 175 = mI M 175 := congrArg (fun T : Tr => T.2.1) hr1
    have e3 : mI (mW M g) 176 = mI M 176 := congrArg (fun T : Tr => T.2.2) hr1
    unfold kaM UM
    rw [e1, e2, e3]
  have eN : mN (mW M g) = mN M := rfl
  have hR1 : RdI (mI (mW M g)) j w u := hR
  rw [← e1] at ht
  have goal : ∀ k r M', StQ k 0 (mW M g) r M' → StQ k 0 M r M' := fun k r M' q => ⟨q.1, q.2.1.trans eN, q.2.2.1, by rw [← ek1]; exact q.2.2.2.1, by rw [← e1]; exact q.2.2.2.2⟩
  rw [← ek1] at hk
  rw [← eN]
  generalize mW M g = M1 at *
  have hA := fun {k : Nat} (hk : k < 64) => lwA (hP1.lw (x := 174) (by omega) (by omega)) hk
  have hY := fun {k : Nat} (hk : k < 64) => lwA (hP1.lw (x := 176) (by omega) (by omega)) hk
  have b1 := hP1.b1 ht
  have hB := hP1.1.1
  have hGD := hP1.GD
  have e63 : mI M1 176 63 = nI (wn (mI M1 176)) := hP1.D24.1
  by_cases z : vcW x 4 = nI 0
  · obtain ⟨r1, r2⟩ := hR1.end_ (Ext.rf _) rfl
    have hb : UM M1 (8 + 12 * t + 3) = nI 1 := by
      unfold UM
      rw [Uw_a (by omega)]
      exact b1
    obtain ⟨d1, d2⟩ := dm_no hP1.cu (t := t) ht hb r1 (fun q hq => by rw [r2 q hq, hu q hq, vc_un x hq, (vc_0 x).mp z q hq])
    have hd : ∀ {K : Option Value → Mem → Prop}, pcall e_B_demand [.ref 16, .int (nI t)] M1 K = K (some (.int (-1000001))) (rvM M1) := fun {K} => by rw [pc_B_demand (o := 16) ⟨rfl, hP1.1⟩, d1, d2]
    obtain ⟨p1, p2⟩ := hP1.tx ((TX.rf hP1.1).rd (rvF (mI M1)).2)
    have q1 : mI (rvM M1) 174 = mI M1 174 := congrArg (fun T : Tr => T.1) p2
    have qk : kaM (rvM M1) = kaM M1 := by
      have q2 : mI (rvM M1) 175 = mI M1 175 := congrArg (fun T : Tr => T.2.1) p2
      have q3 : mI (rvM M1) 176 = mI M1 176 := congrArg (fun T : Tr => T.2.2) p2
      unfold kaM UM
      rw [q1, q2, q3]
    have fin : StQ 1 0 M (some (.int (nI 1))) (rvM M1) := goal 1 _ _ ⟨rfl, rfl, p1, by rw [qk]; omega, by rw [q1]; rfl⟩
    simp (maxSteps := 3000000) (disch := first | exact True.intro | assumption | omega) only [↓eq_self, Option.toList_some, Option.toList_none, List.nil_append, List.cons_append, wsum_0, wsum_1, wsum_2, wsum_3, wsum_4, lkill, ↓reduceIte, if_true, if_false, Bool.false_eq_true, and_true, true_and, and_self, or_self, true_or, or_true, not_true, not_false_iff, mR_stI, mN_stI, isO_stI, isA_stI, mI_stI, mR_mW, mN_mW, isO_mW, isA_mW, mI_mW, mW_mW, stI_mW, vp_0, nI_add, nI_ltI, nI_leI, nI_eq, vpi, nI_clamp, nI_toN, nI_geT, pk_mul, pk_sub, bv_0n, bv_1n, ↓bv_01n, n01a, n01b, Nat.reduceSub, Nat.reduceAdd, Nat.reduceMul, u2_rw, rw_rw, rw_at, rw_ne, up_at, up_ne, Nat.zero_add, Nat.add_zero, lw_mW, m1_lt0, ite_nt, ↓g_W_demands_15, ↓g_W_demands_18, ↓g_W_demands_20, ↓g_W_demands_34, ↓g_W_demands_39, ↓g_W_demands_44, ↓g_W_demands_49, ↓g_W_demands_53, ↓g_W_demands_54, h10, hA, b1, z, hd, bk_oB hB]
    exact fin
  · obtain ⟨s1, s2, s3, s4⟩ := st_dm hP1 hk ht hR1 (fun q hq => (hu q hq).trans (vc_un x hq)) z
    have hd : ∀ {K : Option Value → Mem → Prop}, pcall e_B_demand [.ref 16, .int (nI t)] (MyD M1 x t) K = K (some (.int (nI (wn (mI M1 176) + 1)))) (dmM (MyD M1 x t) (nI t)) := fun {K} => by rw [pc_B_demand (o := 16) ⟨rfl, s1⟩, s2]
    have n20 : ¬ wn (mI M1 176) = 20 := by omega
    have eM : mW M1 (rwF (mI M1) 176 (upF (upF (mI M1 176) (wn (mI M1 176)) (vcW x 4 ||| (nI t <<< (nI 28 &&& 31)))) 63 (nI (wn (mI M1 176) + 1)))) = MyD M1 x t := rfl
    have hY3 : isA (dmM (MyD M1 x t) (nI t)) 176 (nI 63) = True := lwA (s4.2.2.1.lw (by omega) (by omega)) (by omega)
    have hB2 : isO (MyD M1 x t) 16 4 = isO M1 16 4 := rfl
    simp (maxSteps := 3000000) (disch := first | exact True.intro | assumption | omega) only [↓eq_self, Option.toList_some, Option.toList_none, List.nil_append, List.cons_append, wsum_0, wsum_1, wsum_2, wsum_3, wsum_4, lkill, ↓reduceIte, if_true, if_false, Bool.false_eq_true, and_true, true_and, and_self, or_self, true_or, or_true, not_true, not_false_iff, mR_stI, mN_stI, isO_stI, isA_stI, mI_stI, mR_mW, mN_mW, isO_mW, isA_mW, mI_mW, mW_mW, stI_mW, vp_0, nI_add, nI_ltI, nI_leI, nI_eq, vpi, nI_clamp, nI_toN, nI_geT, pk_mul, pk_sub, bv_0n, bv_1n, ↓bv_01n, n01a, n01b, Nat.reduceSub, Nat.reduceAdd, Nat.reduceMul, u2_rw, rw_rw, rw_at, rw_ne, up_at, up_ne, Nat.zero_add, Nat.add_zero, lw_mW, m1_lt0, ite_nt, ↓g_W_demands_15, ↓g_W_demands_18, ↓g_W_demands_20, ↓g_W_demands_34, ↓g_W_demands_39, ↓g_W_demands_44, ↓g_W_demands_49, ↓g_W_demands_53, ↓g_W_demands_54, ↓g_W_demands_55, ↓g_W_demands_64, ↓g_W_demands_66, ↓g_W_demands_87, ↓g_W_demands_92, ↓g_W_demands_99, ↓g_W_demands_103, ↓g_W_demands_104, h10, hA, hY, b1, z, e63, n20, eM, hB2, hd, bk_oB hB, hY3, s3]
    exact goal 1 _ _ s4
