/-! ===== the law, case by case (printed by loop.py) ===== -/
section Lo
variable {Z : Zt} {Kx : Nat → Kt} {Q : Option Value → Mem → Prop} {k : Nat} {M : Mem}
theorem lo_0 (h : RR k M) (hc : k < 900000) (hv : ∀ j, j < 5 → vp_in (nI (5 * k) + nI j) (zn Z)) (hK : ∀ N, RR (k + 1) N → Kx 18 [some (.ref 1), some (.ref 16), some (.ref 174), some (.int (nI (5 * k) + nI 5))] [] N) : run Z 181 C_law S_law Kx Q 988 t_law_160 [some (.ref 1), some (.ref 16), some (.ref 174), some (.int (nI (5 * k)))] [] M := by
  have hB := h.1.1
  have cm := cm_type h (zx Z (Int32.toNatClampNeg (nI (5 * k) + nI 1)))
  have st := st_type h (zx Z (Int32.toNatClampNeg (nI (5 * k) + nI 1)))
  rw [g_law_160]
  refine ⟨⟨rfl, hv 1 (by omega)⟩, ⟨of_eq_true (bk_oB hB), of_eq_true wsum_0⟩, ?_⟩
  rw [pc_B_type (M := M) ⟨rfl, h.1⟩]
  simp only [Option.toList_some, List.cons_append, List.nil_append]
  rw [g_law_169]
  refine ⟨⟨rfl, hv 1 (by omega)⟩, ⟨of_eq_true (bk_oM cm.1), of_eq_true (wsum_1 _)⟩, ?_⟩
  rw [pc_M_type ⟨rfl, cm.1, cm.T h⟩]
  simp only [Option.toList_some, List.cons_append, List.nil_append]
  rw [g_law_178, if_pos st.1, g_law_951]
  exact hK _ st.2
theorem lo_1 (h : RR k M) (hc : k < 900000) (hv : ∀ j, j < 5 → vp_in (nI (5 * k) + nI j) (zn Z)) (hK : ∀ N, RR (k + 1) N → Kx 18 [some (.ref 1), some (.ref 16), some (.ref 174), some (.int (nI (5 * k) + nI 5))] [] N) : run Z 181 C_law S_law Kx Q 988 t_law_183 [some (.ref 1), some (.ref 16), some (.ref 174), some (.int (nI (5 * k)))] [] M := by
  have hB := h.1.1
  have cm := cm_clearText h
  have st := st_clear h
  rw [g_law_183]
  refine ⟨⟨of_eq_true (bk_oB hB), of_eq_true wsum_0⟩, ?_⟩
  rw [pc_B_clearText (M := M) ⟨rfl, h.1⟩]
  simp only [Option.toList_some, List.cons_append, List.nil_append]
  rw [g_law_187]
  refine ⟨⟨of_eq_true (bk_oM cm.1), of_eq_true (wsum_1 _)⟩, ?_⟩
  rw [pc_M_clearText ⟨rfl, cm.1, cm.T h⟩]
  simp only [Option.toList_some, List.cons_append, List.nil_append]
  rw [g_law_191, if_pos st.1, g_law_951]
  exact hK _ st.2
theorem lo_2 (h : RR k M) (hc : k < 900000) (hv : ∀ j, j < 5 → vp_in (nI (5 * k) + nI j) (zn Z)) (hK : ∀ N, RR (k + 1) N → Kx 18 [some (.ref 1), some (.ref 16), some (.ref 174), some (.int (nI (5 * k) + nI 5))] [] N) : run Z 181 C_law S_law Kx Q 988 t_law_196 [some (.ref 1), some (.ref 16), some (.ref 174), some (.int (nI (5 * k)))] [] M := by
  have hB := h.1.1
  have cm := cm_fault h
  have st := st_fault h
  unfold rvM at cm st
  rw [g_law_196]
  refine ⟨⟨of_eq_true (bk_oB hB), of_eq_true wsum_0⟩, ?_⟩
  rw [pc_B_fault (M := M) ⟨rfl, h.1⟩]
  simp only [Option.toList_some, List.cons_append, List.nil_append]
  rw [g_law_200]
  refine ⟨⟨of_eq_true (bk_oM cm.1), of_eq_true (wsum_1 _)⟩, ?_⟩
  rw [pc_M_fault ⟨rfl, cm.1, cm.T h⟩]
  simp only [Option.toList_some, List.cons_append, List.nil_append]
  rw [g_law_204, if_pos st.1, g_law_951]
  exact hK _ st.2
theorem lo_3 (h : RR k M) (hc : k < 900000) (hv : ∀ j, j < 5 → vp_in (nI (5 * k) + nI j) (zn Z)) (hK : ∀ N, RR (k + 1) N → Kx 18 [some (.ref 1), some (.ref 16), some (.ref 174), some (.int (nI (5 * k) + nI 5))] [] N) : run Z 181 C_law S_law Kx Q 988 t_law_209 [some (.ref 1), some (.ref 16), some (.ref 174), some (.int (nI (5 * k)))] [] M := by
  have hB := h.1.1
  by_cases z : zx Z (Int32.toNatClampNeg (nI (5 * k) + nI 2)) = nI 0
  · rw [g_law_209]
    refine ⟨⟨rfl, hv 1 (by omega)⟩, ⟨rfl, hv 2 (by omega)⟩, ?_⟩
    rw [if_pos z, g_law_227, g_law_228]
    have cm := cm_setResource h (zx Z (Int32.toNatClampNeg (nI (5 * k) + nI 1))) (nI 0) (zx Z (Int32.toNatClampNeg (nI (5 * k) + nI 3)))
    have st := st_setResource h (zx Z (Int32.toNatClampNeg (nI (5 * k) + nI 1))) (nI 0) (zx Z (Int32.toNatClampNeg (nI (5 * k) + nI 3)))
    refine ⟨⟨rfl, hv 3 (by omega)⟩, ⟨of_eq_true (bk_oB hB), of_eq_true wsum_0⟩, ?_⟩
    rw [pc_B_setResource (M := M) ⟨rfl, h.1⟩]
    simp only [Option.toList_some, List.cons_append, List.nil_append]
    rw [g_law_236]
    refine ⟨⟨rfl, hv 1 (by omega)⟩, ⟨rfl, hv 2 (by omega)⟩, ?_⟩
    rw [if_pos z, g_law_254, g_law_255]
    refine ⟨⟨rfl, hv 3 (by omega)⟩, ⟨of_eq_true (bk_oM cm.1), of_eq_true (wsum_1 _)⟩, ?_⟩
    rw [pc_M_setResource ⟨rfl, cm.W h⟩]
    simp only [Option.toList_some, List.cons_append, List.nil_append]
    rw [g_law_263, if_pos st.1, g_law_951]
    exact hK _ st.2
  · rw [g_law_209]
    refine ⟨⟨rfl, hv 1 (by omega)⟩, ⟨rfl, hv 2 (by omega)⟩, ?_⟩
    rw [if_neg z, g_law_223, g_law_228]
    have cm := cm_setResource h (zx Z (Int32.toNatClampNeg (nI (5 * k) + nI 1))) (nI 1) (zx Z (Int32.toNatClampNeg (nI (5 * k) + nI 3)))
    have st := st_setResource h (zx Z (Int32.toNatClampNeg (nI (5 * k) + nI 1))) (nI 1) (zx Z (Int32.toNatClampNeg (nI (5 * k) + nI 3)))
    refine ⟨⟨rfl, hv 3 (by omega)⟩, ⟨of_eq_true (bk_oB hB), of_eq_true wsum_0⟩, ?_⟩
    rw [pc_B_setResource (M := M) ⟨rfl, h.1⟩]
    simp only [Option.toList_some, List.cons_append, List.nil_append]
    rw [g_law_236]
    refine ⟨⟨rfl, hv 1 (by omega)⟩, ⟨rfl, hv 2 (by omega)⟩, ?_⟩
    rw [if_neg z, g_law_250, g_law_255]
    refine ⟨⟨rfl, hv 3 (by omega)⟩, ⟨of_eq_true (bk_oM cm.1), of_eq_true (wsum_1 _)⟩, ?_⟩
    rw [pc_M_setResource ⟨rfl, cm.W h⟩]
    simp only [Option.toList_some, List.cons_append, List.nil_append]
    rw [g_law_263, if_pos st.1, g_law_951]
    exact hK _ st.2
theorem lo_4 (h : RR k M) (hc : k < 900000) (hv : ∀ j, j < 5 → vp_in (nI (5 * k) + nI j) (zn Z)) (hK : ∀ N, RR (k + 1) N → Kx 18 [some (.ref 1), some (.ref 16), some (.ref 174), some (.int (nI (5 * k) + nI 5))] [] N) : run Z 181 C_law S_law Kx Q 988 t_law_268 [some (.ref 1), some (.ref 16), some (.ref 174), some (.int (nI (5 * k)))] [] M := by
  have hB := h.1.1
  have cm := cm_setRest h (zx Z (Int32.toNatClampNeg (nI (5 * k) + nI 1)))
  have st := st_setRest h (zx Z (Int32.toNatClampNeg (nI (5 * k) + nI 1)))
  rw [g_law_268]
  refine ⟨⟨rfl, hv 1 (by omega)⟩, ⟨of_eq_true (bk_oB hB), of_eq_true wsum_0⟩, ?_⟩
  rw [pc_B_setRest (M := M) ⟨rfl, h.1⟩]
  simp only [Option.toList_some, List.cons_append, List.nil_append]
  rw [g_law_277]
  refine ⟨⟨rfl, hv 1 (by omega)⟩, ⟨of_eq_true (bk_oM cm.1), of_eq_true (wsum_1 _)⟩, ?_⟩
  rw [pc_M_setRest ⟨rfl, cm.W h⟩]
  simp only [Option.toList_some, List.cons_append, List.nil_append]
  rw [g_law_286, if_pos st.1, g_law_951]
  exact hK _ st.2
theorem lo_5 (h : RR k M) (hc : k < 900000) (hv : ∀ j, j < 5 → vp_in (nI (5 * k) + nI j) (zn Z)) (hK : ∀ N, RR (k + 1) N → Kx 18 [some (.ref 1), some (.ref 16), some (.ref 174), some (.int (nI (5 * k) + nI 5))] [] N) : run Z 181 C_law S_law Kx Q 988 t_law_291 [some (.ref 1), some (.ref 16), some (.ref 174), some (.int (nI (5 * k)))] [] M := by
  have hB := h.1.1
  have cm := cm_addTenant h (zx Z (Int32.toNatClampNeg (nI (5 * k) + nI 1)))
  have st := st_addTenant h (zx Z (Int32.toNatClampNeg (nI (5 * k) + nI 1)))
  rw [g_law_291]
  refine ⟨⟨rfl, hv 1 (by omega)⟩, ⟨of_eq_true (bk_oB hB), of_eq_true wsum_0⟩, ?_⟩
  rw [pc_B_addTenant (M := M) ⟨rfl, h.1⟩]
  simp only [Option.toList_some, List.cons_append, List.nil_append]
  rw [g_law_300]
  refine ⟨⟨rfl, hv 1 (by omega)⟩, ⟨of_eq_true (bk_oM cm.1), of_eq_true (wsum_1 _)⟩, ?_⟩
  rw [pc_M_addTenant ⟨rfl, cm.W h⟩]
  simp only [Option.toList_some, List.cons_append, List.nil_append]
  rw [g_law_309, if_pos st.1, g_law_951]
  exact hK _ st.2
theorem lo_6 (h : RR k M) (hc : k < 900000) (hv : ∀ j, j < 5 → vp_in (nI (5 * k) + nI j) (zn Z)) (hK : ∀ N, RR (k + 1) N → Kx 18 [some (.ref 1), some (.ref 16), some (.ref 174), some (.int (nI (5 * k) + nI 5))] [] N) : run Z 181 C_law S_law Kx Q 988 t_law_314 [some (.ref 1), some (.ref 16), some (.ref 174), some (.int (nI (5 * k)))] [] M := by
  have hB := h.1.1
  have cm := cm_setWeight h (zx Z (Int32.toNatClampNeg (nI (5 * k) + nI 1))) (zx Z (Int32.toNatClampNeg (nI (5 * k) + nI 2)))
  have st := st_setWeight h (zx Z (Int32.toNatClampNeg (nI (5 * k) + nI 1))) (zx Z (Int32.toNatClampNeg (nI (5 * k) + nI 2)))
  rw [g_law_314]
  refine ⟨⟨rfl, hv 1 (by omega)⟩, ⟨rfl, hv 2 (by omega)⟩, ⟨of_eq_true (bk_oB hB), of_eq_true wsum_0⟩, ?_⟩
  rw [pc_B_setWeight (M := M) ⟨rfl, h.1⟩]
  simp only [Option.toList_some, List.cons_append, List.nil_append]
  rw [g_law_328]
  refine ⟨⟨rfl, hv 1 (by omega)⟩, ⟨rfl, hv 2 (by omega)⟩, ⟨of_eq_true (bk_oM cm.1), of_eq_true (wsum_1 _)⟩, ?_⟩
  rw [pc_M_setWeight ⟨rfl, cm.W h⟩]
  simp only [Option.toList_some, List.cons_append, List.nil_append]
  rw [g_law_342, if_pos st.1, g_law_951]
  exact hK _ st.2
theorem lo_7 (h : RR k M) (hc : k < 900000) (hv : ∀ j, j < 5 → vp_in (nI (5 * k) + nI j) (zn Z)) (hK : ∀ N, RR (k + 1) N → Kx 18 [some (.ref 1), some (.ref 16), some (.ref 174), some (.int (nI (5 * k) + nI 5))] [] N) : run Z 181 C_law S_law Kx Q 988 t_law_347 [some (.ref 1), some (.ref 16), some (.ref 174), some (.int (nI (5 * k)))] [] M := by
  have hB := h.1.1
  have cm := cm_setLimit h (zx Z (Int32.toNatClampNeg (nI (5 * k) + nI 1))) (zx Z (Int32.toNatClampNeg (nI (5 * k) + nI 2))) (zx Z (Int32.toNatClampNeg (nI (5 * k) + nI 3)))
  have st := st_setLimit h (zx Z (Int32.toNatClampNeg (nI (5 * k) + nI 1))) (zx Z (Int32.toNatClampNeg (nI (5 * k) + nI 2))) (zx Z (Int32.toNatClampNeg (nI (5 * k) + nI 3)))
  rw [g_law_347]
  refine ⟨⟨rfl, hv 1 (by omega)⟩, ⟨rfl, hv 2 (by omega)⟩, ⟨rfl, hv 3 (by omega)⟩, ⟨of_eq_true (bk_oB hB), of_eq_true wsum_0⟩, ?_⟩
  rw [pc_B_setLimit (M := M) ⟨rfl, h.1⟩]
  simp only [Option.toList_some, List.cons_append, List.nil_append]
  rw [g_law_366]
  refine ⟨⟨rfl, hv 1 (by omega)⟩, ⟨rfl, hv 2 (by omega)⟩, ⟨rfl, hv 3 (by omega)⟩, ⟨of_eq_true (bk_oM cm.1), of_eq_true (wsum_1 _)⟩, ?_⟩
  rw [pc_M_setLimit ⟨rfl, cm.W h⟩]
  simp only [Option.toList_some, List.cons_append, List.nil_append]
  rw [g_law_385, if_pos st.1, g_law_951]
  exact hK _ st.2
theorem lo_8 (h : RR k M) (hc : k < 900000) (hv : ∀ j, j < 5 → vp_in (nI (5 * k) + nI j) (zn Z)) (hK : ∀ N, RR (k + 1) N → Kx 18 [some (.ref 1), some (.ref 16), some (.ref 174), some (.int (nI (5 * k) + nI 5))] [] N) : run Z 181 C_law S_law Kx Q 988 t_law_390 [some (.ref 1), some (.ref 16), some (.ref 174), some (.int (nI (5 * k)))] [] M := by
  have hB := h.1.1
  have cm := cm_demand h (zx Z (Int32.toNatClampNeg (nI (5 * k) + nI 1)))
  have st := st_demand h (zx Z (Int32.toNatClampNeg (nI (5 * k) + nI 1)))
  rw [g_law_390]
  refine ⟨⟨rfl, hv 1 (by omega)⟩, ⟨of_eq_true (bk_oB hB), of_eq_true wsum_0⟩, ?_⟩
  rw [pc_B_demand (M := M) ⟨rfl, h.1⟩]
  simp only [Option.toList_some, List.cons_append, List.nil_append]
  rw [g_law_399]
  refine ⟨⟨rfl, hv 1 (by omega)⟩, ⟨of_eq_true (bk_oM cm.1), of_eq_true (wsum_1 _)⟩, ?_⟩
  rw [pc_M_demand ⟨rfl, cm.W h, cm.T h⟩]
  simp only [Option.toList_some, List.cons_append, List.nil_append]
  rw [g_law_408, if_pos st.1, g_law_951]
  exact hK _ st.2
theorem lo_9 (h : RR k M) (hc : k < 900000) (hv : ∀ j, j < 5 → vp_in (nI (5 * k) + nI j) (zn Z)) (hK : ∀ N, RR (k + 1) N → Kx 18 [some (.ref 1), some (.ref 16), some (.ref 174), some (.int (nI (5 * k) + nI 5))] [] N) : run Z 181 C_law S_law Kx Q 988 t_law_413 [some (.ref 1), some (.ref 16), some (.ref 174), some (.int (nI (5 * k)))] [] M := by
  have hB := h.1.1
  have cm := cm_withdraw h (zx Z (Int32.toNatClampNeg (nI (5 * k) + nI 1)))
  have st := st_withdraw h (zx Z (Int32.toNatClampNeg (nI (5 * k) + nI 1)))
  rw [g_law_413]
  refine ⟨⟨rfl, hv 1 (by omega)⟩, ⟨of_eq_true (bk_oB hB), of_eq_true wsum_0⟩, ?_⟩
  rw [pc_B_withdraw (M := M) ⟨rfl, h.1⟩]
  simp only [Option.toList_some, List.cons_append, List.nil_append]
  rw [g_law_422]
  refine ⟨⟨rfl, hv 1 (by omega)⟩, ⟨of_eq_true (bk_oM cm.1), of_eq_true (wsum_1 _)⟩, ?_⟩
  rw [pc_M_withdraw ⟨rfl, cm.W h⟩]
  simp only [Option.toList_some, List.cons_append, List.nil_append]
  rw [g_law_431, if_pos st.1, g_law_951]
  exact hK _ st.2
theorem lo_10 (h : RR k M) (hc : k < 900000) (hv : ∀ j, j < 5 → vp_in (nI (5 * k) + nI j) (zn Z)) (hK : ∀ N, RR (k + 1) N → Kx 18 [some (.ref 1), some (.ref 16), some (.ref 174), some (.int (nI (5 * k) + nI 5))] [] N) : run Z 181 C_law S_law Kx Q 988 t_law_436 [some (.ref 1), some (.ref 16), some (.ref 174), some (.int (nI (5 * k)))] [] M := by
  have hB := h.1.1
  have cm := cm_grant h
  have st := st_grant h hc
  rw [g_law_436]
  refine ⟨⟨of_eq_true (bk_oB hB), of_eq_true wsum_0⟩, ?_⟩
  rw [pc_B_grant (M := M) ⟨rfl, h.1⟩]
  simp only [Option.toList_some, List.cons_append, List.nil_append]
  rw [g_law_440]
  refine ⟨⟨of_eq_true (bk_oM cm.1), of_eq_true (wsum_1 _)⟩, ?_⟩
  rw [pc_M_grant ⟨rfl, cm.W h, cm.ds h⟩]
  simp only [Option.toList_some, List.cons_append, List.nil_append]
  rw [g_law_444, if_pos st.1, g_law_951]
  exact hK _ st.2
theorem lo_11 (h : RR k M) (hc : k < 900000) (hv : ∀ j, j < 5 → vp_in (nI (5 * k) + nI j) (zn Z)) (hK : ∀ N, RR (k + 1) N → Kx 18 [some (.ref 1), some (.ref 16), some (.ref 174), some (.int (nI (5 * k) + nI 5))] [] N) : run Z 181 C_law S_law Kx Q 988 t_law_449 [some (.ref 1), some (.ref 16), some (.ref 174), some (.int (nI (5 * k)))] [] M := by
  have hB := h.1.1
  have cm := cm_grantAll h
  have st := st_grantAll h hc
  rw [g_law_449]
  refine ⟨⟨of_eq_true (bk_oB hB), of_eq_true wsum_0⟩, ?_⟩
  rw [pc_B_grantAll (M := M) ⟨rfl, h.1⟩]
  simp only [Option.toList_some, List.cons_append, List.nil_append]
  rw [g_law_453]
  refine ⟨⟨of_eq_true (bk_oM cm.1), of_eq_true (wsum_1 _)⟩, ?_⟩
  rw [pc_M_grantAll ⟨rfl, cm.W h, cm.ds h⟩]
  simp only [Option.toList_some, List.cons_append, List.nil_append]
  rw [g_law_457, if_pos st.1, g_law_951]
  exact hK _ st.2
theorem lo_12 (h : RR k M) (hc : k < 900000) (hv : ∀ j, j < 5 → vp_in (nI (5 * k) + nI j) (zn Z)) (hK : ∀ N, RR (k + 1) N → Kx 18 [some (.ref 1), some (.ref 16), some (.ref 174), some (.int (nI (5 * k) + nI 5))] [] N) : run Z 181 C_law S_law Kx Q 988 t_law_462 [some (.ref 1), some (.ref 16), some (.ref 174), some (.int (nI (5 * k)))] [] M := by
  have hB := h.1.1
  have cm := cm_release h (zx Z (Int32.toNatClampNeg (nI (5 * k) + nI 1)))
  have st := st_release h (zx Z (Int32.toNatClampNeg (nI (5 * k) + nI 1)))
  rw [g_law_462]
  refine ⟨⟨rfl, hv 1 (by omega)⟩, ⟨of_eq_true (bk_oB hB), of_eq_true wsum_0⟩, ?_⟩
  rw [pc_B_release (M := M) ⟨rfl, h.1⟩]
  simp only [Option.toList_some, List.cons_append, List.nil_append]
  rw [g_law_471]
  refine ⟨⟨rfl, hv 1 (by omega)⟩, ⟨of_eq_true (bk_oM cm.1), of_eq_true (wsum_1 _)⟩, ?_⟩
  rw [pc_M_release ⟨rfl, cm.W h⟩]
  simp only [Option.toList_some, List.cons_append, List.nil_append]
  rw [g_law_480, if_pos st.1, g_law_951]
  exact hK _ st.2
theorem lo_13 (h : RR k M) (hc : k < 900000) (hv : ∀ j, j < 5 → vp_in (nI (5 * k) + nI j) (zn Z)) (hK : ∀ N, RR (k + 1) N → Kx 18 [some (.ref 1), some (.ref 16), some (.ref 174), some (.int (nI (5 * k) + nI 5))] [] N) : run Z 181 C_law S_law Kx Q 988 t_law_485 [some (.ref 1), some (.ref 16), some (.ref 174), some (.int (nI (5 * k)))] [] M := by
  have hB := h.1.1
  have cm := cm_exchange h (zx Z (Int32.toNatClampNeg (nI (5 * k) + nI 1))) (zx Z (Int32.toNatClampNeg (nI (5 * k) + nI 2))) (zx Z (Int32.toNatClampNeg (nI (5 * k) + nI 3))) (zx Z (Int32.toNatClampNeg (nI (5 * k) + nI 4)))
  have st := st_exchange h (zx Z (Int32.toNatClampNeg (nI (5 * k) + nI 1))) (zx Z (Int32.toNatClampNeg (nI (5 * k) + nI 2))) (zx Z (Int32.toNatClampNeg (nI (5 * k) + nI 3))) (zx Z (Int32.toNatClampNeg (nI (5 * k) + nI 4)))
  rw [g_law_485]
  refine ⟨⟨rfl, hv 1 (by omega)⟩, ⟨rfl, hv 2 (by omega)⟩, ⟨rfl, hv 3 (by omega)⟩, ⟨rfl, hv 4 (by omega)⟩, ⟨of_eq_true (bk_oB hB), of_eq_true wsum_0⟩, ?_⟩
  rw [pc_B_exchange (M := M) ⟨rfl, h.1⟩]
  simp only [Option.toList_some, List.cons_append, List.nil_append]
  rw [g_law_509]
  refine ⟨⟨rfl, hv 1 (by omega)⟩, ⟨rfl, hv 2 (by omega)⟩, ⟨rfl, hv 3 (by omega)⟩, ⟨rfl, hv 4 (by omega)⟩, ⟨of_eq_true (bk_oM cm.1), of_eq_true (wsum_1 _)⟩, ?_⟩
  rw [pc_M_exchange ⟨rfl, cm.W h, cm.pr h⟩]
  simp only [Option.toList_some, List.cons_append, List.nil_append]
  rw [g_law_533, if_pos st.1, g_law_951]
  exact hK _ st.2
theorem lo_14 (h : RR k M) (hc : k < 900000) (hv : ∀ j, j < 5 → vp_in (nI (5 * k) + nI j) (zn Z)) (hK : ∀ N, RR (k + 1) N → Kx 18 [some (.ref 1), some (.ref 16), some (.ref 174), some (.int (nI (5 * k) + nI 5))] [] N) : run Z 181 C_law S_law Kx Q 988 t_law_538 [some (.ref 1), some (.ref 16), some (.ref 174), some (.int (nI (5 * k)))] [] M := by
  have hB := h.1.1
  have cm := cm_borrow h (zx Z (Int32.toNatClampNeg (nI (5 * k) + nI 1))) (zx Z (Int32.toNatClampNeg (nI (5 * k) + nI 2))) (zx Z (Int32.toNatClampNeg (nI (5 * k) + nI 3)))
  have st := st_borrow h (zx Z (Int32.toNatClampNeg (nI (5 * k) + nI 1))) (zx Z (Int32.toNatClampNeg (nI (5 * k) + nI 2))) (zx Z (Int32.toNatClampNeg (nI (5 * k) + nI 3)))
  rw [g_law_538]
  refine ⟨⟨rfl, hv 1 (by omega)⟩, ⟨rfl, hv 2 (by omega)⟩, ⟨rfl, hv 3 (by omega)⟩, ⟨of_eq_true (bk_oB hB), of_eq_true wsum_0⟩, ?_⟩
  rw [pc_B_borrow (M := M) ⟨rfl, h.1⟩]
  simp only [Option.toList_some, List.cons_append, List.nil_append]
  rw [g_law_557]
  refine ⟨⟨rfl, hv 1 (by omega)⟩, ⟨rfl, hv 2 (by omega)⟩, ⟨rfl, hv 3 (by omega)⟩, ⟨of_eq_true (bk_oM cm.1), of_eq_true (wsum_1 _)⟩, ?_⟩
  rw [pc_M_borrow ⟨rfl, cm.W h⟩]
  simp only [Option.toList_some, List.cons_append, List.nil_append]
  rw [g_law_576, if_pos st.1, g_law_951]
  exact hK _ st.2
theorem lo_15 (h : RR k M) (hc : k < 900000) (hv : ∀ j, j < 5 → vp_in (nI (5 * k) + nI j) (zn Z)) (hK : ∀ N, RR (k + 1) N → Kx 18 [some (.ref 1), some (.ref 16), some (.ref 174), some (.int (nI (5 * k) + nI 5))] [] N) : run Z 181 C_law S_law Kx Q 988 t_law_581 [some (.ref 1), some (.ref 16), some (.ref 174), some (.int (nI (5 * k)))] [] M := by
  have hB := h.1.1
  have cm := cm_repay h (zx Z (Int32.toNatClampNeg (nI (5 * k) + nI 1))) (zx Z (Int32.toNatClampNeg (nI (5 * k) + nI 2))) (zx Z (Int32.toNatClampNeg (nI (5 * k) + nI 3)))
  have st := st_repay h (zx Z (Int32.toNatClampNeg (nI (5 * k) + nI 1))) (zx Z (Int32.toNatClampNeg (nI (5 * k) + nI 2))) (zx Z (Int32.toNatClampNeg (nI (5 * k) + nI 3)))
  rw [g_law_581]
  refine ⟨⟨rfl, hv 1 (by omega)⟩, ⟨rfl, hv 2 (by omega)⟩, ⟨rfl, hv 3 (by omega)⟩, ⟨of_eq_true (bk_oB hB), of_eq_true wsum_0⟩, ?_⟩
  rw [pc_B_repay (M := M) ⟨rfl, h.1⟩]
  simp only [Option.toList_some, List.cons_append, List.nil_append]
  rw [g_law_600]
  refine ⟨⟨rfl, hv 1 (by omega)⟩, ⟨rfl, hv 2 (by omega)⟩, ⟨rfl, hv 3 (by omega)⟩, ⟨of_eq_true (bk_oM cm.1), of_eq_true (wsum_1 _)⟩, ?_⟩
  rw [pc_M_repay ⟨rfl, cm.W h⟩]
  simp only [Option.toList_some, List.cons_append, List.nil_append]
  rw [g_law_619, if_pos st.1, g_law_951]
  exact hK _ st.2
theorem lo_16 (h : RR k M) (hc : k < 900000) (hv : ∀ j, j < 5 → vp_in (nI (5 * k) + nI j) (zn Z)) (hK : ∀ N, RR (k + 1) N → Kx 18 [some (.ref 1), some (.ref 16), some (.ref 174), some (.int (nI (5 * k) + nI 5))] [] N) : run Z 181 C_law S_law Kx Q 988 t_law_624 [some (.ref 1), some (.ref 16), some (.ref 174), some (.int (nI (5 * k)))] [] M := by
  have hB := h.1.1
  have cm := cm_pass h (zx Z (Int32.toNatClampNeg (nI (5 * k) + nI 1)))
  have st := st_pass h (zx Z (Int32.toNatClampNeg (nI (5 * k) + nI 1)))
  rw [g_law_624]
  refine ⟨⟨rfl, hv 1 (by omega)⟩, ⟨of_eq_true (bk_oB hB), of_eq_true wsum_0⟩, ?_⟩
  rw [pc_B_pass (M := M) ⟨rfl, h.1⟩]
  simp only [Option.toList_some, List.cons_append, List.nil_append]
  rw [g_law_633]
  refine ⟨⟨rfl, hv 1 (by omega)⟩, ⟨of_eq_true (bk_oM cm.1), of_eq_true (wsum_1 _)⟩, ?_⟩
  rw [pc_M_pass ⟨rfl, cm.W h, cm.tk h⟩]
  simp only [Option.toList_some, List.cons_append, List.nil_append]
  rw [g_law_642, if_pos st.1, g_law_951]
  exact hK _ st.2
theorem lo_17 (h : RR k M) (hc : k < 900000) (hv : ∀ j, j < 5 → vp_in (nI (5 * k) + nI j) (zn Z)) (hK : ∀ N, RR (k + 1) N → Kx 18 [some (.ref 1), some (.ref 16), some (.ref 174), some (.int (nI (5 * k) + nI 5))] [] N) : run Z 181 C_law S_law Kx Q 988 t_law_647 [some (.ref 1), some (.ref 16), some (.ref 174), some (.int (nI (5 * k)))] [] M := by
  have hB := h.1.1
  have cm := cm_undo h
  have st := st_undo h
  rw [g_law_647]
  refine ⟨⟨of_eq_true (bk_oB hB), of_eq_true wsum_0⟩, ?_⟩
  rw [pc_B_undo (M := M) ⟨rfl, h.1⟩]
  simp only [Option.toList_some, List.cons_append, List.nil_append]
  rw [g_law_651]
  refine ⟨⟨of_eq_true (bk_oM cm.1), of_eq_true (wsum_1 _)⟩, ?_⟩
  rw [pc_M_undo ⟨rfl, cm.1, cm.U h⟩]
  simp only [Option.toList_some, List.cons_append, List.nil_append]
  rw [g_law_655, if_pos st.1, g_law_951]
  exact hK _ st.2
theorem lo_18 (h : RR k M) (hc : k < 900000) (hv : ∀ j, j < 5 → vp_in (nI (5 * k) + nI j) (zn Z)) (hK : ∀ N, RR (k + 1) N → Kx 18 [some (.ref 1), some (.ref 16), some (.ref 174), some (.int (nI (5 * k) + nI 5))] [] N) : run Z 181 C_law S_law Kx Q 988 t_law_660 [some (.ref 1), some (.ref 16), some (.ref 174), some (.int (nI (5 * k)))] [] M := by
  have hB := h.1.1
  have cm := CM_id h
  have st := rq_resource h.2.1.1 h.2.1.2.1 (zx Z (Int32.toNatClampNeg (nI (5 * k) + nI 1))) (zx Z (Int32.toNatClampNeg (nI (5 * k) + nI 2)))
  rw [g_law_660]
  refine ⟨⟨rfl, hv 1 (by omega)⟩, ⟨rfl, hv 2 (by omega)⟩, ⟨of_eq_true (bk_oB hB), of_eq_true wsum_0⟩, ?_⟩
  rw [pc_B_resource (M := M) ⟨rfl, h.1⟩]
  simp only [Option.toList_some, List.cons_append, List.nil_append]
  rw [g_law_674]
  refine ⟨⟨rfl, hv 1 (by omega)⟩, ⟨rfl, hv 2 (by omega)⟩, ⟨of_eq_true (bk_oM cm.1), of_eq_true (wsum_1 _)⟩, ?_⟩
  rw [pc_M_resource ⟨rfl, cm.O h⟩]
  simp only [Option.toList_some, List.cons_append, List.nil_append]
  rw [g_law_688, if_pos st, g_law_951]
  exact hK _ (RR_up h)
theorem lo_19 (h : RR k M) (hc : k < 900000) (hv : ∀ j, j < 5 → vp_in (nI (5 * k) + nI j) (zn Z)) (hK : ∀ N, RR (k + 1) N → Kx 18 [some (.ref 1), some (.ref 16), some (.ref 174), some (.int (nI (5 * k) + nI 5))] [] N) : run Z 181 C_law S_law Kx Q 988 t_law_693 [some (.ref 1), some (.ref 16), some (.ref 174), some (.int (nI (5 * k)))] [] M := by
  have hB := h.1.1
  have cm := CM_id h
  have st := rq_tenant h.2.1.1 h.2.1.2.1 (zx Z (Int32.toNatClampNeg (nI (5 * k) + nI 1))) (zx Z (Int32.toNatClampNeg (nI (5 * k) + nI 2)))
  rw [g_law_693]
  refine ⟨⟨rfl, hv 1 (by omega)⟩, ⟨rfl, hv 2 (by omega)⟩, ⟨of_eq_true (bk_oB hB), of_eq_true wsum_0⟩, ?_⟩
  rw [pc_B_tenant (M := M) ⟨rfl, h.1⟩]
  simp only [Option.toList_some, List.cons_append, List.nil_append]
  rw [g_law_707]
  refine ⟨⟨rfl, hv 1 (by omega)⟩, ⟨rfl, hv 2 (by omega)⟩, ⟨of_eq_true (bk_oM cm.1), of_eq_true (wsum_1 _)⟩, ?_⟩
  rw [pc_M_tenant ⟨rfl, cm.O h, cm.ds h⟩]
  simp only [Option.toList_some, List.cons_append, List.nil_append]
  rw [g_law_721, if_pos st, g_law_951]
  exact hK _ (RR_up h)
theorem lo_20 (h : RR k M) (hc : k < 900000) (hv : ∀ j, j < 5 → vp_in (nI (5 * k) + nI j) (zn Z)) (hK : ∀ N, RR (k + 1) N → Kx 18 [some (.ref 1), some (.ref 16), some (.ref 174), some (.int (nI (5 * k) + nI 5))] [] N) : run Z 181 C_law S_law Kx Q 988 t_law_726 [some (.ref 1), some (.ref 16), some (.ref 174), some (.int (nI (5 * k)))] [] M := by
  have hB := h.1.1
  have cm := CM_id h
  have st := rq_account h.2.1.1 h.2.1.2.1 (zx Z (Int32.toNatClampNeg (nI (5 * k) + nI 1))) (zx Z (Int32.toNatClampNeg (nI (5 * k) + nI 2))) (zx Z (Int32.toNatClampNeg (nI (5 * k) + nI 3)))
  rw [g_law_726]
  refine ⟨⟨rfl, hv 1 (by omega)⟩, ⟨rfl, hv 2 (by omega)⟩, ⟨rfl, hv 3 (by omega)⟩, ⟨of_eq_true (bk_oB hB), of_eq_true wsum_0⟩, ?_⟩
  rw [pc_B_account (M := M) ⟨rfl, h.1⟩]
  simp only [Option.toList_some, List.cons_append, List.nil_append]
  rw [g_law_745]
  refine ⟨⟨rfl, hv 1 (by omega)⟩, ⟨rfl, hv 2 (by omega)⟩, ⟨rfl, hv 3 (by omega)⟩, ⟨of_eq_true (bk_oM cm.1), of_eq_true (wsum_1 _)⟩, ?_⟩
  rw [pc_M_account ⟨rfl, cm.O h⟩]
  simp only [Option.toList_some, List.cons_append, List.nil_append]
  rw [g_law_764, if_pos st, g_law_951]
  exact hK _ (RR_up h)
theorem lo_21 (h : RR k M) (hc : k < 900000) (hv : ∀ j, j < 5 → vp_in (nI (5 * k) + nI j) (zn Z)) (hK : ∀ N, RR (k + 1) N → Kx 18 [some (.ref 1), some (.ref 16), some (.ref 174), some (.int (nI (5 * k) + nI 5))] [] N) : run Z 181 C_law S_law Kx Q 988 t_law_769 [some (.ref 1), some (.ref 16), some (.ref 174), some (.int (nI (5 * k)))] [] M := by
  have hB := h.1.1
  have cm := CM_id h
  have st := rq_granted h.2.1.1 h.2.1.2.1 (zx Z (Int32.toNatClampNeg (nI (5 * k) + nI 1))) (zx Z (Int32.toNatClampNeg (nI (5 * k) + nI 2)))
  rw [g_law_769]
  refine ⟨⟨rfl, hv 1 (by omega)⟩, ⟨rfl, hv 2 (by omega)⟩, ⟨of_eq_true (bk_oB hB), of_eq_true wsum_0⟩, ?_⟩
  rw [pc_B_granted (M := M) ⟨rfl, h.1⟩]
  simp only [Option.toList_some, List.cons_append, List.nil_append]
  rw [g_law_783]
  refine ⟨⟨rfl, hv 1 (by omega)⟩, ⟨rfl, hv 2 (by omega)⟩, ⟨of_eq_true (bk_oM cm.1), of_eq_true (wsum_1 _)⟩, ?_⟩
  rw [pc_M_granted ⟨rfl, cm.O h⟩]
  simp only [Option.toList_some, List.cons_append, List.nil_append]
  rw [g_law_797, if_pos st, g_law_951]
  exact hK _ (RR_up h)
theorem lo_22 (h : RR k M) (hc : k < 900000) (hv : ∀ j, j < 5 → vp_in (nI (5 * k) + nI j) (zn Z)) (hK : ∀ N, RR (k + 1) N → Kx 18 [some (.ref 1), some (.ref 16), some (.ref 174), some (.int (nI (5 * k) + nI 5))] [] N) : run Z 181 C_law S_law Kx Q 988 t_law_802 [some (.ref 1), some (.ref 16), some (.ref 174), some (.int (nI (5 * k)))] [] M := by
  have hB := h.1.1
  have cm := CM_id h
  have st := rq_demanded h.2.1.1 h.2.1.2.1 (zx Z (Int32.toNatClampNeg (nI (5 * k) + nI 1))) (zx Z (Int32.toNatClampNeg (nI (5 * k) + nI 2)))
  rw [g_law_802]
  refine ⟨⟨rfl, hv 1 (by omega)⟩, ⟨rfl, hv 2 (by omega)⟩, ⟨of_eq_true (bk_oB hB), of_eq_true wsum_0⟩, ?_⟩
  rw [pc_B_demanded (M := M) ⟨rfl, h.1⟩]
  simp only [Option.toList_some, List.cons_append, List.nil_append]
  rw [g_law_816]
  refine ⟨⟨rfl, hv 1 (by omega)⟩, ⟨rfl, hv 2 (by omega)⟩, ⟨of_eq_true (bk_oM cm.1), of_eq_true (wsum_1 _)⟩, ?_⟩
  rw [pc_M_demanded ⟨rfl, cm.O h⟩]
  simp only [Option.toList_some, List.cons_append, List.nil_append]
  rw [g_law_830, if_pos st, g_law_951]
  exact hK _ (RR_up h)
theorem lo_23 (h : RR k M) (hc : k < 900000) (hv : ∀ j, j < 5 → vp_in (nI (5 * k) + nI j) (zn Z)) (hK : ∀ N, RR (k + 1) N → Kx 18 [some (.ref 1), some (.ref 16), some (.ref 174), some (.int (nI (5 * k) + nI 5))] [] N) : run Z 181 C_law S_law Kx Q 988 t_law_835 [some (.ref 1), some (.ref 16), some (.ref 174), some (.int (nI (5 * k)))] [] M := by
  have hB := h.1.1
  have cm := cm_plan h (zx Z (Int32.toNatClampNeg (nI (5 * k) + nI 1)))
  have st := st_plan h hc (zx Z (Int32.toNatClampNeg (nI (5 * k) + nI 1)))
  rw [g_law_835]
  refine ⟨⟨rfl, hv 1 (by omega)⟩, ⟨of_eq_true (bk_oB hB), of_eq_true wsum_0⟩, ?_⟩
  rw [pc_B_plan (M := M) ⟨rfl, h.1⟩]
  simp only [Option.toList_some, List.cons_append, List.nil_append]
  rw [g_law_844]
  refine ⟨⟨rfl, hv 1 (by omega)⟩, ⟨of_eq_true (bk_oM cm.1), of_eq_true (wsum_1 _)⟩, ?_⟩
  rw [pc_M_plan ⟨rfl, cm.O h, cm.ds h⟩]
  simp only [Option.toList_some, List.cons_append, List.nil_append]
  rw [g_law_853, if_pos st.1, g_law_951]
  exact hK _ st.2
theorem lo_24 (h : RR k M) (hc : k < 900000) (hv : ∀ j, j < 5 → vp_in (nI (5 * k) + nI j) (zn Z)) (hK : ∀ N, RR (k + 1) N → Kx 18 [some (.ref 1), some (.ref 16), some (.ref 174), some (.int (nI (5 * k) + nI 5))] [] N) : run Z 181 C_law S_law Kx Q 988 t_law_858 [some (.ref 1), some (.ref 16), some (.ref 174), some (.int (nI (5 * k)))] [] M := by
  have hB := h.1.1
  have cm := CM_id h
  have st := rq_worth h.2.1.1 h.2.1.2.1 (zx Z (Int32.toNatClampNeg (nI (5 * k) + nI 1))) (zx Z (Int32.toNatClampNeg (nI (5 * k) + nI 2)))
  rw [g_law_858]
  refine ⟨⟨rfl, hv 1 (by omega)⟩, ⟨rfl, hv 2 (by omega)⟩, ⟨of_eq_true (bk_oB hB), of_eq_true wsum_0⟩, ?_⟩
  rw [pc_B_worth (M := M) ⟨rfl, h.1⟩]
  simp only [Option.toList_some, List.cons_append, List.nil_append]
  rw [g_law_872]
  refine ⟨⟨rfl, hv 1 (by omega)⟩, ⟨rfl, hv 2 (by omega)⟩, ⟨of_eq_true (bk_oM cm.1), of_eq_true (wsum_1 _)⟩, ?_⟩
  rw [pc_M_worth ⟨rfl, cm.O h, cm.pr h⟩]
  simp only [Option.toList_some, List.cons_append, List.nil_append]
  rw [g_law_886, if_pos st, g_law_951]
  exact hK _ (RR_up h)
theorem lo_25 (h : RR k M) (hc : k < 900000) (hv : ∀ j, j < 5 → vp_in (nI (5 * k) + nI j) (zn Z)) (hK : ∀ N, RR (k + 1) N → Kx 18 [some (.ref 1), some (.ref 16), some (.ref 174), some (.int (nI (5 * k) + nI 5))] [] N) : run Z 181 C_law S_law Kx Q 988 t_law_891 [some (.ref 1), some (.ref 16), some (.ref 174), some (.int (nI (5 * k)))] [] M := by
  have hB := h.1.1
  have cm := cm_ruin h (zx Z (Int32.toNatClampNeg (nI (5 * k) + nI 1)))
  have st := st_ruin h (zx Z (Int32.toNatClampNeg (nI (5 * k) + nI 1)))
  rw [g_law_891]
  refine ⟨⟨rfl, hv 1 (by omega)⟩, ⟨of_eq_true (bk_oB hB), of_eq_true wsum_0⟩, ?_⟩
  rw [pc_B_ruin (M := M) ⟨rfl, h.1⟩]
  simp only [Option.toList_some, List.cons_append, List.nil_append]
  rw [g_law_900]
  refine ⟨⟨rfl, hv 1 (by omega)⟩, ⟨of_eq_true (bk_oM cm.1), of_eq_true (wsum_1 _)⟩, ?_⟩
  rw [pc_M_ruin ⟨rfl, cm.1, cm.tk h⟩]
  simp only [Option.toList_some, List.cons_append, List.nil_append]
  rw [g_law_909, if_pos st.1, g_law_951]
  exact hK _ st.2
theorem lo_26 (h : RR k M) (hc : k < 900000) (hv : ∀ j, j < 5 → vp_in (nI (5 * k) + nI j) (zn Z)) (hK : ∀ N, RR (k + 1) N → Kx 18 [some (.ref 1), some (.ref 16), some (.ref 174), some (.int (nI (5 * k) + nI 5))] [] N) : run Z 181 C_law S_law Kx Q 988 t_law_914 [some (.ref 1), some (.ref 16), some (.ref 174), some (.int (nI (5 * k)))] [] M := by
  have hB := h.1.1
  have cm := CM_id h
  have st := rq_count h (zx Z (Int32.toNatClampNeg (nI (5 * k) + nI 1)))
  rw [g_law_914]
  refine ⟨⟨rfl, hv 1 (by omega)⟩, ⟨of_eq_true (bk_oB hB), of_eq_true wsum_0⟩, ?_⟩
  rw [pc_B_count (M := M) ⟨rfl, h.1⟩]
  simp only [Option.toList_some, List.cons_append, List.nil_append]
  rw [g_law_923]
  refine ⟨⟨rfl, hv 1 (by omega)⟩, ⟨of_eq_true (bk_oM cm.1), of_eq_true (wsum_1 _)⟩, ?_⟩
  rw [pc_M_count ⟨rfl, cm.1⟩]
  simp only [Option.toList_some, List.cons_append, List.nil_append]
  rw [g_law_932, if_pos st, g_law_951]
  exact hK _ (RR_up h)
theorem lo_27 (h : RR k M) (hc : k < 900000) (hv : ∀ j, j < 5 → vp_in (nI (5 * k) + nI j) (zn Z)) (hK : ∀ N, RR (k + 1) N → Kx 18 [some (.ref 1), some (.ref 16), some (.ref 174), some (.int (nI (5 * k) + nI 5))] [] N) : run Z 181 C_law S_law Kx Q 988 t_law_937 [some (.ref 1), some (.ref 16), some (.ref 174), some (.int (nI (5 * k)))] [] M := by
  have hB := h.1.1
  have cm := cm_digest h
  have st := st_digest h hc
  rw [g_law_937]
  refine ⟨⟨of_eq_true (bk_oB hB), of_eq_true wsum_0⟩, ?_⟩
  rw [pc_B_digest (M := M) ⟨rfl, h.1⟩]
  simp only [Option.toList_some, List.cons_append, List.nil_append]
  rw [g_law_941]
  refine ⟨⟨of_eq_true (bk_oM cm.1), of_eq_true (wsum_1 _)⟩, ?_⟩
  rw [pc_M_digest ⟨rfl, cm.1, cm.dg h, cm.T h⟩]
  simp only [Option.toList_some, List.cons_append, List.nil_append]
  rw [g_law_945, if_pos (by rw [st.1]; exact lc_0 _), g_law_951]
  exact hK _ st.2
end Lo
