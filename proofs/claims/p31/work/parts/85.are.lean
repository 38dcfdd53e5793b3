/-! ===== grants and demands, one by one ===== -/
section Gd
variable {M : Mem}
theorem PI_.G0 (h : PI_ M) {k : Nat} (hk : k < wn (mI M 175)) : 0 ≤ (mI M 175 (40 + k)).toInt := by
  have h40 := h.G40.2
  have := (h.2.2.1.2.2.2.2.1 k hk).1
  unfold UM at this
  rw [Uw_n (by omega)] at this
  exact this
theorem PI_.ginj (h : PI_ M) {j k : Nat} (hj : j < wn (mI M 175)) (hk : k < wn (mI M 175)) (e : mI M 175 (40 + j) = mI M 175 (40 + k)) : j = k := by
  have hx := h.2.2.2.1.2.2.2.2.2.1
  rcases Nat.lt_trichotomy j k with z | z | z
  · have := hx j k z hk
    rw [e] at this
    omega
  · exact z
  · have := hx k j z hj
    rw [e] at this
    omega
theorem g_po (h : PI_ M) {k : Nat} (hk : k < wn (mI M 175)) : poU (UM M) (mI M 175 (40 + k)) = nI k := by
  have h40 := h.G40.2
  rcases rl_po h.2.1 h.2.2.1 (mI M 175 (40 + k)) with ⟨-, -, q⟩ | ⟨j, hj, e, -, e2⟩
  · exact absurd (Uw_n (by omega)) (q k hk)
  · have hj' : j < wn (mI M 175) := hj
    unfold UM at e
    rw [Uw_n (by omega)] at e
    rw [e2, h.ginj hj' hk e]
theorem g_poN (h : PI_ M) : poU (UM M) (mI M 174 48) = -1000003 := by
  have h40 := h.G40.2
  rcases rl_po h.2.1 h.2.2.1 (mI M 174 48) with ⟨-, e, -⟩ | ⟨j, hj, e, -, -⟩
  · exact e
  · have hj' : j < wn (mI M 175) := hj
    unfold UM at e
    rw [Uw_n (by omega)] at e
    have := h.2.2.2.1.2.2.2.2.2.2 j hj'
    rw [e] at this
    omega
theorem w_04 {r : Nat} (hr : r < 5) : nI 0 ≤ nI r ∧ nI r ≤ nI 4 := ⟨nI_ge0 (by omega), (nI_leI (by omega) (by omega)).mpr (by omega)⟩
theorem g_ge {v : Int32} (h : 0 ≤ v.toInt) : ¬ v < nI 0 := by
  rw [fa_lt', nn_0, ti_0]
  omega
theorem tg_u (h : PI_ M) {k r : Nat} (hk : k < wn (mI M 175)) (hr : r < 4) : gdR (mI M) (mI M 175 (40 + k)) (nI r) = unV (mI M 175 k) r := by
  have h40 := h.G40.2
  rw [rq_granted h.2.1 h.2.2.1]
  unfold ugdR
  rw [if_pos ⟨g_ge (h.G0 hk), w_04 (by omega)⟩, g_po h hk, if_neg (nI_neN (by omega)), nI_clamp (by omega), nI_clamp (by omega)]
  exact Uw_g (by omega) hr
theorem tg_o (h : PI_ M) {k : Nat} (hk : k < wn (mI M 175)) : gdR (mI M) (mI M 175 (40 + k)) (nI 4) = mI M 175 k >>> (nI 28 &&& 31) := by
  have h40 := h.G40.2
  rw [rq_granted h.2.1 h.2.2.1]
  unfold ugdR
  rw [if_pos ⟨g_ge (h.G0 hk), w_04 (by omega)⟩, g_po h hk, if_neg (nI_neN (by omega)), nI_clamp (by omega), nI_clamp (by omega)]
  exact Uw_o (by omega)
theorem tg_nx (h : PI_ M) : gdR (mI M) (mI M 174 48) (nI 0) = -1000003 := by
  have hp : 0 ≤ (mI M 174 48).toInt := by
    have := h.2.2.2.1.2.2.2.2.1
    omega
  rw [rq_granted h.2.1 h.2.2.1]
  unfold ugdR
  rw [if_pos ⟨g_ge hp, w_04 (by omega)⟩, g_poN h, if_pos rfl]
theorem tg_m : gdR (mI M) (-1) (nI 0) = -1000000 := if_neg (fun q => q.1 m1_lt)
theorem td_u (h : PI_ M) {k r : Nat} (hk : k < wn (mI M 176)) (hr : r < 4) : ddR (mI M) (nI k) (nI r) = unV (mI M 176 k) r := by
  have h24 := h.D24.2
  rw [rq_demanded h.2.1 h.2.2.1]
  unfold uddR
  rw [if_pos ⟨nI_nn (by omega), w_04 (by omega)⟩, show uD (UM M) = wn (mI M 176) from rfl, if_pos ((nI_ltI (by omega) (by omega)).mpr hk), nI_clamp (by omega), nI_clamp (by omega)]
  exact Uw_d (by omega) hr
theorem td_o (h : PI_ M) {k : Nat} (hk : k < wn (mI M 176)) : ddR (mI M) (nI k) (nI 4) = mI M 176 k >>> (nI 28 &&& 31) := by
  have h24 := h.D24.2
  rw [rq_demanded h.2.1 h.2.2.1]
  unfold uddR
  rw [if_pos ⟨nI_nn (by omega), w_04 (by omega)⟩, show uD (UM M) = wn (mI M 176) from rfl, if_pos ((nI_ltI (by omega) (by omega)).mpr hk), nI_clamp (by omega), nI_clamp (by omega)]
  exact Uw_w (by omega)
theorem td_e (h : PI_ M) : ddR (mI M) (nI (wn (mI M 176))) (nI 0) = -1000003 := by
  have h24 := h.D24.2
  rw [rq_demanded h.2.1 h.2.2.1]
  unfold uddR
  rw [if_pos ⟨nI_nn (by omega), w_04 (by omega)⟩, if_neg]
  rw [show uD (UM M) = wn (mI M 176) from rfl, nI_ltI (by omega) (by omega)]
  omega
theorem td_5 : ddR (mI M) (nI 0) (nI 5) = -1000000 := if_neg (fun q => absurd q.2.2 (by decide))
end Gd
def e_W_areGrants : Ent := (fun av M => av = [.ref 16, .ref 175, .ref 176] ∧ PI_ M, fun _ M r_ M_ => r_ = some (.int (nI 1)) ∧ M_ = M)
def C_W_areGrants : List (Nat × Ent) := [(i_B_granted, e_B_granted), (i_W_units, e_W_units), (i_B_demanded, e_B_demanded), (i_B_count, e_B_count)]
abbrev S_W_areGrants : List Nat := [2, 13, 80, 91]
def t_W_areGrants_202 : List PI := (202, 9, 1, 0, 0, 0, []) :: []
def t_W_areGrants_201 : List PI := (201, 0, 0, 0, 0, 0, []) :: t_W_areGrants_202
def t_W_areGrants_197 : List PI := (197, 0, 0, 0, 0, 1, []) :: (198, 6, 0, 202, 0, 0, []) :: t_W_areGrants_201
def t_W_areGrants_192 : List PI := (192, 0, 0, 53, 3, -1000000, []) :: (194, 4, 1, 201, 0, 0, []) :: t_W_areGrants_197
def t_W_areGrants_186 : List PI := (186, 1, 1, 0, 0, 0, []) :: (187, 0, 0, 0, 0, 0, []) :: (188, 0, 0, 0, 0, 5, []) :: (189, 11, 0, 4, 69, 0, [100, 3]) :: t_W_areGrants_192
def t_W_areGrants_181 : List PI := (181, 0, 0, 53, 3, -1000000, []) :: (183, 4, 1, 201, 0, 0, []) :: t_W_areGrants_186
def t_W_areGrants_175 : List PI := (175, 1, 1, 0, 0, 0, []) :: (176, 0, 0, 0, 0, -1, []) :: (177, 0, 0, 0, 0, 0, []) :: (178, 11, 0, 4, 68, 0, [97, 3]) :: t_W_areGrants_181
def t_W_areGrants_170 : List PI := (170, 0, 0, 49, 3, -1000003, []) :: (172, 4, 1, 201, 0, 0, []) :: t_W_areGrants_175
def t_W_areGrants_166 : List PI := (166, 0, 0, 0, 0, 0, []) :: (167, 11, 0, 4, 68, 0, [97, 3]) :: t_W_areGrants_170
def t_W_areGrants_160 : List PI := (160, 1, 1, 0, 0, 0, []) :: (161, 1, 1, 0, 0, 0, []) :: (162, 0, 0, 0, 0, 5, []) :: (163, 11, 0, 4, 72, 0, [43, 2]) :: t_W_areGrants_166
def t_W_areGrants_155 : List PI := (155, 0, 0, 49, 3, -1000003, []) :: (157, 4, 1, 201, 0, 0, []) :: t_W_areGrants_160
def t_W_areGrants_146 : List PI := (146, 1, 1, 0, 0, 0, []) :: (147, 1, 1, 2, 0, 0, []) :: (148, 0, 0, 0, 1, 63, []) :: (150, 8, 4, 0, 0, 0, []) :: (151, 0, 0, 0, 0, 0, []) :: (152, 11, 0, 4, 69, 0, [100, 3]) :: t_W_areGrants_155
def t_W_areGrants_140 : List PI := (140, 1, 6, 3, 0, 1, []) :: (143, 6, 0, 80, 0, 0, []) :: t_W_areGrants_146
def t_W_areGrants_138 : List PI := (138, 0, 0, 0, 0, 0, []) :: (139, 9, 1, 0, 0, 0, []) :: t_W_areGrants_140
def t_W_areGrants_129 : List PI := (129, 1, 1, 2, 0, 0, []) :: (130, 1, 0, 3, 0, 0, []) :: (131, 8, 4, 0, 0, 0, []) :: (132, 0, 0, 0, 1, 28, []) :: (134, 2, 9, 0, 0, 0, []) :: (135, 4, 0, 140, 0, 0, []) :: t_W_areGrants_138
def t_W_areGrants_123 : List PI := (123, 1, 1, 0, 0, 0, []) :: (124, 1, 0, 3, 0, 0, []) :: (125, 0, 0, 0, 0, 4, []) :: (126, 11, 0, 4, 69, 0, [100, 3]) :: t_W_areGrants_129
def t_W_areGrants_117 : List PI := (117, 1, 6, 4, 0, 1, []) :: (120, 6, 0, 91, 0, 0, []) :: t_W_areGrants_123
def t_W_areGrants_115 : List PI := (115, 0, 0, 0, 0, 0, []) :: (116, 9, 1, 0, 0, 0, []) :: t_W_areGrants_117
def t_W_areGrants_112 : List PI := (112, 4, 0, 117, 0, 0, []) :: t_W_areGrants_115
def t_W_areGrants_104 : List PI := (104, 1, 1, 2, 0, 0, []) :: (105, 1, 0, 3, 0, 0, []) :: (106, 8, 4, 0, 0, 0, []) :: (107, 1, 0, 4, 0, 0, []) :: (109, 11, 1, 0, 75, 0, [9, 2]) :: t_W_areGrants_112
def t_W_areGrants_97 : List PI := (97, 1, 1, 0, 0, 0, []) :: (98, 1, 0, 3, 0, 0, []) :: (99, 1, 0, 4, 0, 0, []) :: (101, 11, 0, 4, 69, 0, [100, 3]) :: t_W_areGrants_104
def t_W_areGrants_91 : List PI := (91, 1, 0, 4, 0, 0, []) :: (93, 0, 0, 0, 0, 4, []) :: (94, 4, 3, 123, 0, 0, []) :: t_W_areGrants_97
def t_W_areGrants_88 : List PI := (88, 0, 0, 0, 0, 0, []) :: (89, 1, 3, 4, 0, 0, []) :: t_W_areGrants_91
def t_W_areGrants_80 : List PI := (80, 1, 0, 3, 0, 0, []) :: (81, 1, 1, 2, 0, 0, []) :: (82, 0, 0, 0, 1, 63, []) :: (84, 8, 4, 0, 0, 0, []) :: (85, 4, 3, 146, 0, 0, []) :: t_W_areGrants_88
def t_W_areGrants_78 : List PI := (78, 0, 0, 0, 0, 0, []) :: (79, 1, 3, 3, 0, 0, []) :: t_W_areGrants_80
def t_W_areGrants_72 : List PI := (72, 1, 6, 3, 0, 1, []) :: (75, 6, 0, 2, 0, 0, []) :: t_W_areGrants_78
def t_W_areGrants_70 : List PI := (70, 0, 0, 0, 0, 0, []) :: (71, 9, 1, 0, 0, 0, []) :: t_W_areGrants_72
def t_W_areGrants_61 : List PI := (61, 1, 1, 1, 0, 0, []) :: (62, 1, 0, 3, 0, 0, []) :: (63, 8, 4, 0, 0, 0, []) :: (64, 0, 0, 0, 1, 28, []) :: (66, 2, 9, 0, 0, 0, []) :: (67, 4, 0, 72, 0, 0, []) :: t_W_areGrants_70
def t_W_areGrants_50 : List PI := (50, 1, 1, 0, 0, 0, []) :: (51, 1, 1, 1, 0, 0, []) :: (52, 0, 0, 0, 1, 40, []) :: (54, 1, 0, 3, 0, 0, []) :: (55, 2, 0, 0, 0, 0, []) :: (56, 8, 4, 0, 0, 0, []) :: (57, 0, 0, 0, 0, 4, []) :: (58, 11, 0, 4, 68, 0, [97, 3]) :: t_W_areGrants_61
def t_W_areGrants_44 : List PI := (44, 1, 6, 4, 0, 1, []) :: (47, 6, 0, 13, 0, 0, []) :: t_W_areGrants_50
def t_W_areGrants_42 : List PI := (42, 0, 0, 0, 0, 0, []) :: (43, 9, 1, 0, 0, 0, []) :: t_W_areGrants_44
def t_W_areGrants_39 : List PI := (39, 4, 0, 44, 0, 0, []) :: t_W_areGrants_42
def t_W_areGrants_31 : List PI := (31, 1, 1, 1, 0, 0, []) :: (32, 1, 0, 3, 0, 0, []) :: (33, 8, 4, 0, 0, 0, []) :: (34, 1, 0, 4, 0, 0, []) :: (36, 11, 1, 0, 75, 0, [9, 2]) :: t_W_areGrants_39
def t_W_areGrants_19 : List PI := (19, 1, 1, 0, 0, 0, []) :: (20, 1, 1, 1, 0, 0, []) :: (21, 0, 0, 0, 1, 40, []) :: (23, 1, 0, 3, 0, 0, []) :: (24, 2, 0, 0, 0, 0, []) :: (25, 8, 4, 0, 0, 0, []) :: (26, 1, 0, 4, 0, 0, []) :: (28, 11, 0, 4, 68, 0, [97, 3]) :: t_W_areGrants_31
def t_W_areGrants_13 : List PI := (13, 1, 0, 4, 0, 0, []) :: (15, 0, 0, 0, 0, 4, []) :: (16, 4, 3, 50, 0, 0, []) :: t_W_areGrants_19
def t_W_areGrants_10 : List PI := (10, 0, 0, 0, 0, 0, []) :: (11, 1, 3, 4, 0, 0, []) :: t_W_areGrants_13
def t_W_areGrants_2 : List PI := (2, 1, 0, 3, 0, 0, []) :: (3, 1, 1, 1, 0, 0, []) :: (4, 0, 0, 0, 1, 63, []) :: (6, 8, 4, 0, 0, 0, []) :: (7, 4, 3, 78, 0, 0, []) :: t_W_areGrants_10
def t_W_areGrants_0 : List PI := (0, 0, 0, 0, 0, 0, []) :: (1, 1, 3, 3, 0, 0, []) :: t_W_areGrants_2
theorem kt_W_areGrants : okP s_W_areGrants t_W_areGrants_0 := k_W_areGrants
theorem g_W_areGrants_0 {Z : Zt} {nF f : Nat} {Kx : Nat → Kt} {Q : Option Value → Mem → Prop} {M : Mem} {x1 : Nat} {x2 : Nat} {x3 : Nat} : run Z nF C_W_areGrants S_W_areGrants Kx Q (f + 2) t_W_areGrants_0 [some (.ref (x1)), some (.ref (x2)), some (.ref (x3)), none, none] [] M = (Kx 2 [some (.ref (x1)), some (.ref (x2)), some (.ref (x3)), some (.int ((nI 0))), none] [] (M)) := id rfl
theorem g_W_areGrants_2 {Z : Zt} {nF f : Nat} {Kx : Nat → Kt} {Q : Option Value → Mem → Prop} {M : Mem} {x1 : Nat} {x2 : Nat} {x3 : Nat} {x4 : Int32} {x5 : Option Value} : run Z nF C_W_areGrants S_W_areGrants Kx Q (f + 5) t_W_areGrants_2 [some (.ref (x1)), some (.ref (x2)), some (.ref (x3)), some (.int (x4)), x5] [] M = (isA (M) (x2) ((nI 63)) ∧ (if (mI (M) (x2) (Int32.toNatClampNeg ((nI 63)))) ≤ (x4) then run Z nF C_W_areGrants S_W_areGrants Kx Q f t_W_areGrants_78 [some (.ref (x1)), some (.ref (x2)), some (.ref (x3)), some (.int (x4)), x5] [] (M) else run Z nF C_W_areGrants S_W_areGrants Kx Q f t_W_areGrants_10 [some (.ref (x1)), some (.ref (x2)), some (.ref (x3)), some (.int (x4)), x5] [] (M))) := id rfl
theorem g_W_areGrants_10 {Z : Zt} {nF f : Nat} {Kx : Nat → Kt} {Q : Option Value → Mem → Prop} {M : Mem} {x1 : Nat} {x2 : Nat} {x3 : Nat} {x4 : Int32} {x5 : Option Value} : run Z nF C_W_areGrants S_W_areGrants Kx Q (f + 2) t_W_areGrants_10 [some (.ref (x1)), some (.ref (x2)), some (.ref (x3)), some (.int (x4)), x5] [] M = (Kx 13 [some (.ref (x1)), some (.ref (x2)), some (.ref (x3)), some (.int (x4)), some (.int ((nI 0)))] [] (M)) := id rfl
theorem g_W_areGrants_13 {Z : Zt} {nF f : Nat} {Kx : Nat → Kt} {Q : Option Value → Mem → Prop} {M : Mem} {x1 : Nat} {x2 : Nat} {x3 : Nat} {x4 : Int32} {x5 : Int32} : run Z nF C_W_areGrants S_W_areGrants Kx Q (f + 3) t_W_areGrants_13 [some (.ref (x1)), some (.ref (x2)), some (.ref (x3)), some (.int (x4)), some (.int (x5))] [] M = ((if ((nI 4)) ≤ (x5) then run Z nF C_W_areGrants S_W_areGrants Kx Q f t_W_areGrants_50 [some (.ref (x1)), some (.ref (x2)), some (.ref (x3)), some (.int (x4)), some (.int (x5))] [] (M) else run Z nF C_W_areGrants S_W_areGrants Kx Q f t_W_areGrants_19 [some (.ref (x1)), some (.ref (x2)), some (.ref (x3)), some (.int (x4)), some (.int (x5))] [] (M))) := id rfl
theorem g_W_areGrants_19 {Z : Zt} {nF f : Nat} {Kx : Nat → Kt} {Q : Option Value → Mem → Prop} {M : Mem} {x1 : Nat} {x2 : Nat} {x3 : Nat} {x4 : Int32} {x5 : Int32} : run Z nF C_W_areGrants S_W_areGrants Kx Q (f + 8) t_W_areGrants_19 [some (.ref (x1)), some (.ref (x2)), some (.ref (x3)), some (.int (x4)), some (.int (x5))] [] M = (isA (M) (x2) (((nI 40)) + (x4)) ∧ ((isO (M) (x1) 4) ∧ wsum [] ≤ 8) ∧ pcall e_B_granted [.ref (x1), .int (mI (M) (x2) (Int32.toNatClampNeg (((nI 40)) + (x4)))), .int (x5)] (M) (fun v M_ => run Z nF C_W_areGrants S_W_areGrants Kx Q f t_W_areGrants_31 [some (.ref (x1)), some (.ref (x2)), some (.ref (x3)), some (.int (x4)), some (.int (x5))] (v.toList ++ []) M_)) := id rfl
theorem g_W_areGrants_31 {Z : Zt} {nF f : Nat} {Kx : Nat → Kt} {Q : Option Value → Mem → Prop} {M : Mem} {x1 : Nat} {x2 : Nat} {x3 : Nat} {x4 : Int32} {x5 : Int32} {x6 : Int32} : run Z nF C_W_areGrants S_W_areGrants Kx Q (f + 5) t_W_areGrants_31 [some (.ref (x1)), some (.ref (x2)), some (.ref (x3)), some (.int (x4)), some (.int (x5))] [.int (x6)] M = (isA (M) (x2) (x4) ∧ ((True) ∧ wsum [.int (x6)] ≤ 8) ∧ pcall e_W_units [.int (mI (M) (x2) (Int32.toNatClampNeg (x4))), .int (x5)] (M) (fun v M_ => run Z nF C_W_areGrants S_W_areGrants Kx Q f t_W_areGrants_39 [some (.ref (x1)), some (.ref (x2)), some (.ref (x3)), some (.int (x4)), some (.int (x5))] (v.toList ++ [.int (x6)]) M_)) := id rfl
theorem g_W_areGrants_39 {Z : Zt} {nF f : Nat} {Kx : Nat → Kt} {Q : Option Value → Mem → Prop} {M : Mem} {x1 : Nat} {x2 : Nat} {x3 : Nat} {x4 : Int32} {x5 : Int32} {x6 : Int32} {x7 : Int32} : run Z nF C_W_areGrants S_W_areGrants Kx Q (f + 1) t_W_areGrants_39 [some (.ref (x1)), some (.ref (x2)), some (.ref (x3)), some (.int (x4)), some (.int (x5))] [.int (x6), .int (x7)] M = ((if (x7) = (x6) then run Z nF C_W_areGrants S_W_areGrants Kx Q f t_W_areGrants_44 [some (.ref (x1)), some (.ref (x2)), some (.ref (x3)), some (.int (x4)), some (.int (x5))] [] (M) else run Z nF C_W_areGrants S_W_areGrants Kx Q f t_W_areGrants_42 [some (.ref (x1)), some (.ref (x2)), some (.ref (x3)), some (.int (x4)), some (.int (x5))] [] (M))) := id rfl
theorem g_W_areGrants_42 {Z : Zt} {nF f : Nat} {Kx : Nat → Kt} {Q : Option Value → Mem → Prop} {M : Mem} {x1 : Nat} {x2 : Nat} {x3 : Nat} {x4 : Int32} {x5 : Int32} : run Z nF C_W_areGrants S_W_areGrants Kx Q (f + 2) t_W_areGrants_42 [some (.ref (x1)), some (.ref (x2)), some (.ref (x3)), some (.int (x4)), some (.int (x5))] [] M = ((((nI 0)) = nI 0 ∨ ((nI 0)) = nI 1) ∧ Q (some (.int ((nI 0)))) (M)) := id rfl
theorem g_W_areGrants_44 {Z : Zt} {nF f : Nat} {Kx : Nat → Kt} {Q : Option Value → Mem → Prop} {M : Mem} {x1 : Nat} {x2 : Nat} {x3 : Nat} {x4 : Int32} {x5 : Int32} : run Z nF C_W_areGrants S_W_areGrants Kx Q (f + 2) t_W_areGrants_44 [some (.ref (x1)), some (.ref (x2)), some (.ref (x3)), some (.int (x4)), some (.int (x5))] [] M = (Kx 13 [some (.ref (x1)), some (.ref (x2)), some (.ref (x3)), some (.int (x4)), some (.int (x5 + (nI 1)))] [] (M)) := id rfl
theorem g_W_areGrants_50 {Z : Zt} {nF f : Nat} {Kx : Nat → Kt} {Q : Option Value → Mem → Prop} {M : Mem} {x1 : Nat} {x2 : Nat} {x3 : Nat} {x4 : Int32} {x5 : Int32} : run Z nF C_W_areGrants S_W_areGrants Kx Q (f + 8) t_W_areGrants_50 [some (.ref (x1)), some (.ref (x2)), some (.ref (x3)), some (.int (x4)), some (.int (x5))] [] M = (isA (M) (x2) (((nI 40)) + (x4)) ∧ ((isO (M) (x1) 4) ∧ wsum [] ≤ 8) ∧ pcall e_B_granted [.ref (x1), .int (mI (M) (x2) (Int32.toNatClampNeg (((nI 40)) + (x4)))), .int ((nI 4))] (M) (fun v M_ => run Z nF C_W_areGrants S_W_areGrants Kx Q f t_W_areGrants_61 [some (.ref (x1)), some (.ref (x2)), some (.ref (x3)), some (.int (x4)), some (.int (x5))] (v.toList ++ []) M_)) := id rfl
theorem g_W_areGrants_61 {Z : Zt} {nF f : Nat} {Kx : Nat → Kt} {Q : Option Value → Mem → Prop} {M : Mem} {x1 : Nat} {x2 : Nat} {x3 : Nat} {x4 : Int32} {x5 : Int32} {x6 : Int32} : run Z nF C_W_areGrants S_W_areGrants Kx Q (f + 6) t_W_areGrants_61 [some (.ref (x1)), some (.ref (x2)), some (.ref (x3)), some (.int (x4)), some (.int (x5))] [.int (x6)] M = (isA (M) (x2) (x4) ∧ (if (x6) = ((mI (M) (x2) (Int32.toNatClampNeg (x4))) >>> (((nI 28)) &&& 31)) then run Z nF C_W_areGrants S_W_areGrants Kx Q f t_W_areGrants_72 [some (.ref (x1)), some (.ref (x2)), some (.ref (x3)), some (.int (x4)), some (.int (x5))] [] (M) else run Z nF C_W_areGrants S_W_areGrants Kx Q f t_W_areGrants_70 [some (.ref (x1)), some (.ref (x2)), some (.ref (x3)), some (.int (x4)), some (.int (x5))] [] (M))) := id rfl
theorem g_W_areGrants_70 {Z : Zt} {nF f : Nat} {Kx : Nat → Kt} {Q : Option Value → Mem → Prop} {M : Mem} {x1 : Nat} {x2 : Nat} {x3 : Nat} {x4 : Int32} {x5 : Int32} : run Z nF C_W_areGrants S_W_areGrants Kx Q (f + 2) t_W_areGrants_70 [some (.ref (x1)), some (.ref (x2)), some (.ref (x3)), some (.int (x4)), some (.int (x5))] [] M = ((((nI 0)) = nI 0 ∨ ((nI 0)) = nI 1) ∧ Q (some (.int ((nI 0)))) (M)) := id rfl
theorem g_W_areGrants_72 {Z : Zt} {nF f : Nat} {Kx : Nat → Kt} {Q : Option Value → Mem → Prop} {M : Mem} {x1 : Nat} {x2 : Nat} {x3 : Nat} {x4 : Int32} {x5 : Int32} : run Z nF C_W_areGrants S_W_areGrants Kx Q (f + 2) t_W_areGrants_72 [some (.ref (x1)), some (.ref (x2)), some (.ref (x3)), some (.int (x4)), some (.int (x5))] [] M = (Kx 2 [some (.ref (x1)), some (.ref (x2)), some (.ref (x3)), some (.int (x4 + (nI 1))), some (.int (x5))] [] (M)) := id rfl
theorem g_W_areGrants_78 {Z : Zt} {nF f : Nat} {Kx : Nat → Kt} {Q : Option Value → Mem → Prop} {M : Mem} {x1 : Nat} {x2 : Nat} {x3 : Nat} {x4 : Int32} {x5 : Option Value} : run Z nF C_W_areGrants S_W_areGrants Kx Q (f + 2) t_W_areGrants_78 [some (.ref (x1)), some (.ref (x2)), some (.ref (x3)), some (.int (x4)), x5] [] M = (Kx 80 [some (.ref (x1)), some (.ref (x2)), some (.ref (x3)), some (.int ((nI 0))), x5] [] (M)) := id rfl
theorem g_W_areGrants_80 {Z : Zt} {nF f : Nat} {Kx : Nat → Kt} {Q : Option Value → Mem → Prop} {M : Mem} {x1 : Nat} {x2 : Nat} {x3 : Nat} {x4 : Int32} {x5 : Option Value} : run Z nF C_W_areGrants S_W_areGrants Kx Q (f + 5) t_W_areGrants_80 [some (.ref (x1)), some (.ref (x2)), some (.ref (x3)), some (.int (x4)), x5] [] M = (isA (M) (x3) ((nI 63)) ∧ (if (mI (M) (x3) (Int32.toNatClampNeg ((nI 63)))) ≤ (x4) then run Z nF C_W_areGrants S_W_areGrants Kx Q f t_W_areGrants_146 [some (.ref (x1)), some (.ref (x2)), some (.ref (x3)), some (.int (x4)), x5] [] (M) else run Z nF C_W_areGrants S_W_areGrants Kx Q f t_W_areGrants_88 [some (.ref (x1)), some (.ref (x2)), some (.ref (x3)), some (.int (x4)), x5] [] (M))) := id rfl
theorem g_W_areGrants_88 {Z : Zt} {nF f : Nat} {Kx : Nat → Kt} {Q : Option Value → Mem → Prop} {M : Mem} {x1 : Nat} {x2 : Nat} {x3 : Nat} {x4 : Int32} {x5 : Option Value} : run Z nF C_W_areGrants S_W_areGrants Kx Q (f + 2) t_W_areGrants_88 [some (.ref (x1)), some (.ref (x2)), some (.ref (x3)), some (.int (x4)), x5] [] M = (Kx 91 [some (.ref (x1)), some (.ref (x2)), some (.ref (x3)), some (.int (x4)), some (.int ((nI 0)))] [] (M)) := id rfl
theorem g_W_areGrants_91 {Z : Zt} {nF f : Nat} {Kx : Nat → Kt} {Q : Option Value → Mem → Prop} {M : Mem} {x1 : Nat} {x2 : Nat} {x3 : Nat} {x4 : Int32} {x5 : Int32} : run Z nF C_W_areGrants S_W_areGrants Kx Q (f + 3) t_W_areGrants_91 [some (.ref (x1)), some (.ref (x2)), some (.ref (x3)), some (.int (x4)), some (.int (x5))] [] M = ((if ((nI 4)) ≤ (x5) then run Z nF C_W_areGrants S_W_areGrants Kx Q f t_W_areGrants_123 [some (.ref (x1)), some (.ref (x2)), some (.ref (x3)), some (.int (x4)), some (.int (x5))] [] (M) else run Z nF C_W_areGrants S_W_areGrants Kx Q f t_W_areGrants_97 [some (.ref (x1)), some (.ref (x2)), some (.ref (x3)), some (.int (x4)), some (.int (x5))] [] (M))) := id rfl
theorem g_W_areGrants_97 {Z : Zt} {nF f : Nat} {Kx : Nat → Kt} {Q : Option Value → Mem → Prop} {M : Mem} {x1 : Nat} {x2 : Nat} {x3 : Nat} {x4 : Int32} {x5 : Int32} : run Z nF C_W_areGrants S_W_areGrants Kx Q (f + 4) t_W_areGrants_97 [some (.ref (x1)), some (.ref (x2)), some (.ref (x3)), some (.int (x4)), some (.int (x5))] [] M = (((isO (M) (x1) 4) ∧ wsum [] ≤ 8) ∧ pcall e_B_demanded [.ref (x1), .int (x4), .int (x5)] (M) (fun v M_ => run Z nF C_W_areGrants S_W_areGrants Kx Q f t_W_areGrants_104 [some (.ref (x1)), some (.ref (x2)), some (.ref (x3)), some (.int (x4)), some (.int (x5))] (v.toList ++ []) M_)) := id rfl
theorem g_W_areGrants_104 {Z : Zt} {nF f : Nat} {Kx : Nat → Kt} {Q : Option Value → Mem → Prop} {M : Mem} {x1 : Nat} {x2 : Nat} {x3 : Nat} {x4 : Int32} {x5 : Int32} {x6 : Int32} : run Z nF C_W_areGrants S_W_areGrants Kx Q (f + 5) t_W_areGrants_104 [some (.ref (x1)), some (.ref (x2)), some (.ref (x3)), some (.int (x4)), some (.int (x5))] [.int (x6)] M = (isA (M) (x3) (x4) ∧ ((True) ∧ wsum [.int (x6)] ≤ 8) ∧ pcall e_W_units [.int (mI (M) (x3) (Int32.toNatClampNeg (x4))), .int (x5)] (M) (fun v M_ => run Z nF C_W_areGrants S_W_areGrants Kx Q f t_W_areGrants_112 [some (.ref (x1)), some (.ref (x2)), some (.ref (x3)), some (.int (x4)), some (.int (x5))] (v.toList ++ [.int (x6)]) M_)) := id rfl
theorem g_W_areGrants_112 {Z : Zt} {nF f : Nat} {Kx : Nat → Kt} {Q : Option Value → Mem → Prop} {M : Mem} {x1 : Nat} {x2 : Nat} {x3 : Nat} {x4 : Int32} {x5 : Int32} {x6 : Int32} {x7 : Int32} : run Z nF C_W_areGrants S_W_areGrants Kx Q (f + 1) t_W_areGrants_112 [some (.ref (x1)), some (.ref (x2)), some (.ref (x3)), some (.int (x4)), some (.int (x5))] [.int (x6), .int (x7)] M = ((if (x7) = (x6) then run Z nF C_W_areGrants S_W_areGrants Kx Q f t_W_areGrants_117 [some (.ref (x1)), some (.ref (x2)), some (.ref (x3)), some (.int (x4)), some (.int (x5))] [] (M) else run Z nF C_W_areGrants S_W_areGrants Kx Q f t_W_areGrants_115 [some (.ref (x1)), some (.ref (x2)), some (.ref (x3)), some (.int (x4)), some (.int (x5))] [] (M))) := id rfl
theorem g_W_areGrants_115 {Z : Zt} {nF f : Nat} {Kx : Nat → Kt} {Q : Option Value → Mem → Prop} {M : Mem} {x1 : Nat} {x2 : Nat} {x3 : Nat} {x4 : Int32} {x5 : Int32} : run Z nF C_W_areGrants S_W_areGrants Kx Q (f + 2) t_W_areGrants_115 [some (.ref (x1)), some (.ref (x2)), some (.ref (x3)), some (.int (x4)), some (.int (x5))] [] M = ((((nI 0)) = nI 0 ∨ ((nI 0)) = nI 1) ∧ Q (some (.int ((nI 0)))) (M)) := id rfl
theorem g_W_areGrants_117 {Z : Zt} {nF f : Nat} {Kx : Nat → Kt} {Q : Option Value → Mem → Prop} {M : Mem} {x1 : Nat} {x2 : Nat} {x3 : Nat} {x4 : Int32} {x5 : Int32} : run Z nF C_W_areGrants S_W_areGrants Kx Q (f + 2) t_W_areGrants_117 [some (.ref (x1)), some (.ref (x2)), some (.ref (x3)), some (.int (x4)), some (.int (x5))] [] M = (Kx 91 [some (.ref (x1)), some (.ref (x2)), some (.ref (x3)), some (.int (x4)), some (.int (x5 + (nI 1)))] [] (M)) := id rfl
theorem g_W_areGrants_123 {Z : Zt} {nF f : Nat} {Kx : Nat → Kt} {Q : Option Value → Mem → Prop} {M : Mem} {x1 : Nat} {x2 : Nat} {x3 : Nat} {x4 : Int32} {x5 : Int32} : run Z nF C_W_areGrants S_W_areGrants Kx Q (f + 4) t_W_areGrants_123 [some (.ref (x1)), some (.ref (x2)), some (.ref (x3)), some (.int (x4)), some (.int (x5))] [] M = (((isO (M) (x1) 4) ∧ wsum [] ≤ 8) ∧ pcall e_B_demanded [.ref (x1), .int (x4), .int ((nI 4))] (M) (fun v M_ => run Z nF C_W_areGrants S_W_areGrants Kx Q f t_W_areGrants_129 [some (.ref (x1)), some (.ref (x2)), some (.ref (x3)), some (.int (x4)), some (.int (x5))] (v.toList ++ []) M_)) := id rfl
theorem g_W_areGrants_129 {Z : Zt} {nF f : Nat} {Kx : Nat → Kt} {Q : Option Value → Mem → Prop} {M : Mem} {x1 : Nat} {x2 : Nat} {x3 : Nat} {x4 : Int32} {x5 : Int32} {x6 : Int32} : run Z nF C_W_areGrants S_W_areGrants Kx Q (f + 6) t_W_areGrants_129 [some (.ref (x1)), some (.ref (x2)), some (.ref (x3)), some (.int (x4)), some (.int (x5))] [.int (x6)] M = (isA (M) (x3) (x4) ∧ (if (x6) = ((mI (M) (x3) (Int32.toNatClampNeg (x4))) >>> (((nI 28)) &&& 31)) then run Z nF C_W_areGrants S_W_areGrants Kx Q f t_W_areGrants_140 [some (.ref (x1)), some (.ref (x2)), some (.ref (x3)), some (.int (x4)), some (.int (x5))] [] (M) else run Z nF C_W_areGrants S_W_areGrants Kx Q f t_W_areGrants_138 [some (.ref (x1)), some (.ref (x2)), some (.ref (x3)), some (.int (x4)), some (.int (x5))] [] (M))) := id rfl
theorem g_W_areGrants_138 {Z : Zt} {nF f : Nat} {Kx : Nat → Kt} {Q : Option Value → Mem → Prop} {M : Mem} {x1 : Nat} {x2 : Nat} {x3 : Nat} {x4 : Int32} {x5 : Int32} : run Z nF C_W_areGrants S_W_areGrants Kx Q (f + 2) t_W_areGrants_138 [some (.ref (x1)), some (.ref (x2)), some (.ref (x3)), some (.int (x4)), some (.int (x5))] [] M = ((((nI 0)) = nI 0 ∨ ((nI 0)) = nI 1) ∧ Q (some (.int ((nI 0)))) (M)) := id rfl
theorem g_W_areGrants_140 {Z : Zt} {nF f : Nat} {Kx : Nat → Kt} {Q : Option Value → Mem → Prop} {M : Mem} {x1 : Nat} {x2 : Nat} {x3 : Nat} {x4 : Int32} {x5 : Int32} : run Z nF C_W_areGrants S_W_areGrants Kx Q (f + 2) t_W_areGrants_140 [some (.ref (x1)), some (.ref (x2)), some (.ref (x3)), some (.int (x4)), some (.int (x5))] [] M = (Kx 80 [some (.ref (x1)), some (.ref (x2)), some (.ref (x3)), some (.int (x4 + (nI 1))), some (.int (x5))] [] (M)) := id rfl
theorem g_W_areGrants_146 {Z : Zt} {nF f : Nat} {Kx : Nat → Kt} {Q : Option Value → Mem → Prop} {M : Mem} {x1 : Nat} {x2 : Nat} {x3 : Nat} {x4 : Int32} {x5 : Option Value} : run Z nF C_W_areGrants S_W_areGrants Kx Q (f + 6) t_W_areGrants_146 [some (.ref (x1)), some (.ref (x2)), some (.ref (x3)), some (.int (x4)), x5] [] M = (isA (M) (x3) ((nI 63)) ∧ ((isO (M) (x1) 4) ∧ wsum [] ≤ 8) ∧ pcall e_B_demanded [.ref (x1), .int (mI (M) (x3) (Int32.toNatClampNeg ((nI 63)))), .int ((nI 0))] (M) (fun v M_ => run Z nF C_W_areGrants S_W_areGrants Kx Q f t_W_areGrants_155 [some (.ref (x1)), some (.ref (x2)), some (.ref (x3)), some (.int (x4)), x5] (v.toList ++ []) M_)) := id rfl
theorem g_W_areGrants_155 {Z : Zt} {nF f : Nat} {Kx : Nat → Kt} {Q : Option Value → Mem → Prop} {M : Mem} {x1 : Nat} {x2 : Nat} {x3 : Nat} {x4 : Int32} {x5 : Option Value} {x6 : Int32} : run Z nF C_W_areGrants S_W_areGrants Kx Q (f + 2) t_W_areGrants_155 [some (.ref (x1)), some (.ref (x2)), some (.ref (x3)), some (.int (x4)), x5] [.int (x6)] M = ((if (x6) = ((-1000003 : Int32)) then run Z nF C_W_areGrants S_W_areGrants Kx Q f t_W_areGrants_160 [some (.ref (x1)), some (.ref (x2)), some (.ref (x3)), some (.int (x4)), x5] [] (M) else run Z nF C_W_areGrants S_W_areGrants Kx Q f t_W_areGrants_201 [some (.ref (x1)), some (.ref (x2)), some (.ref (x3)), some (.int (x4)), x5] [] (M))) := id rfl
theorem g_W_areGrants_160 {Z : Zt} {nF f : Nat} {Kx : Nat → Kt} {Q : Option Value → Mem → Prop} {M : Mem} {x1 : Nat} {x2 : Nat} {x3 : Nat} {x4 : Int32} {x5 : Option Value} : run Z nF C_W_areGrants S_W_areGrants Kx Q (f + 4) t_W_areGrants_160 [some (.ref (x1)), some (.ref (x2)), some (.ref (x3)), some (.int (x4)), x5] [] M = (((isO (M) (x1) 4) ∧ wsum [.ref (x1)] ≤ 8) ∧ pcall e_B_count [.ref (x1), .int ((nI 5))] (M) (fun v M_ => run Z nF C_W_areGrants S_W_areGrants Kx Q f t_W_areGrants_166 [some (.ref (x1)), some (.ref (x2)), some (.ref (x3)), some (.int (x4)), x5] (v.toList ++ [.ref (x1)]) M_)) := id rfl
theorem g_W_areGrants_166 {Z : Zt} {nF f : Nat} {Kx : Nat → Kt} {Q : Option Value → Mem → Prop} {M : Mem} {x1 : Nat} {x2 : Nat} {x3 : Nat} {x4 : Int32} {x5 : Option Value} {x6 : Int32} {x7 : Nat} : run Z nF C_W_areGrants S_W_areGrants Kx Q (f + 2) t_W_areGrants_166 [some (.ref (x1)), some (.ref (x2)), some (.ref (x3)), some (.int (x4)), x5] [.int (x6), .ref (x7)] M = (((isO (M) (x7) 4) ∧ wsum [] ≤ 8) ∧ pcall e_B_granted [.ref (x7), .int (x6), .int ((nI 0))] (M) (fun v M_ => run Z nF C_W_areGrants S_W_areGrants Kx Q f t_W_areGrants_170 [some (.ref (x1)), some (.ref (x2)), some (.ref (x3)), some (.int (x4)), x5] (v.toList ++ []) M_)) := id rfl
theorem g_W_areGrants_170 {Z : Zt} {nF f : Nat} {Kx : Nat → Kt} {Q : Option Value → Mem → Prop} {M : Mem} {x1 : Nat} {x2 : Nat} {x3 : Nat} {x4 : Int32} {x5 : Option Value} {x6 : Int32} : run Z nF C_W_areGrants S_W_areGrants Kx Q (f + 2) t_W_areGrants_170 [some (.ref (x1)), some (.ref (x2)), some (.ref (x3)), some (.int (x4)), x5] [.int (x6)] M = ((if (x6) = ((-1000003 : Int32)) then run Z nF C_W_areGrants S_W_areGrants Kx Q f t_W_areGrants_175 [some (.ref (x1)), some (.ref (x2)), some (.ref (x3)), some (.int (x4)), x5] [] (M) else run Z nF C_W_areGrants S_W_areGrants Kx Q f t_W_areGrants_201 [some (.ref (x1)), some (.ref (x2)), some (.ref (x3)), some (.int (x4)), x5] [] (M))) := id rfl
theorem g_W_areGrants_175 {Z : Zt} {nF f : Nat} {Kx : Nat → Kt} {Q : Option Value → Mem → Prop} {M : Mem} {x1 : Nat} {x2 : Nat} {x3 : Nat} {x4 : Int32} {x5 : Option Value} : run Z nF C_W_areGrants S_W_areGrants Kx Q (f + 4) t_W_areGrants_175 [some (.ref (x1)), some (.ref (x2)), some (.ref (x3)), some (.int (x4)), x5] [] M = (((isO (M) (x1) 4) ∧ wsum [] ≤ 8) ∧ pcall e_B_granted [.ref (x1), .int ((-1 : Int32)), .int ((nI 0))] (M) (fun v M_ => run Z nF C_W_areGrants S_W_areGrants Kx Q f t_W_areGrants_181 [some (.ref (x1)), some (.ref (x2)), some (.ref (x3)), some (.int (x4)), x5] (v.toList ++ []) M_)) := id rfl
theorem g_W_areGrants_181 {Z : Zt} {nF f : Nat} {Kx : Nat → Kt} {Q : Option Value → Mem → Prop} {M : Mem} {x1 : Nat} {x2 : Nat} {x3 : Nat} {x4 : Int32} {x5 : Option Value} {x6 : Int32} : run Z nF C_W_areGrants S_W_areGrants Kx Q (f + 2) t_W_areGrants_181 [some (.ref (x1)), some (.ref (x2)), some (.ref (x3)), some (.int (x4)), x5] [.int (x6)] M = ((if (x6) = ((-1000000 : Int32)) then run Z nF C_W_areGrants S_W_areGrants Kx Q f t_W_areGrants_186 [some (.ref (x1)), some (.ref (x2)), some (.ref (x3)), some (.int (x4)), x5] [] (M) else run Z nF C_W_areGrants S_W_areGrants Kx Q f t_W_areGrants_201 [some (.ref (x1)), some (.ref (x2)), some (.ref (x3)), some (.int (x4)), x5] [] (M))) := id rfl
theorem g_W_areGrants_186 {Z : Zt} {nF f : Nat} {Kx : Nat → Kt} {Q : Option Value → Mem → Prop} {M : Mem} {x1 : Nat} {x2 : Nat} {x3 : Nat} {x4 : Int32} {x5 : Option Value} : run Z nF C_W_areGrants S_W_areGrants Kx Q (f + 4) t_W_areGrants_186 [some (.ref (x1)), some (.ref (x2)), some (.ref (x3)), some (.int (x4)), x5] [] M = (((isO (M) (x1) 4) ∧ wsum [] ≤ 8) ∧ pcall e_B_demanded [.ref (x1), .int ((nI 0)), .int ((nI 5))] (M) (fun v M_ => run Z nF C_W_areGrants S_W_areGrants Kx Q f t_W_areGrants_192 [some (.ref (x1)), some (.ref (x2)), some (.ref (x3)), some (.int (x4)), x5] (v.toList ++ []) M_)) := id rfl
theorem g_W_areGrants_192 {Z : Zt} {nF f : Nat} {Kx : Nat → Kt} {Q : Option Value → Mem → Prop} {M : Mem} {x1 : Nat} {x2 : Nat} {x3 : Nat} {x4 : Int32} {x5 : Option Value} {x6 : Int32} : run Z nF C_W_areGrants S_W_areGrants Kx Q (f + 2) t_W_areGrants_192 [some (.ref (x1)), some (.ref (x2)), some (.ref (x3)), some (.int (x4)), x5] [.int (x6)] M = ((if (x6) = ((-1000000 : Int32)) then run Z nF C_W_areGrants S_W_areGrants Kx Q f t_W_areGrants_197 [some (.ref (x1)), some (.ref (x2)), some (.ref (x3)), some (.int (x4)), x5] [] (M) else run Z nF C_W_areGrants S_W_areGrants Kx Q f t_W_areGrants_201 [some (.ref (x1)), some (.ref (x2)), some (.ref (x3)), some (.int (x4)), x5] [] (M))) := id rfl
theorem g_W_areGrants_197 {Z : Zt} {nF f : Nat} {Kx : Nat → Kt} {Q : Option Value → Mem → Prop} {M : Mem} {x1 : Nat} {x2 : Nat} {x3 : Nat} {x4 : Int32} {x5 : Option Value} : run Z nF C_W_areGrants S_W_areGrants Kx Q (f + 2) t_W_areGrants_197 [some (.ref (x1)), some (.ref (x2)), some (.ref (x3)), some (.int (x4)), x5] [] M = (run Z nF C_W_areGrants S_W_areGrants Kx Q f t_W_areGrants_202 [some (.ref (x1)), some (.ref (x2)), some (.ref (x3)), some (.int (x4)), x5] [.int ((nI 1))] (M)) := id rfl
theorem g_W_areGrants_201 {Z : Zt} {nF f : Nat} {Kx : Nat → Kt} {Q : Option Value → Mem → Prop} {M : Mem} {x1 : Nat} {x2 : Nat} {x3 : Nat} {x4 : Int32} {x5 : Option Value} : run Z nF C_W_areGrants S_W_areGrants Kx Q (f + 1) t_W_areGrants_201 [some (.ref (x1)), some (.ref (x2)), some (.ref (x3)), some (.int (x4)), x5] [] M = (run Z nF C_W_areGrants S_W_areGrants Kx Q f t_W_areGrants_202 [some (.ref (x1)), some (.ref (x2)), some (.ref (x3)), some (.int (x4)), x5] [.int ((nI 0))] (M)) := id rfl
theorem g_W_areGrants_202 {Z : Zt} {nF f : Nat} {Kx : Nat → Kt} {Q : Option Value → Mem → Prop} {M : Mem} {x1 : Nat} {x2 : Nat} {x3 : Nat} {x4 : Int32} {x5 : Option Value} {x6 : Int32} : run Z nF C_W_areGrants S_W_areGrants Kx Q (f + 1) t_W_areGrants_202 [some (.ref (x1)), some (.ref (x2)), some (.ref (x3)), some (.int (x4)), x5] [.int (x6)] M = (((x6) = nI 0 ∨ (x6) = nI 1) ∧ Q (some (.int (x6))) (M)) := id rfl
section Ag
variable {Z : Zt} {d : Nat} {M : Mem}
set_option maxRecDepth 100000 in
set_option maxHeartbeats 4000000 in
theorem lp_13_areGrants (hP : PI_ M) {Q : Option Value → Mem → Prop} {k : Nat} (hk : k < wn (mI M 175)) (hx : ∀ x5 : Option Value, X Z (d + 6) s_W_areGrants (mN M) (mN M) Q 2 [some (.ref 16), some (.ref 175), some (.ref 176), some (.int (nI (k + 1))), x5] [] M) : ∀ n r, r + n = 4 → X Z (d + 6) s_W_areGrants (mN M) (mN M) Q 13 [some (.ref 16), some (.ref 175), some (.ref 176), some (.int (nI k)), some (.int (nI r))] [] M := by
  have hA2 := fun {k : Nat} (hk : k < 64) => lwA (hP.lw (x := 175) (by omega) (by omega)) hk
  have hB := hP.1.1
  have h21 := hP.G21.2
  have hgd : ∀ {g w : Int32} {K : Option Value → Mem → Prop}, pcall e_B_granted [.ref 16, .int g, .int w] M K = K (some (.int (gdR (mI M) g w))) M := pc_B_granted (o := 16) ⟨rfl, hP.1⟩
  intro n
  induction n with
  | zero =>
    intro r hi
    obtain rfl : r = 4 := by omega
    have := hx (some (.int (nI 4)))
    refine X_runT (C := C_W_areGrants) (S := S_W_areGrants) (T := t_W_areGrants_13) 1000 kt_W_areGrants (okE_cons (ok_B_granted Z d) (okE_cons (ok_W_units Z (d + 4)) (okE_cons (ok_B_demanded Z (d + 2)) (okE_cons (ok_B_count Z (d + 4)) okE_nil)))) ?_
    simp (maxSteps := 3000000) (disch := first | exact True.intro | assumption | omega) only [↓eq_self, Option.toList_some, Option.toList_none, List.nil_append, List.cons_append, wsum_0, wsum_1, wsum_2, wsum_3, wsum_4, lkill, ↓reduceIte, if_true, if_false, Bool.false_eq_true, and_true, true_and, and_self, or_self, true_or, or_true, not_true, not_false_iff, mR_stI, mN_stI, isO_stI, isA_stI, mI_stI, mR_mW, mN_mW, isO_mW, isA_mW, mI_mW, mW_mW, stI_mW, vp_0, nI_add, nI_ltI, nI_leI, nI_eq, vpi, nI_clamp, nI_toN, nI_geT, pk_mul, pk_sub, bv_0n, bv_1n, ↓bv_01n, n01a, n01b, Nat.reduceSub, Nat.reduceAdd, Nat.reduceMul, u2_rw, rw_rw, rw_at, rw_ne, up_at, up_ne, Nat.zero_add, Nat.add_zero, lw_mW, m1_lt0, ite_nt, ↓g_W_areGrants_13, ↓g_W_areGrants_50, ↓g_W_areGrants_61, ↓g_W_areGrants_70, ↓g_W_areGrants_72, hA2, bk_oB hB, hgd, tg_o hP hk, Nat.le_refl]
    exact this
  | succ n ih =>
    intro r hi
    have h1 : ¬ 4 ≤ r := by omega
    refine X_runT (C := C_W_areGrants) (S := S_W_areGrants) (T := t_W_areGrants_13) 1000 kt_W_areGrants (okE_cons (ok_B_granted Z d) (okE_cons (ok_W_units Z (d + 4)) (okE_cons (ok_B_demanded Z (d + 2)) (okE_cons (ok_B_count Z (d + 4)) okE_nil)))) ?_
    have hr : r < 4 := by omega
    simp (maxSteps := 3000000) (disch := first | exact True.intro | assumption | omega) only [↓eq_self, Option.toList_some, Option.toList_none, List.nil_append, List.cons_append, wsum_0, wsum_1, wsum_2, wsum_3, wsum_4, lkill, ↓reduceIte, if_true, if_false, Bool.false_eq_true, and_true, true_and, and_self, or_self, true_or, or_true, not_true, not_false_iff, mR_stI, mN_stI, isO_stI, isA_stI, mI_stI, mR_mW, mN_mW, isO_mW, isA_mW, mI_mW, mW_mW, stI_mW, vp_0, nI_add, nI_ltI, nI_leI, nI_eq, vpi, nI_clamp, nI_toN, nI_geT, pk_mul, pk_sub, bv_0n, bv_1n, ↓bv_01n, n01a, n01b, Nat.reduceSub, Nat.reduceAdd, Nat.reduceMul, u2_rw, rw_rw, rw_at, rw_ne, up_at, up_ne, Nat.zero_add, Nat.add_zero, lw_mW, m1_lt0, ite_nt, ↓g_W_areGrants_13, ↓g_W_areGrants_19, ↓g_W_areGrants_31, ↓g_W_areGrants_39, ↓g_W_areGrants_42, ↓g_W_areGrants_44, hA2, bk_oB hB, hgd, tg_u hP hk hr, pc_W_units, h1]
    exact ih (r + 1) (by omega)
set_option maxRecDepth 100000 in
set_option maxHeartbeats 4000000 in
theorem lp_2_areGrants (hP : PI_ M) {Q : Option Value → Mem → Prop} (hx : ∀ x5 : Option Value, X Z (d + 6) s_W_areGrants (mN M) (mN M) Q 80 [some (.ref 16), some (.ref 175), some (.ref 176), some (.int (nI 0)), x5] [] M) : ∀ n k x5, k + n = wn (mI M 175) → X Z (d + 6) s_W_areGrants (mN M) (mN M) Q 2 [some (.ref 16), some (.ref 175), some (.ref 176), some (.int (nI k)), x5] [] M := by
  have hA2 := fun {k : Nat} (hk : k < 64) => lwA (hP.lw (x := 175) (by omega) (by omega)) hk
  have e63 := hP.G21.1
  have h21 := hP.G21.2
  intro n
  induction n with
  | zero =>
    intro k x5 hi
    obtain rfl : k = wn (mI M 175) := by omega
    have := hx x5
    refine X_runT (C := C_W_areGrants) (S := S_W_areGrants) (T := t_W_areGrants_2) 1000 kt_W_areGrants (okE_cons (ok_B_granted Z d) (okE_cons (ok_W_units Z (d + 4)) (okE_cons (ok_B_demanded Z (d + 2)) (okE_cons (ok_B_count Z (d + 4)) okE_nil)))) ?_
    simp (maxSteps := 3000000) (disch := first | exact True.intro | assumption | omega) only [↓eq_self, Option.toList_some, Option.toList_none, List.nil_append, List.cons_append, wsum_0, wsum_1, wsum_2, wsum_3, wsum_4, lkill, ↓reduceIte, if_true, if_false, Bool.false_eq_true, and_true, true_and, and_self, or_self, true_or, or_true, not_true, not_false_iff, mR_stI, mN_stI, isO_stI, isA_stI, mI_stI, mR_mW, mN_mW, isO_mW, isA_mW, mI_mW, mW_mW, stI_mW, vp_0, nI_add, nI_ltI, nI_leI, nI_eq, vpi, nI_clamp, nI_toN, nI_geT, pk_mul, pk_sub, bv_0n, bv_1n, ↓bv_01n, n01a, n01b, Nat.reduceSub, Nat.reduceAdd, Nat.reduceMul, u2_rw, rw_rw, rw_at, rw_ne, up_at, up_ne, Nat.zero_add, Nat.add_zero, lw_mW, m1_lt0, ite_nt, ↓g_W_areGrants_2, ↓g_W_areGrants_10, ↓g_W_areGrants_78, hA2, e63, Nat.le_refl]
    exact this
  | succ n ih =>
    intro k x5 hi
    have h1 : ¬ wn (mI M 175) ≤ k := by omega
    have := lp_13_areGrants (Z := Z) (d := d) hP (Q := Q) (k := k) (by omega) (fun x5 => ih (k + 1) x5 (by omega)) 4 0 rfl
    refine X_runT (C := C_W_areGrants) (S := S_W_areGrants) (T := t_W_areGrants_2) 1000 kt_W_areGrants (okE_cons (ok_B_granted Z d) (okE_cons (ok_W_units Z (d + 4)) (okE_cons (ok_B_demanded Z (d + 2)) (okE_cons (ok_B_count Z (d + 4)) okE_nil)))) ?_
    simp (maxSteps := 3000000) (disch := first | exact True.intro | assumption | omega) only [↓eq_self, Option.toList_some, Option.toList_none, List.nil_append, List.cons_append, wsum_0, wsum_1, wsum_2, wsum_3, wsum_4, lkill, ↓reduceIte, if_true, if_false, Bool.false_eq_true, and_true, true_and, and_self, or_self, true_or, or_true, not_true, not_false_iff, mR_stI, mN_stI, isO_stI, isA_stI, mI_stI, mR_mW, mN_mW, isO_mW, isA_mW, mI_mW, mW_mW, stI_mW, vp_0, nI_add, nI_ltI, nI_leI, nI_eq, vpi, nI_clamp, nI_toN, nI_geT, pk_mul, pk_sub, bv_0n, bv_1n, ↓bv_01n, n01a, n01b, Nat.reduceSub, Nat.reduceAdd, Nat.reduceMul, u2_rw, rw_rw, rw_at, rw_ne, up_at, up_ne, Nat.zero_add, Nat.add_zero, lw_mW, m1_lt0, ite_nt, ↓g_W_areGrants_2, ↓g_W_areGrants_10, hA2, e63, h1]
    exact this
set_option maxRecDepth 100000 in
set_option maxHeartbeats 4000000 in
theorem lp_91_areGrants (hP : PI_ M) {Q : Option Value → Mem → Prop} {k : Nat} (hk : k < wn (mI M 176)) (hx : ∀ x5 : Option Value, X Z (d + 6) s_W_areGrants (mN M) (mN M) Q 80 [some (.ref 16), some (.ref 175), some (.ref 176), some (.int (nI (k + 1))), x5] [] M) : ∀ n r, r + n = 4 → X Z (d + 6) s_W_areGrants (mN M) (mN M) Q 91 [some (.ref 16), some (.ref 175), some (.ref 176), some (.int (nI k)), some (.int (nI r))] [] M := by
  have hA3 := fun {k : Nat} (hk : k < 64) => lwA (hP.lw (x := 176) (by omega) (by omega)) hk
  have hB := hP.1.1
  have h24 := hP.D24.2
  have hdd : ∀ {g w : Int32} {K : Option Value → Mem → Prop}, pcall e_B_demanded [.ref 16, .int g, .int w] M K = K (some (.int (ddR (mI M) g w))) M := pc_B_demanded (o := 16) ⟨rfl, hP.1⟩
  intro n
  induction n with
  | zero =>
    intro r hi
    obtain rfl : r = 4 := by omega
    have := hx (some (.int (nI 4)))
    refine X_runT (C := C_W_areGrants) (S := S_W_areGrants) (T := t_W_areGrants_91) 1000 kt_W_areGrants (okE_cons (ok_B_granted Z d) (okE_cons (ok_W_units Z (d + 4)) (okE_cons (ok_B_demanded Z (d + 2)) (okE_cons (ok_B_count Z (d + 4)) okE_nil)))) ?_
    simp (maxSteps := 3000000) (disch := first | exact True.intro | assumption | omega) only [↓eq_self, Option.toList_some, Option.toList_none, List.nil_append, List.cons_append, wsum_0, wsum_1, wsum_2, wsum_3, wsum_4, lkill, ↓reduceIte, if_true, if_false, Bool.false_eq_true, and_true, true_and, and_self, or_self, true_or, or_true, not_true, not_false_iff, mR_stI, mN_stI, isO_stI, isA_stI, mI_stI, mR_mW, mN_mW, isO_mW, isA_mW, mI_mW, mW_mW, stI_mW, vp_0, nI_add, nI_ltI, nI_leI, nI_eq, vpi, nI_clamp, nI_toN, nI_geT, pk_mul, pk_sub, bv_0n, bv_1n, ↓bv_01n, n01a, n01b, Nat.reduceSub, Nat.reduceAdd, Nat.reduceMul, u2_rw, rw_rw, rw_at, rw_ne, up_at, up_ne, Nat.zero_add, Nat.add_zero, lw_mW, m1_lt0, ite_nt, ↓g_W_areGrants_91, ↓g_W_areGrants_123, ↓g_W_areGrants_129, ↓g_W_areGrants_138, ↓g_W_areGrants_140, hA3, bk_oB hB, hdd, td_o hP hk, Nat.le_refl]
    exact this
  | succ n ih =>
    intro r hi
    have h1 : ¬ 4 ≤ r := by omega
    refine X_runT (C := C_W_areGrants) (S := S_W_areGrants) (T := t_W_areGrants_91) 1000 kt_W_areGrants (okE_cons (ok_B_granted Z d) (okE_cons (ok_W_units Z (d + 4)) (okE_cons (ok_B_demanded Z (d + 2)) (okE_cons (ok_B_count Z (d + 4)) okE_nil)))) ?_
    have hr : r < 4 := by omega
    simp (maxSteps := 3000000) (disch := first | exact True.intro | assumption | omega) only [↓eq_self, Option.toList_some, Option.toList_none, List.nil_append, List.cons_append, wsum_0, wsum_1, wsum_2, wsum_3, wsum_4, lkill, ↓reduceIte, if_true, if_false, Bool.false_eq_true, and_true, true_and, and_self, or_self, true_or, or_true, not_true, not_false_iff, mR_stI, mN_stI, isO_stI, isA_stI, mI_stI, mR_mW, mN_mW, isO_mW, isA_mW, mI_mW, mW_mW, stI_mW, vp_0, nI_add, nI_ltI, nI_leI, nI_eq, vpi, nI_clamp, nI_toN, nI_geT, pk_mul, pk_sub, bv_0n, bv_1n, ↓bv_01n, n01a, n01b, Nat.reduceSub, Nat.reduceAdd, Nat.reduceMul, u2_rw, rw_rw, rw_at, rw_ne, up_at, up_ne, Nat.zero_add, Nat.add_zero, lw_mW, m1_lt0, ite_nt, ↓g_W_areGrants_91, ↓g_W_areGrants_97, ↓g_W_areGrants_104, ↓g_W_areGrants_112, ↓g_W_areGrants_115, ↓g_W_areGrants_117, hA3, bk_oB hB, hdd, td_u hP hk hr, pc_W_units, h1]
    exact ih (r + 1) (by omega)
set_option maxRecDepth 100000 in
set_option maxHeartbeats 4000000 in
theorem lp_80_areGrants (hP : PI_ M) : ∀ n k x5, k + n = wn (mI M 176) → X Z (d + 6) s_W_areGrants (mN M) (mN M) (ex (some (.int (nI 1))) M) 80 [some (.ref 16), some (.ref 175), some (.ref 176), some (.int (nI k)), x5] [] M := by
  have hA3 := fun {k : Nat} (hk : k < 64) => lwA (hP.lw (x := 176) (by omega) (by omega)) hk
  have e63 := hP.D24.1
  have h24 := hP.D24.2
  have hB := hP.1.1
  intro n
  induction n with
  | zero =>
    intro k x5 hi
    obtain rfl : k = wn (mI M 176) := by omega
    have hdd : ∀ {g w : Int32} {K : Option Value → Mem → Prop}, pcall e_B_demanded [.ref 16, .int g, .int w] M K = K (some (.int (ddR (mI M) g w))) M := pc_B_demanded (o := 16) ⟨rfl, hP.1⟩
    have hgd : ∀ {g w : Int32} {K : Option Value → Mem → Prop}, pcall e_B_granted [.ref 16, .int g, .int w] M K = K (some (.int (gdR (mI M) g w))) M := pc_B_granted (o := 16) ⟨rfl, hP.1⟩
    have hcn : ∀ {w : Int32} {K : Option Value → Mem → Prop}, pcall e_B_count [.ref 16, .int w] M K = K (some (.int (cnR (mI M) w))) M := pc_B_count (o := 16) ⟨rfl, hP.1⟩
    refine X_runT (C := C_W_areGrants) (S := S_W_areGrants) (T := t_W_areGrants_80) 1000 kt_W_areGrants (okE_cons (ok_B_granted Z d) (okE_cons (ok_W_units Z (d + 4)) (okE_cons (ok_B_demanded Z (d + 2)) (okE_cons (ok_B_count Z (d + 4)) okE_nil)))) ?_
    simp (maxSteps := 3000000) (disch := first | exact True.intro | assumption | omega) only [↓eq_self, Option.toList_some, Option.toList_none, List.nil_append, List.cons_append, wsum_0, wsum_1, wsum_2, wsum_3, wsum_4, lkill, ↓reduceIte, if_true, if_false, Bool.false_eq_true, and_true, true_and, and_self, or_self, true_or, or_true, not_true, not_false_iff, mR_stI, mN_stI, isO_stI, isA_stI, mI_stI, mR_mW, mN_mW, isO_mW, isA_mW, mI_mW, mW_mW, stI_mW, vp_0, nI_add, nI_ltI, nI_leI, nI_eq, vpi, nI_clamp, nI_toN, nI_geT, pk_mul, pk_sub, bv_0n, bv_1n, ↓bv_01n, n01a, n01b, Nat.reduceSub, Nat.reduceAdd, Nat.reduceMul, u2_rw, rw_rw, rw_at, rw_ne, up_at, up_ne, Nat.zero_add, Nat.add_zero, lw_mW, m1_lt0, ite_nt, ↓g_W_areGrants_80, ↓g_W_areGrants_88, ↓g_W_areGrants_146, ↓g_W_areGrants_155, ↓g_W_areGrants_160, ↓g_W_areGrants_166, ↓g_W_areGrants_170, ↓g_W_areGrants_175, ↓g_W_areGrants_181, ↓g_W_areGrants_186, ↓g_W_areGrants_192, ↓g_W_areGrants_197, ↓g_W_areGrants_201, ↓g_W_areGrants_202, hA3, e63, bk_oB hB, hdd, hgd, hcn, td_e hP, tc_5 hP, tg_nx hP, tg_m, td_5, Nat.le_refl]
    exact ⟨rfl, rfl⟩
  | succ n ih =>
    intro k x5 hi
    have h1 : ¬ wn (mI M 176) ≤ k := by omega
    have := lp_91_areGrants (Z := Z) (d := d) hP (Q := ex (some (.int (nI 1))) M) (k := k) (by omega) (fun x5 => ih (k + 1) x5 (by omega)) 4 0 rfl
    refine X_runT (C := C_W_areGrants) (S := S_W_areGrants) (T := t_W_areGrants_80) 1000 kt_W_areGrants (okE_cons (ok_B_granted Z d) (okE_cons (ok_W_units Z (d + 4)) (okE_cons (ok_B_demanded Z (d + 2)) (okE_cons (ok_B_count Z (d + 4)) okE_nil)))) ?_
    simp (maxSteps := 3000000) (disch := first | exact True.intro | assumption | omega) only [↓eq_self, Option.toList_some, Option.toList_none, List.nil_append, List.cons_append, wsum_0, wsum_1, wsum_2, wsum_3, wsum_4, lkill, ↓reduceIte, if_true, if_false, Bool.false_eq_true, and_true, true_and, and_self, or_self, true_or, or_true, not_true, not_false_iff, mR_stI, mN_stI, isO_stI, isA_stI, mI_stI, mR_mW, mN_mW, isO_mW, isA_mW, mI_mW, mW_mW, stI_mW, vp_0, nI_add, nI_ltI, nI_leI, nI_eq, vpi, nI_clamp, nI_toN, nI_geT, pk_mul, pk_sub, bv_0n, bv_1n, ↓bv_01n, n01a, n01b, Nat.reduceSub, Nat.reduceAdd, Nat.reduceMul, u2_rw, rw_rw, rw_at, rw_ne, up_at, up_ne, Nat.zero_add, Nat.add_zero, lw_mW, m1_lt0, ite_nt, ↓g_W_areGrants_80, ↓g_W_areGrants_88, hA3, e63, h1]
    exact this
end Ag
set_option maxRecDepth 100000 in
set_option maxHeartbeats 4000000 in
theorem ok_W_areGrants (Z : Zt) (d : Nat) : okE Z (d + 6) i_W_areGrants e_W_areGrants := by
  rintro av M ⟨rfl, hP⟩
  refine Gm_run (C := C_W_areGrants) (S := S_W_areGrants) [some (.ref 16), some (.ref 175), some (.ref 176), none, none] 1000 kt_W_areGrants (okE_cons (ok_B_granted Z d) (okE_cons (ok_W_units Z (d + 4)) (okE_cons (ok_B_demanded Z (d + 2)) (okE_cons (ok_B_count Z (d + 4)) okE_nil)))) (fun r M' q => by rw [q.2]) ?_
  have := lp_2_areGrants (Z := Z) (d := d) hP (Q := ex (some (.int (nI 1))) M) (fun x5 => lp_80_areGrants hP (wn (mI M 176)) 0 x5 (Nat.zero_add _)) (wn (mI M 175)) 0 none (Nat.zero_add _)
  simp (maxSteps := 3000000) (disch := first | exact True.intro | assumption | omega) only [↓eq_self, Option.toList_some, Option.toList_none, List.nil_append, List.cons_append, wsum_0, wsum_1, wsum_2, wsum_3, wsum_4, lkill, ↓reduceIte, if_true, if_false, Bool.false_eq_true, and_true, true_and, and_self, or_self, true_or, or_true, not_true, not_false_iff, mR_stI, mN_stI, isO_stI, isA_stI, mI_stI, mR_mW, mN_mW, isO_mW, isA_mW, mI_mW, mW_mW, stI_mW, vp_0, nI_add, nI_ltI, nI_leI, nI_eq, vpi, nI_clamp, nI_toN, nI_geT, pk_mul, pk_sub, bv_0n, bv_1n, ↓bv_01n, n01a, n01b, Nat.reduceSub, Nat.reduceAdd, Nat.reduceMul, u2_rw, rw_rw, rw_at, rw_ne, up_at, up_ne, Nat.zero_add, Nat.add_zero, lw_mW, m1_lt0, ite_nt, ↓g_W_areGrants_0]
  exact this
