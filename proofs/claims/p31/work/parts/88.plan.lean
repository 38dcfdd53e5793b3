/-! ===== whom all grants would serve: three rows made, and the law's own run over them ===== -/
section Al
variable {M M' : Mem} {b c k : Nat} {T : Tr}
theorem LedS_g (h : LedS M b) (hb : b + 14 < 174) (hn : 174 ≤ mN M') (hr : ∀ x y, x < 174 → mR M' x y = mR M x y) : LedS M' b := by
  obtain ⟨h1, h2, h3, h4, h5, h6, h7, h8, h9, h10⟩ := h
  refine ⟨by omega, h2, fun j hj => ?_, ?_, ?_, ?_, ?_, ?_, ?_, ?_⟩
  · rw [hr _ _ (by omega), h3 j hj]
  · rw [hr _ _ (by omega), h4]
  · rw [hr _ _ (by omega), h5]
  · rw [hr _ _ (by omega), h6]
  · rw [hr _ _ (by omega), h7]
  · rw [hr _ _ (by omega), h8]
  · rw [hr _ _ (by omega), h9]
  · rw [hr _ _ (by omega), h10]
theorem BkS_g (h : BkS M) (hn : 174 ≤ mN M') (hr : ∀ x y, x < 174 → mR M' x y = mR M x y) : BkS M' := by
  obtain ⟨h1, h2, h3, h4, h5, h6, h7, h8, h9⟩ := h
  refine ⟨hn, LedS_g h2 (by omega) hn hr, LedS_g h3 (by omega) hn hr, fun j hj => LedS_g (h4 j hj) (by omega) hn hr, ?_, fun i hi => ?_, fun i k hi hk q => ?_, ?_, ?_⟩
  · rw [hr _ _ (by omega), h5]
  · rw [hr _ _ (by omega)]
    exact h6 i hi
  · rw [hr _ _ (by omega), hr _ _ (by omega)] at q
    exact h7 i k hi hk q
  · rw [hr _ _ (by omega), hr _ _ (by omega), hr _ _ (by omega), hr _ _ (by omega), hr _ _ (by omega), hr _ _ (by omega)]
    exact h8
  · rw [hr _ _ (by omega), hr _ _ (by omega)]
    exact h9
theorem WB_m (h : WB M) (hn : 174 ≤ mN M') (hr : ∀ x y, x < 174 → mR M' x y = mR M x y) (hi : ∀ x y, x < 174 → mI M' x y = mI M x y) : WB M' := by
  obtain ⟨hB, hD, hD2, hH, hT⟩ := h
  exact ⟨BkS_g hB hn hr, LedD_cg hD (fun y => hi _ _ (by omega)) (fun y => hi _ _ (by omega)) (fun y => hi _ _ (by omega)), LedD_cg hD2 (fun y => hi _ _ (by omega)) (fun y => hi _ _ (by omega)) (fun y => hi _ _ (by omega)), HisD_cg hH (fun x y h1 h2 => hi _ _ (by omega)), TxD_cg hT (hi _ _ (by omega))⟩
/-- a row taken over into a new one -/
def cz (w : Nat → Int32) : Nat → Int32 := cpW (fun _ => 0) w 64
theorem cz_lo {w : Nat → Int32} {k : Nat} (h : k < 64) : cz w k = w k := if_pos h
def cTr (T : Tr) : Tr := (cz T.1, cz T.2.1, cz T.2.2)
theorem RE_cz (h : TI T) : RE (tU (cTr T)) (tU T) := by
  have h21 := h.G21.2
  have h24 := h.D24.2
  refine ⟨fun i hi => Uw_ac (fun i hi => cz_lo hi) (show cz T.2.1 63 = T.2.1 63 from cz_lo (by omega)) (show cz T.2.2 63 = T.2.2 63 from cz_lo (by omega)) hi, fun q hq j hj => ?_, fun q hq j hj => ?_⟩
  · have hq' : q < wn T.2.1 := hq
    exact Uw_gc (by omega) (by omega) hj (cz_lo (by omega)) (cz_lo (by omega))
  · have hq' : q < wn T.2.2 := hq
    exact Uw_dc (by omega) (by omega) hj (cz_lo (by omega))
theorem TI_cz (h : TI T) : TI (cTr T) := by
  have h21 := h.G21.2
  obtain ⟨x1, x2, x3, x4, x5, x6, x7⟩ := h.2.1
  have e1 : aT (cz T.1) = aT T.1 := by
    unfold aT
    rw [cz_lo (by omega)]
  have e2 : wn (cz T.2.1) = wn T.2.1 := by
    unfold wn
    rw [cz_lo (by omega)]
  have e3 : wn (cz T.2.2) = wn T.2.2 := by
    unfold wn
    rw [cz_lo (by omega)]
  have eR := RE_cz h
  refine ⟨IV_re h.1 eR, ?_, ?_⟩
  · show LX (cz T.1) (cz T.2.1)
    unfold LX
    rw [e1, e2, cz_lo (by omega), cz_lo (by omega), cz_lo (by omega), cz_lo (by omega)]
    refine ⟨x1, x2, x3, x4, x5, fun j k hj hk => ?_, fun k hk => ?_⟩
    · rw [cz_lo (by omega), cz_lo (by omega)]
      exact x6 j k hj hk
    · rw [cz_lo (by omega)]
      exact x7 k hk
  · have e4 : kaU (tU (cTr T)) = kaU (tU T) := by
      show (cz T.1 48).toInt.toNat + wn (cz T.2.2) = (T.1 48).toInt.toNat + wn T.2.2
      rw [e3, cz_lo (by omega)]
    rw [e4]
    exact h.2.2
/-! the plan's answers -/
theorem plR_m1 (f : Nat → Nat → Int32) : plR f (-1) = nI (plK f) := by
  unfold plR
  rw [if_neg (by decide), if_pos rfl]
theorem plR_m2 (f : Nat → Nat → Int32) : plR f (-2) = -1000000 := if_pos (by decide)
theorem plM_m2 (M : Mem) : plM M (-2) = M := if_pos (by decide)
theorem nI_nm1 {i : Nat} (h : i < 2 ^ 31) : ¬ nI i < -1 := by
  rw [fa_lt', nI_toInt h, ti_m1]
  omega
theorem plR_lt {f : Nat → Nat → Int32} {i : Nat} (h : i < plK f) : plR f (nI i) = plG f 172 i := by
  have := plK_24 f
  unfold plR
  rw [if_neg (nI_nm1 (by omega)), if_neg (nI_m1 (by omega)), if_pos ((nI_ltI (by omega) (by omega)).mpr h), nI_clamp (by omega)]
theorem plR_ge {f : Nat → Nat → Int32} {i : Nat} (h : plK f ≤ i) (hi : i < 2 ^ 31) : plR f (nI i) = -1000003 := by
  have := plK_24 f
  unfold plR
  rw [if_neg (nI_nm1 hi), if_neg (nI_m1 hi), if_neg (fun q => by rw [nI_ltI hi (by omega)] at q; omega)]
theorem tr_eq {f : Nat → Nat → Int32} {a g y : Nat} (e1 : f a = T.1) (e2 : f g = T.2.1) (e3 : f y = T.2.2) : trF f a g y T = f := by
  unfold trF
  rw [← e1, rwF_self, ← e2, rwF_self, ← e3, rwF_self]
theorem gr_eq {f : Nat → Nat → Int32} {a g y : Nat} (h : a < g) (h2 : g < y) (e1 : f a = T.1) (e2 : f g = T.2.1) (e3 : f y = T.2.2) : grG f a g y k = trF f a g y (tG T k) := by
  have := tr_G (f := f) (T := T) (k := k) h h2
  rw [tr_eq e1 e2 e3] at this
  exact this
end Al
/-- what holds while the plan is gone through; T the rows as they have come -/
def PL (M : Mem) (T : Tr) (M1 : Mem) : Prop := mN M1 = mN M + 3 ∧ WB M1 ∧ RL (mI M1) 20 (UM M) ∧ rowsT M1 = rowsT M ∧ mI M1 (mN M) = T.1 ∧ mI M1 (mN M + 1) = T.2.1 ∧ mI M1 (mN M + 2) = T.2.2
theorem UM_T (M : Mem) : UM M = tU (rowsT M) := rfl
section Pl
variable {M M1 : Mem} {T T0 : Tr} {k : Nat}
theorem PL.pm (h : PL M T M1) (hn : 177 ≤ mN M) (i : Int32) : PL M T (plM M1 i) := by
  unfold plM
  by_cases q : i < -1
  · rw [if_pos q]
    exact h
  · rw [if_neg q]
    obtain ⟨h1, h2, h3, h4, h5, h6, h7⟩ := h
    have o : ∀ x, 173 < x → plG (mI M1) x = mI M1 x := fun x hx => funext fun y => plG_o (by omega) (by omega)
    refine ⟨h1, WB_pl h2, RL_fg h3 (fun i y hi => plG_o (by omega) (by omega)), ?_, (o _ (by omega)).trans h5, (o _ (by omega)).trans h6, (o _ (by omega)).trans h7⟩
    rw [← h4]
    show (plG (mI M1) 174, plG (mI M1) 175, plG (mI M1) 176) = (mI M1 174, mI M1 175, mI M1 176)
    rw [o _ (by omega), o _ (by omega), o _ (by omega)]
theorem PL.gr (h : PL M T M1) (hn : 177 ≤ mN M) : PL M (tG T k) (mW M1 (grG (mI M1) (mN M) (mN M + 1) (mN M + 2) k)) := by
  obtain ⟨h1, h2, h3, h4, h5, h6, h7⟩ := h
  rw [gr_eq (by omega) (by omega) h5 h6 h7]
  obtain ⟨x1, x2, x3⟩ := tr_a (f := mI M1) (T := tG T k) (a := mN M) (g := mN M + 1) (y := mN M + 2) (by omega) (by omega)
  have o : ∀ x, x < 177 → trF (mI M1) (mN M) (mN M + 1) (mN M + 2) (tG T k) x = mI M1 x := fun x hx => tr_o (by omega) (by omega) (by omega)
  refine ⟨h1, WB_g h2 (fun x y hx => by rw [o x (by omega)]), RL_fg h3 (fun i y hi => by rw [mI_mW, o _ (by omega)]), ?_, x1, x2, x3⟩
  rw [← h4]
  unfold rowsT
  rw [mI_mW, o _ (by omega), o _ (by omega), o _ (by omega)]
theorem PL.P (h : PL M T M1) (hP : PI_ M) : PI_ M1 := by
  have e0 : rowsT M1 = rowsT M := h.2.2.2.1
  have eU : UM M1 = UM M := by rw [UM_T, UM_T, e0]
  have e1 : mI M1 174 = mI M 174 := by
    have : (rowsT M1).1 = (rowsT M).1 := by rw [e0]
    exact this
  have e2 : mI M1 175 = mI M 175 := by
    have : (rowsT M1).2.1 = (rowsT M).2.1 := by rw [e0]
    exact this
  obtain ⟨p1, p2, p3, p4, p5, p6⟩ := hP
  unfold PI_ kaM
  rw [eU, e1, e2]
  exact ⟨h.2.1, h.2.2.1, p3, p4, by rw [h.1]; omega, p6⟩
theorem PL.tS (h : PL M T M1) (hP : PI_ M) (hT0 : TI T0) (hR : RE (tU T0) (UM M)) : ∃ n, plK (mI M1) = n ∧ tN (tS T0 n) = -1 ∧ ∀ q, q < n → ∃ k, k < wn (tS T0 q).2.2 ∧ k < 24 ∧ tN (tS T0 q) = nI k ∧ plG (mI M1) 172 q = owV ((tS T0 q).2.2 k) := pl_tS (RL_re h.2.2.1 hP.2.2.1.1 hR) hT0
end Pl
def C_W_isPlanned : List (Nat × Ent) := [(i_W_copies, e_W_copies), (i_W_next, e_W_next), (i_B_plan, e_B_plan), (i_W_grants, e_W_grants)]
abbrev S_W_isPlanned : List Nat := [50]
def t_W_isPlanned_131 : List PI := (131, 9, 1, 0, 0, 0, []) :: []
def t_W_isPlanned_130 : List PI := (130, 0, 0, 0, 0, 0, []) :: t_W_isPlanned_131
def t_W_isPlanned_126 : List PI := (126, 0, 0, 0, 0, 1, []) :: (127, 6, 0, 131, 0, 0, []) :: t_W_isPlanned_130
def t_W_isPlanned_121 : List PI := (121, 0, 0, 53, 3, -1000000, []) :: (123, 4, 1, 130, 0, 0, []) :: t_W_isPlanned_126
def t_W_isPlanned_115 : List PI := (115, 1, 1, 0, 0, 0, []) :: (116, 0, 0, 0, 1, -2, []) :: (118, 11, 0, 4, 71, 0, [111, 2]) :: t_W_isPlanned_121
def t_W_isPlanned_110 : List PI := (110, 0, 0, 49, 3, -1000003, []) :: (112, 4, 1, 130, 0, 0, []) :: t_W_isPlanned_115
def t_W_isPlanned_104 : List PI := (104, 1, 1, 0, 0, 0, []) :: (105, 1, 0, 7, 0, 0, []) :: (107, 11, 0, 4, 71, 0, [111, 2]) :: t_W_isPlanned_110
def t_W_isPlanned_99 : List PI := (99, 1, 0, 7, 0, 0, []) :: (101, 4, 1, 130, 0, 0, []) :: t_W_isPlanned_104
def t_W_isPlanned_94 : List PI := (94, 1, 1, 0, 0, 0, []) :: (95, 0, 0, 0, 0, -1, []) :: (96, 11, 0, 4, 71, 0, [111, 2]) :: t_W_isPlanned_99
def t_W_isPlanned_89 : List PI := (89, 1, 3, 8, 0, 0, []) :: (91, 6, 0, 50, 0, 0, []) :: t_W_isPlanned_94
def t_W_isPlanned_77 : List PI := (77, 1, 6, 7, 0, 1, []) :: (80, 1, 1, 4, 0, 0, []) :: (82, 1, 1, 5, 0, 0, []) :: (84, 1, 1, 6, 0, 0, []) :: (86, 11, 1, 0, 88, 0, [107, 3]) :: t_W_isPlanned_89
def t_W_isPlanned_75 : List PI := (75, 0, 0, 0, 0, 0, []) :: (76, 9, 1, 0, 0, 0, []) :: t_W_isPlanned_77
def t_W_isPlanned_72 : List PI := (72, 4, 0, 77, 0, 0, []) :: t_W_isPlanned_75
def t_W_isPlanned_61 : List PI := (61, 1, 1, 4, 0, 0, []) :: (63, 1, 1, 5, 0, 0, []) :: (65, 1, 1, 6, 0, 0, []) :: (67, 1, 0, 8, 0, 0, []) :: (69, 11, 1, 0, 90, 0, [114, 4]) :: t_W_isPlanned_72
def t_W_isPlanned_55 : List PI := (55, 1, 1, 0, 0, 0, []) :: (56, 1, 0, 7, 0, 0, []) :: (58, 11, 0, 4, 71, 0, [111, 2]) :: t_W_isPlanned_61
def t_W_isPlanned_50 : List PI := (50, 1, 0, 8, 0, 0, []) :: (52, 5, 2, 94, 0, 0, []) :: t_W_isPlanned_55
def t_W_isPlanned_48 : List PI := (48, 1, 3, 8, 0, 0, []) :: t_W_isPlanned_50
def t_W_isPlanned_36 : List PI := (36, 0, 0, 0, 0, 0, []) :: (37, 1, 3, 7, 0, 0, []) :: (39, 1, 1, 4, 0, 0, []) :: (41, 1, 1, 5, 0, 0, []) :: (43, 1, 1, 6, 0, 0, []) :: (45, 11, 1, 0, 88, 0, [107, 3]) :: t_W_isPlanned_48
def t_W_isPlanned_30 : List PI := (30, 1, 1, 3, 0, 0, []) :: (31, 1, 1, 6, 0, 0, []) :: (33, 11, 1, 0, 94, 0, [103, 2]) :: t_W_isPlanned_36
def t_W_isPlanned_24 : List PI := (24, 1, 1, 2, 0, 0, []) :: (25, 1, 1, 5, 0, 0, []) :: (27, 11, 1, 0, 94, 0, [103, 2]) :: t_W_isPlanned_30
def t_W_isPlanned_10 : List PI := (10, 1, 4, 5, 0, 0, []) :: (12, 0, 0, 0, 1, 64, []) :: (14, 10, 7, 0, 0, 0, []) :: (16, 1, 4, 6, 0, 0, []) :: (18, 1, 1, 1, 0, 0, []) :: (19, 1, 1, 4, 0, 0, []) :: (21, 11, 1, 0, 94, 0, [103, 2]) :: t_W_isPlanned_24
def t_W_isPlanned_0 : List PI := (0, 0, 0, 0, 1, 64, []) :: (2, 10, 7, 0, 0, 0, []) :: (4, 1, 4, 4, 0, 0, []) :: (6, 0, 0, 0, 1, 64, []) :: (8, 10, 7, 0, 0, 0, []) :: t_W_isPlanned_10
theorem kt_W_isPlanned : okP s_W_isPlanned t_W_isPlanned_0 := k_W_isPlanned
theorem g_W_isPlanned_0 {Z : Zt} {nF f : Nat} {Kx : Nat → Kt} {Q : Option Value → Mem → Prop} {M : Mem} {x1 : Nat} {x2 : Nat} {x3 : Nat} {x4 : Nat} : run Z nF C_W_isPlanned S_W_isPlanned Kx Q (f + 5) t_W_isPlanned_0 [some (.ref (x1)), some (.ref (x2)), some (.ref (x3)), some (.ref (x4)), none, none, none, none, none] [] M = (∃ n1 : Nat, (((nI 64)) = nI n1 ∧ kd (mN (M)) = (1, n1) ∧ n1 < 100000 ∧ mN (M) + 1 ≤ nF) ∧ ∃ n2 : Nat, (((nI 64)) = nI n2 ∧ kd (mN (al (M))) = (1, n2) ∧ n2 < 100000 ∧ mN (al (M)) + 1 ≤ nF) ∧ run Z nF C_W_isPlanned S_W_isPlanned Kx Q f t_W_isPlanned_10 [some (.ref (x1)), some (.ref (x2)), some (.ref (x3)), some (.ref (x4)), some (.ref (mN (M))), none, none, none, none] [.ref (mN (al (M)))] (al (al (M)))) := id rfl
theorem g_W_isPlanned_10 {Z : Zt} {nF f : Nat} {Kx : Nat → Kt} {Q : Option Value → Mem → Prop} {M : Mem} {x1 : Nat} {x2 : Nat} {x3 : Nat} {x4 : Nat} {x5 : Nat} {x6 : Nat} : run Z nF C_W_isPlanned S_W_isPlanned Kx Q (f + 7) t_W_isPlanned_10 [some (.ref (x1)), some (.ref (x2)), some (.ref (x3)), some (.ref (x4)), some (.ref (x5)), none, none, none, none] [.ref (x6)] M = (∃ n1 : Nat, (((nI 64)) = nI n1 ∧ kd (mN (M)) = (1, n1) ∧ n1 < 100000 ∧ mN (M) + 1 ≤ nF) ∧ ((True) ∧ wsum [] ≤ 8) ∧ pcall e_W_copies [.ref (x2), .ref (x5)] (al (M)) (fun v M_ => run Z nF C_W_isPlanned S_W_isPlanned Kx Q f t_W_isPlanned_24 [some (.ref (x1)), some (.ref (x2)), some (.ref (x3)), some (.ref (x4)), some (.ref (x5)), some (.ref (x6)), some (.ref (mN (M))), none, none] (v.toList ++ []) M_)) := id rfl
theorem g_W_isPlanned_24 {Z : Zt} {nF f : Nat} {Kx : Nat → Kt} {Q : Option Value → Mem → Prop} {M : Mem} {x1 : Nat} {x2 : Nat} {x3 : Nat} {x4 : Nat} {x5 : Nat} {x6 : Nat} {x7 : Nat} : run Z nF C_W_isPlanned S_W_isPlanned Kx Q (f + 3) t_W_isPlanned_24 [some (.ref (x1)), some (.ref (x2)), some (.ref (x3)), some (.ref (x4)), some (.ref (x5)), some (.ref (x6)), some (.ref (x7)), none, none] [] M = (((True) ∧ wsum [] ≤ 8) ∧ pcall e_W_copies [.ref (x3), .ref (x6)] (M) (fun v M_ => run Z nF C_W_isPlanned S_W_isPlanned Kx Q f t_W_isPlanned_30 [some (.ref (x1)), some (.ref (x2)), some (.ref (x3)), some (.ref (x4)), some (.ref (x5)), some (.ref (x6)), some (.ref (x7)), none, none] (v.toList ++ []) M_)) := id rfl
theorem g_W_isPlanned_30 {Z : Zt} {nF f : Nat} {Kx : Nat → Kt} {Q : Option Value → Mem → Prop} {M : Mem} {x1 : Nat} {x2 : Nat} {x3 : Nat} {x4 : Nat} {x5 : Nat} {x6 : Nat} {x7 : Nat} : run Z nF C_W_isPlanned S_W_isPlanned Kx Q (f + 3) t_W_isPlanned_30 [some (.ref (x1)), some (.ref (x2)), some (.ref (x3)), some (.ref (x4)), some (.ref (x5)), some (.ref (x6)), some (.ref (x7)), none, none] [] M = (((True) ∧ wsum [] ≤ 8) ∧ pcall e_W_copies [.ref (x4), .ref (x7)] (M) (fun v M_ => run Z nF C_W_isPlanned S_W_isPlanned Kx Q f t_W_isPlanned_36 [some (.ref (x1)), some (.ref (x2)), some (.ref (x3)), some (.ref (x4)), some (.ref (x5)), some (.ref (x6)), some (.ref (x7)), none, none] (v.toList ++ []) M_)) := id rfl
theorem g_W_isPlanned_36 {Z : Zt} {nF f : Nat} {Kx : Nat → Kt} {Q : Option Value → Mem → Prop} {M : Mem} {x1 : Nat} {x2 : Nat} {x3 : Nat} {x4 : Nat} {x5 : Nat} {x6 : Nat} {x7 : Nat} : run Z nF C_W_isPlanned S_W_isPlanned Kx Q (f + 6) t_W_isPlanned_36 [some (.ref (x1)), some (.ref (x2)), some (.ref (x3)), some (.ref (x4)), some (.ref (x5)), some (.ref (x6)), some (.ref (x7)), none, none] [] M = (((True) ∧ wsum [] ≤ 8) ∧ pcall e_W_next [.ref (x5), .ref (x6), .ref (x7)] (M) (fun v M_ => run Z nF C_W_isPlanned S_W_isPlanned Kx Q f t_W_isPlanned_48 [some (.ref (x1)), some (.ref (x2)), some (.ref (x3)), some (.ref (x4)), some (.ref (x5)), some (.ref (x6)), some (.ref (x7)), some (.int ((nI 0))), none] (v.toList ++ []) M_)) := id rfl
theorem g_W_isPlanned_48 {Z : Zt} {nF f : Nat} {Kx : Nat → Kt} {Q : Option Value → Mem → Prop} {M : Mem} {x1 : Nat} {x2 : Nat} {x3 : Nat} {x4 : Nat} {x5 : Nat} {x6 : Nat} {x7 : Nat} {x8 : Int32} {x9 : Int32} : run Z nF C_W_isPlanned S_W_isPlanned Kx Q (f + 1) t_W_isPlanned_48 [some (.ref (x1)), some (.ref (x2)), some (.ref (x3)), some (.ref (x4)), some (.ref (x5)), some (.ref (x6)), some (.ref (x7)), some (.int (x8)), none] [.int (x9)] M = (Kx 50 [some (.ref (x1)), some (.ref (x2)), some (.ref (x3)), some (.ref (x4)), some (.ref (x5)), some (.ref (x6)), some (.ref (x7)), some (.int (x8)), some (.int (x9))] [] (M)) := id rfl
theorem g_W_isPlanned_50 {Z : Zt} {nF f : Nat} {Kx : Nat → Kt} {Q : Option Value → Mem → Prop} {M : Mem} {x1 : Nat} {x2 : Nat} {x3 : Nat} {x4 : Nat} {x5 : Nat} {x6 : Nat} {x7 : Nat} {x8 : Int32} {x9 : Int32} : run Z nF C_W_isPlanned S_W_isPlanned Kx Q (f + 2) t_W_isPlanned_50 [some (.ref (x1)), some (.ref (x2)), some (.ref (x3)), some (.ref (x4)), some (.ref (x5)), some (.ref (x6)), some (.ref (x7)), some (.int (x8)), some (.int (x9))] [] M = ((if (x9) < nI 0 then run Z nF C_W_isPlanned S_W_isPlanned Kx Q f t_W_isPlanned_94 [some (.ref (x1)), some (.ref (x2)), some (.ref (x3)), some (.ref (x4)), some (.ref (x5)), some (.ref (x6)), some (.ref (x7)), some (.int (x8)), some (.int (x9))] [] (M) else run Z nF C_W_isPlanned S_W_isPlanned Kx Q f t_W_isPlanned_55 [some (.ref (x1)), some (.ref (x2)), some (.ref (x3)), some (.ref (x4)), some (.ref (x5)), some (.ref (x6)), some (.ref (x7)), some (.int (x8)), some (.int (x9))] [] (M))) := id rfl
theorem g_W_isPlanned_55 {Z : Zt} {nF f : Nat} {Kx : Nat → Kt} {Q : Option Value → Mem → Prop} {M : Mem} {x1 : Nat} {x2 : Nat} {x3 : Nat} {x4 : Nat} {x5 : Nat} {x6 : Nat} {x7 : Nat} {x8 : Int32} {x9 : Int32} : run Z nF C_W_isPlanned S_W_isPlanned Kx Q (f + 3) t_W_isPlanned_55 [some (.ref (x1)), some (.ref (x2)), some (.ref (x3)), some (.ref (x4)), some (.ref (x5)), some (.ref (x6)), some (.ref (x7)), some (.int (x8)), some (.int (x9))] [] M = (((isO (M) (x1) 4) ∧ wsum [] ≤ 8) ∧ pcall e_B_plan [.ref (x1), .int (x8)] (M) (fun v M_ => run Z nF C_W_isPlanned S_W_isPlanned Kx Q f t_W_isPlanned_61 [some (.ref (x1)), some (.ref (x2)), some (.ref (x3)), some (.ref (x4)), some (.ref (x5)), some (.ref (x6)), some (.ref (x7)), some (.int (x8)), some (.int (x9))] (v.toList ++ []) M_)) := id rfl
theorem g_W_isPlanned_61 {Z : Zt} {nF f : Nat} {Kx : Nat → Kt} {Q : Option Value → Mem → Prop} {M : Mem} {x1 : Nat} {x2 : Nat} {x3 : Nat} {x4 : Nat} {x5 : Nat} {x6 : Nat} {x7 : Nat} {x8 : Int32} {x9 : Int32} {x10 : Int32} : run Z nF C_W_isPlanned S_W_isPlanned Kx Q (f + 5) t_W_isPlanned_61 [some (.ref (x1)), some (.ref (x2)), some (.ref (x3)), some (.ref (x4)), some (.ref (x5)), some (.ref (x6)), some (.ref (x7)), some (.int (x8)), some (.int (x9))] [.int (x10)] M = (((True) ∧ wsum [.int (x10)] ≤ 8) ∧ pcall e_W_grants [.ref (x5), .ref (x6), .ref (x7), .int (x9)] (M) (fun v M_ => run Z nF C_W_isPlanned S_W_isPlanned Kx Q f t_W_isPlanned_72 [some (.ref (x1)), some (.ref (x2)), some (.ref (x3)), some (.ref (x4)), some (.ref (x5)), some (.ref (x6)), some (.ref (x7)), some (.int (x8)), some (.int (x9))] (v.toList ++ [.int (x10)]) M_)) := id rfl
theorem g_W_isPlanned_72 {Z : Zt} {nF f : Nat} {Kx : Nat → Kt} {Q : Option Value → Mem → Prop} {M : Mem} {x1 : Nat} {x2 : Nat} {x3 : Nat} {x4 : Nat} {x5 : Nat} {x6 : Nat} {x7 : Nat} {x8 : Int32} {x9 : Int32} {x10 : Int32} {x11 : Int32} : run Z nF C_W_isPlanned S_W_isPlanned Kx Q (f + 1) t_W_isPlanned_72 [some (.ref (x1)), some (.ref (x2)), some (.ref (x3)), some (.ref (x4)), some (.ref (x5)), some (.ref (x6)), some (.ref (x7)), some (.int (x8)), some (.int (x9))] [.int (x10), .int (x11)] M = ((if (x11) = (x10) then run Z nF C_W_isPlanned S_W_isPlanned Kx Q f t_W_isPlanned_77 [some (.ref (x1)), some (.ref (x2)), some (.ref (x3)), some (.ref (x4)), some (.ref (x5)), some (.ref (x6)), some (.ref (x7)), some (.int (x8)), some (.int (x9))] [] (M) else run Z nF C_W_isPlanned S_W_isPlanned Kx Q f t_W_isPlanned_75 [some (.ref (x1)), some (.ref (x2)), some (.ref (x3)), some (.ref (x4)), some (.ref (x5)), some (.ref (x6)), some (.ref (x7)), some (.int (x8)), some (.int (x9))] [] (M))) := id rfl
theorem g_W_isPlanned_75 {Z : Zt} {nF f : Nat} {Kx : Nat → Kt} {Q : Option Value → Mem → Prop} {M : Mem} {x1 : Nat} {x2 : Nat} {x3 : Nat} {x4 : Nat} {x5 : Nat} {x6 : Nat} {x7 : Nat} {x8 : Int32} {x9 : Int32} : run Z nF C_W_isPlanned S_W_isPlanned Kx Q (f + 2) t_W_isPlanned_75 [some (.ref (x1)), some (.ref (x2)), some (.ref (x3)), some (.ref (x4)), some (.ref (x5)), some (.ref (x6)), some (.ref (x7)), some (.int (x8)), some (.int (x9))] [] M = ((((nI 0)) = nI 0 ∨ ((nI 0)) = nI 1) ∧ Q (some (.int ((nI 0)))) (M)) := id rfl
theorem g_W_isPlanned_77 {Z : Zt} {nF f : Nat} {Kx : Nat → Kt} {Q : Option Value → Mem → Prop} {M : Mem} {x1 : Nat} {x2 : Nat} {x3 : Nat} {x4 : Nat} {x5 : Nat} {x6 : Nat} {x7 : Nat} {x8 : Int32} {x9 : Int32} : run Z nF C_W_isPlanned S_W_isPlanned Kx Q (f + 5) t_W_isPlanned_77 [some (.ref (x1)), some (.ref (x2)), some (.ref (x3)), some (.ref (x4)), some (.ref (x5)), some (.ref (x6)), some (.ref (x7)), some (.int (x8)), some (.int (x9))] [] M = (((True) ∧ wsum [] ≤ 8) ∧ pcall e_W_next [.ref (x5), .ref (x6), .ref (x7)] (M) (fun v M_ => run Z nF C_W_isPlanned S_W_isPlanned Kx Q f t_W_isPlanned_89 [some (.ref (x1)), some (.ref (x2)), some (.ref (x3)), some (.ref (x4)), some (.ref (x5)), some (.ref (x6)), some (.ref (x7)), some (.int (x8 + (nI 1))), some (.int (x9))] (v.toList ++ []) M_)) := id rfl
theorem g_W_isPlanned_89 {Z : Zt} {nF f : Nat} {Kx : Nat → Kt} {Q : Option Value → Mem → Prop} {M : Mem} {x1 : Nat} {x2 : Nat} {x3 : Nat} {x4 : Nat} {x5 : Nat} {x6 : Nat} {x7 : Nat} {x8 : Int32} {x9 : Int32} {x10 : Int32} : run Z nF C_W_isPlanned S_W_isPlanned Kx Q (f + 2) t_W_isPlanned_89 [some (.ref (x1)), some (.ref (x2)), some (.ref (x3)), some (.ref (x4)), some (.ref (x5)), some (.ref (x6)), some (.ref (x7)), some (.int (x8)), some (.int (x9))] [.int (x10)] M = (Kx 50 [some (.ref (x1)), some (.ref (x2)), some (.ref (x3)), some (.ref (x4)), some (.ref (x5)), some (.ref (x6)), some (.ref (x7)), some (.int (x8)), some (.int (x10))] [] (M)) := id rfl
theorem g_W_isPlanned_94 {Z : Zt} {nF f : Nat} {Kx : Nat → Kt} {Q : Option Value → Mem → Prop} {M : Mem} {x1 : Nat} {x2 : Nat} {x3 : Nat} {x4 : Nat} {x5 : Nat} {x6 : Nat} {x7 : Nat} {x8 : Int32} {x9 : Int32} : run Z nF C_W_isPlanned S_W_isPlanned Kx Q (f + 3) t_W_isPlanned_94 [some (.ref (x1)), some (.ref (x2)), some (.ref (x3)), some (.ref (x4)), some (.ref (x5)), some (.ref (x6)), some (.ref (x7)), some (.int (x8)), some (.int (x9))] [] M = (((isO (M) (x1) 4) ∧ wsum [] ≤ 8) ∧ pcall e_B_plan [.ref (x1), .int ((-1 : Int32))] (M) (fun v M_ => run Z nF C_W_isPlanned S_W_isPlanned Kx Q f t_W_isPlanned_99 [some (.ref (x1)), some (.ref (x2)), some (.ref (x3)), some (.ref (x4)), some (.ref (x5)), some (.ref (x6)), some (.ref (x7)), some (.int (x8)), some (.int (x9))] (v.toList ++ []) M_)) := id rfl
theorem g_W_isPlanned_99 {Z : Zt} {nF f : Nat} {Kx : Nat → Kt} {Q : Option Value → Mem → Prop} {M : Mem} {x1 : Nat} {x2 : Nat} {x3 : Nat} {x4 : Nat} {x5 : Nat} {x6 : Nat} {x7 : Nat} {x8 : Int32} {x9 : Int32} {x10 : Int32} : run Z nF C_W_isPlanned S_W_isPlanned Kx Q (f + 2) t_W_isPlanned_99 [some (.ref (x1)), some (.ref (x2)), some (.ref (x3)), some (.ref (x4)), some (.ref (x5)), some (.ref (x6)), some (.ref (x7)), some (.int (x8)), some (.int (x9))] [.int (x10)] M = ((if (x10) = (x8) then run Z nF C_W_isPlanned S_W_isPlanned Kx Q f t_W_isPlanned_104 [some (.ref (x1)), some (.ref (x2)), some (.ref (x3)), some (.ref (x4)), some (.ref (x5)), some (.ref (x6)), some (.ref (x7)), some (.int (x8)), some (.int (x9))] [] (M) else run Z nF C_W_isPlanned S_W_isPlanned Kx Q f t_W_isPlanned_130 [some (.ref (x1)), some (.ref (x2)), some (.ref (x3)), some (.ref (x4)), some (.ref (x5)), some (.ref (x6)), some (.ref (x7)), some (.int (x8)), some (.int (x9))] [] (M))) := id rfl
theorem g_W_isPlanned_104 {Z : Zt} {nF f : Nat} {Kx : Nat → Kt} {Q : Option Value → Mem → Prop} {M : Mem} {x1 : Nat} {x2 : Nat} {x3 : Nat} {x4 : Nat} {x5 : Nat} {x6 : Nat} {x7 : Nat} {x8 : Int32} {x9 : Int32} : run Z nF C_W_isPlanned S_W_isPlanned Kx Q (f + 3) t_W_isPlanned_104 [some (.ref (x1)), some (.ref (x2)), some (.ref (x3)), some (.ref (x4)), some (.ref (x5)), some (.ref (x6)), some (.ref (x7)), some (.int (x8)), some (.int (x9))] [] M = (((isO (M) (x1) 4) ∧ wsum [] ≤ 8) ∧ pcall e_B_plan [.ref (x1), .int (x8)] (M) (fun v M_ => run Z nF C_W_isPlanned S_W_isPlanned Kx Q f t_W_isPlanned_110 [some (.ref (x1)), some (.ref (x2)), some (.ref (x3)), some (.ref (x4)), some (.ref (x5)), some (.ref (x6)), some (.ref (x7)), some (.int (x8)), some (.int (x9))] (v.toList ++ []) M_)) := id rfl
theorem g_W_isPlanned_110 {Z : Zt} {nF f : Nat} {Kx : Nat → Kt} {Q : Option Value → Mem → Prop} {M : Mem} {x1 : Nat} {x2 : Nat} {x3 : Nat} {x4 : Nat} {x5 : Nat} {x6 : Nat} {x7 : Nat} {x8 : Int32} {x9 : Int32} {x10 : Int32} : run Z nF C_W_isPlanned S_W_isPlanned Kx Q (f + 2) t_W_isPlanned_110 [some (.ref (x1)), some (.ref (x2)), some (.ref (x3)), some (.ref (x4)), some (.ref (x5)), some (.ref (x6)), some (.ref (x7)), some (.int (x8)), some (.int (x9))] [.int (x10)] M = ((if (x10) = ((-1000003 : Int32)) then run Z nF C_W_isPlanned S_W_isPlanned Kx Q f t_W_isPlanned_115 [some (.ref (x1)), some (.ref (x2)), some (.ref (x3)), some (.ref (x4)), some (.ref (x5)), some (.ref (x6)), some (.ref (x7)), some (.int (x8)), some (.int (x9))] [] (M) else run Z nF C_W_isPlanned S_W_isPlanned Kx Q f t_W_isPlanned_130 [some (.ref (x1)), some (.ref (x2)), some (.ref (x3)), some (.ref (x4)), some (.ref (x5)), some (.ref (x6)), some (.ref (x7)), some (.int (x8)), some (.int (x9))] [] (M))) := id rfl
theorem g_W_isPlanned_115 {Z : Zt} {nF f : Nat} {Kx : Nat → Kt} {Q : Option Value → Mem → Prop} {M : Mem} {x1 : Nat} {x2 : Nat} {x3 : Nat} {x4 : Nat} {x5 : Nat} {x6 : Nat} {x7 : Nat} {x8 : Int32} {x9 : Int32} : run Z nF C_W_isPlanned S_W_isPlanned Kx Q (f + 3) t_W_isPlanned_115 [some (.ref (x1)), some (.ref (x2)), some (.ref (x3)), some (.ref (x4)), some (.ref (x5)), some (.ref (x6)), some (.ref (x7)), some (.int (x8)), some (.int (x9))] [] M = (((isO (M) (x1) 4) ∧ wsum [] ≤ 8) ∧ pcall e_B_plan [.ref (x1), .int ((-2 : Int32))] (M) (fun v M_ => run Z nF C_W_isPlanned S_W_isPlanned Kx Q f t_W_isPlanned_121 [some (.ref (x1)), some (.ref (x2)), some (.ref (x3)), some (.ref (x4)), some (.ref (x5)), some (.ref (x6)), some (.ref (x7)), some (.int (x8)), some (.int (x9))] (v.toList ++ []) M_)) := id rfl
theorem g_W_isPlanned_121 {Z : Zt} {nF f : Nat} {Kx : Nat → Kt} {Q : Option Value → Mem → Prop} {M : Mem} {x1 : Nat} {x2 : Nat} {x3 : Nat} {x4 : Nat} {x5 : Nat} {x6 : Nat} {x7 : Nat} {x8 : Int32} {x9 : Int32} {x10 : Int32} : run Z nF C_W_isPlanned S_W_isPlanned Kx Q (f + 2) t_W_isPlanned_121 [some (.ref (x1)), some (.ref (x2)), some (.ref (x3)), some (.ref (x4)), some (.ref (x5)), some (.ref (x6)), some (.ref (x7)), some (.int (x8)), some (.int (x9))] [.int (x10)] M = ((if (x10) = ((-1000000 : Int32)) then run Z nF C_W_isPlanned S_W_isPlanned Kx Q f t_W_isPlanned_126 [some (.ref (x1)), some (.ref (x2)), some (.ref (x3)), some (.ref (x4)), some (.ref (x5)), some (.ref (x6)), some (.ref (x7)), some (.int (x8)), some (.int (x9))] [] (M) else run Z nF C_W_isPlanned S_W_isPlanned Kx Q f t_W_isPlanned_130 [some (.ref (x1)), some (.ref (x2)), some (.ref (x3)), some (.ref (x4)), some (.ref (x5)), some (.ref (x6)), some (.ref (x7)), some (.int (x8)), some (.int (x9))] [] (M))) := id rfl
theorem g_W_isPlanned_126 {Z : Zt} {nF f : Nat} {Kx : Nat → Kt} {Q : Option Value → Mem → Prop} {M : Mem} {x1 : Nat} {x2 : Nat} {x3 : Nat} {x4 : Nat} {x5 : Nat} {x6 : Nat} {x7 : Nat} {x8 : Int32} {x9 : Int32} : run Z nF C_W_isPlanned S_W_isPlanned Kx Q (f + 2) t_W_isPlanned_126 [some (.ref (x1)), some (.ref (x2)), some (.ref (x3)), some (.ref (x4)), some (.ref (x5)), some (.ref (x6)), some (.ref (x7)), some (.int (x8)), some (.int (x9))] [] M = (run Z nF C_W_isPlanned S_W_isPlanned Kx Q f t_W_isPlanned_131 [some (.ref (x1)), some (.ref (x2)), some (.ref (x3)), some (.ref (x4)), some (.ref (x5)), some (.ref (x6)), some (.ref (x7)), some (.int (x8)), some (.int (x9))] [.int ((nI 1))] (M)) := id rfl
theorem g_W_isPlanned_130 {Z : Zt} {nF f : Nat} {Kx : Nat → Kt} {Q : Option Value → Mem → Prop} {M : Mem} {x1 : Nat} {x2 : Nat} {x3 : Nat} {x4 : Nat} {x5 : Nat} {x6 : Nat} {x7 : Nat} {x8 : Int32} {x9 : Int32} : run Z nF C_W_isPlanned S_W_isPlanned Kx Q (f + 1) t_W_isPlanned_130 [some (.ref (x1)), some (.ref (x2)), some (.ref (x3)), some (.ref (x4)), some (.ref (x5)), some (.ref (x6)), some (.ref (x7)), some (.int (x8)), some (.int (x9))] [] M = (run Z nF C_W_isPlanned S_W_isPlanned Kx Q f t_W_isPlanned_131 [some (.ref (x1)), some (.ref (x2)), some (.ref (x3)), some (.ref (x4)), some (.ref (x5)), some (.ref (x6)), some (.ref (x7)), some (.int (x8)), some (.int (x9))] [.int ((nI 0))] (M)) := id rfl
theorem g_W_isPlanned_131 {Z : Zt} {nF f : Nat} {Kx : Nat → Kt} {Q : Option Value → Mem → Prop} {M : Mem} {x1 : Nat} {x2 : Nat} {x3 : Nat} {x4 : Nat} {x5 : Nat} {x6 : Nat} {x7 : Nat} {x8 : Int32} {x9 : Int32} {x10 : Int32} : run Z nF C_W_isPlanned S_W_isPlanned Kx Q (f + 1) t_W_isPlanned_131 [some (.ref (x1)), some (.ref (x2)), some (.ref (x3)), some (.ref (x4)), some (.ref (x5)), some (.ref (x6)), some (.ref (x7)), some (.int (x8)), some (.int (x9))] [.int (x10)] M = (((x10) = nI 0 ∨ (x10) = nI 1) ∧ Q (some (.int (x10))) (M)) := id rfl
def QP (M : Mem) (r : Option Value) (M' : Mem) : Prop := r = some (.int (nI 1)) ∧ mN M' = mN M + 3 ∧ PI_ M' ∧ rowsT M' = rowsT M
set_option maxRecDepth 100000 in
set_option maxHeartbeats 4000000 in
theorem lp_50_isPlanned (Z : Zt) (d : Nat) {M : Mem} {T0 : Tr} (hP : PI_ M) (hN : mN M + 3 ≤ 225) (hT0 : TI T0) (hR : RE (tU T0) (UM M)) : ∀ m i M1, PL M (tS T0 i) M1 → TI (tS T0 i) → wn (tS T0 i).2.2 ≤ m → (∀ q, q < i → ∃ k, k < 100 ∧ tN (tS T0 q) = nI k) → i + m ≤ 100 → X Z (d + 8) s_W_isPlanned (mN M) (mN M + 3) (QP M) 50 [some (.ref 16), some (.ref 174), some (.ref 175), some (.ref 176), some (.ref (mN M)), some (.ref (mN M + 1)), some (.ref (mN M + 2)), some (.int (nI i)), some (.int (tN (tS T0 i)))] [] M1 := by
  have hn := hP.2.2.2.2.1
  have q1 := eq_true m1_n0
  have hpl : ∀ {M1 : Mem} {i : Int32} {K : Option Value → Mem → Prop}, WB M1 → pcall e_B_plan [.ref 16, .int i] M1 K = K (some (.int (plR (mI M1) i))) (plM M1 i) := fun {M1 i K} hW => pc_B_plan (o := 16) ⟨rfl, hW⟩
  have fin : ∀ i M1, i ≤ 100 → PL M (tS T0 i) M1 → TI (tS T0 i) → tN (tS T0 i) = -1 → (∀ q, q < i → ∃ k, k < 100 ∧ tN (tS T0 q) = nI k) → X Z (d + 8) s_W_isPlanned (mN M) (mN M + 3) (QP M) 50 [some (.ref 16), some (.ref 174), some (.ref 175), some (.ref 176), some (.ref (mN M)), some (.ref (mN M + 1)), some (.ref (mN M + 2)), some (.int (nI i)), some (.int (tN (tS T0 i)))] [] M1 := fun i M1 hi hL hI e hq => by
    obtain ⟨n, a1, a2, a3⟩ := hL.tS hP hT0 hR
    have hni : n = i := tS_uni a2 (fun q hq2 => by
      obtain ⟨k, -, hk, e2, -⟩ := a3 q hq2
      exact ⟨k, by omega, e2⟩) e hq
    have s1 := hpl (i := -1) (K := fun _ _ => True) hL.2.1
    have hL2 := hL.pm hn (-1)
    have c1 : ∀ {K : Option Value → Mem → Prop}, pcall e_B_plan [.ref 16, .int (-1)] M1 K = K (some (.int (nI i))) (plM M1 (-1)) := fun {K} => by rw [hpl hL.2.1, plR_m1, a1, hni]
    generalize plM M1 (-1) = M2 at *
    obtain ⟨n2, b1, b2, b3⟩ := hL2.tS hP hT0 hR
    have hni2 : n2 = i := tS_uni b2 (fun q hq2 => by
      obtain ⟨k, -, hk, e2, -⟩ := b3 q hq2
      exact ⟨k, by omega, e2⟩) e hq
    have hL3 := hL2.pm hn (nI i)
    have c2 : ∀ {K : Option Value → Mem → Prop}, pcall e_B_plan [.ref 16, .int (nI i)] M2 K = K (some (.int (-1000003))) (plM M2 (nI i)) := fun {K} => by rw [hpl hL2.2.1, plR_ge (by omega) (by omega)]
    generalize plM M2 (nI i) = M3 at *
    have c3 : ∀ {K : Option Value → Mem → Prop}, pcall e_B_plan [.ref 16, .int (-2)] M3 K = K (some (.int (-1000000))) M3 := fun {K} => by rw [hpl hL3.2.1, plR_m2, plM_m2]
    have hB1 := hL.2.1.1
    have hB2 := hL2.2.1.1
    have hB3 := hL3.2.1.1
    have hS : QP M (some (.int (nI 1))) M3 := ⟨rfl, hL3.1, hL3.P hP, hL3.2.2.2.1⟩
    rw [e]
    refine X_runT (C := C_W_isPlanned) (S := S_W_isPlanned) (T := t_W_isPlanned_50) 1000 kt_W_isPlanned (okE_cons (ok_W_copies Z (d + 6)) (okE_cons (ok_W_next Z (d + 3)) (okE_cons (ok_B_plan Z d) (okE_cons (ok_W_grants Z (d + 5)) okE_nil)))) ?_
    simp (maxSteps := 3000000) (disch := first | exact True.intro | assumption | omega) only [↓eq_self, Option.toList_some, Option.toList_none, List.nil_append, List.cons_append, wsum_0, wsum_1, wsum_2, wsum_3, wsum_4, lkill, ↓reduceIte, if_true, if_false, Bool.false_eq_true, and_true, true_and, and_self, or_self, true_or, or_true, not_true, not_false_iff, mR_stI, mN_stI, isO_stI, isA_stI, mI_stI, mR_mW, mN_mW, isO_mW, isA_mW, mI_mW, mW_mW, stI_mW, vp_0, nI_add, nI_ltI, nI_leI, nI_eq, vpi, nI_clamp, nI_toN, nI_geT, pk_mul, pk_sub, bv_0n, bv_1n, ↓bv_01n, n01a, n01b, Nat.reduceSub, Nat.reduceAdd, Nat.reduceMul, u2_rw, rw_rw, rw_at, rw_ne, up_at, up_ne, Nat.zero_add, Nat.add_zero, lw_mW, m1_lt0, ite_nt, ↓g_W_isPlanned_50, ↓g_W_isPlanned_94, ↓g_W_isPlanned_99, ↓g_W_isPlanned_104, ↓g_W_isPlanned_110, ↓g_W_isPlanned_115, ↓g_W_isPlanned_121, ↓g_W_isPlanned_126, ↓g_W_isPlanned_130, ↓g_W_isPlanned_131, bk_oB hB1, bk_oB hB2, bk_oB hB3, c1, c2, c3, q1]
    exact hS
  intro m
  induction m with
  | zero =>
    intro i M1 hL hI hm hq hb
    rcases tN_cases (tS T0 i) with e | ⟨k, hk, -⟩
    · exact fin i M1 (by omega) hL hI e hq
    · omega
  | succ m ih =>
    intro i M1 hL hI hm hq hb
    rcases tN_cases (tS T0 i) with e | ⟨k, hk, e⟩
    · exact fin i M1 (by omega) hL hI e hq
    · have h24 := hI.D24.2
      have es := tS_s (T := T0) (n := i) e (by omega)
      obtain ⟨g1, g2, g3, g4⟩ := TI_G hI hk
      have n0 := eq_false (nI_nn (k := k) (by omega))
      obtain ⟨n, a1, a2, a3⟩ := hL.tS hP hT0 hR
      have hin : i < n := by
        rcases Nat.lt_or_ge i n with z | z
        · exact z
        · exfalso
          by_cases y : n = i
          · rw [y, e] at a2
            exact nI_m1 (by omega) a2
          · obtain ⟨k2, hk2, e2⟩ := hq n (by omega)
            rw [a2] at e2
            exact nI_m1 (by omega) e2.symm
      obtain ⟨k3, -, hk3, e3, e4⟩ := a3 i hin
      have ek : k3 = k := by
        rw [e, nI_eq (by omega) (by omega)] at e3
        exact e3.symm
      subst ek
      have hL2 := hL.pm hn (nI i)
      have c1 : ∀ {K : Option Value → Mem → Prop}, pcall e_B_plan [.ref 16, .int (nI i)] M1 K = K (some (.int (owV ((tS T0 i).2.2 k3)))) (plM M1 (nI i)) := fun {K} => by rw [hpl hL.2.1, plR_lt (by omega), e4]
      generalize plM M1 (nI i) = M2 at *
      have hl : ∀ {M3 : Mem} {x : Nat}, mN M3 = mN M + 3 → mN M ≤ x → x < mN M + 3 → Lw M3 x := fun {M3 x} h1 h2 h3 => ⟨by omega, kd_L (by omega) (by omega)⟩
      have hL3 := hL2.gr (k := k3) hn
      have c2 : ∀ {K : Option Value → Mem → Prop}, pcall e_W_grants [.ref (mN M), .ref (mN M + 1), .ref (mN M + 2), .int (nI k3)] M2 K = K (some (.int (owV ((tS T0 i).2.2 k3)))) (mW M2 (grG (mI M2) (mN M) (mN M + 1) (mN M + 2) k3)) := pc_grants_T (T := tS T0 i) (hl hL2.1 (by omega) (by omega)) (hl hL2.1 (by omega) (by omega)) (hl hL2.1 (by omega) (by omega)) (by omega) (by omega) hL2.2.2.2.2.2.1 hL2.2.2.2.2.2.2 hI hk
      rw [← es] at hL3
      generalize mW M2 (grG (mI M2) (mN M) (mN M + 1) (mN M + 2) k3) = M3 at *
      have hI2 : TI (tS T0 (i + 1)) := by rw [es]; exact g1
      have c3 : ∀ {K : Option Value → Mem → Prop}, pcall e_W_next [.ref (mN M), .ref (mN M + 1), .ref (mN M + 2)] M3 K = K (some (.int (tN (tS T0 (i + 1))))) M3 := pc_next_T (T := tS T0 (i + 1)) (hl hL3.1 (by omega) (by omega)) (hl hL3.1 (by omega) (by omega)) (hl hL3.1 (by omega) (by omega)) hL3.2.2.2.2.1 hL3.2.2.2.2.2.1 hL3.2.2.2.2.2.2 hI2
      have hy := ih (i + 1) M3 hL3 hI2 (by rw [es, g3]; omega) (fun j hj => by
        by_cases z : j = i
        · rw [z]
          exact ⟨k3, by omega, e⟩
        · exact hq j (by omega)) (by omega)
      have hB1 := hL.2.1.1
      rw [e]
      refine X_runT (C := C_W_isPlanned) (S := S_W_isPlanned) (T := t_W_isPlanned_50) 1000 kt_W_isPlanned (okE_cons (ok_W_copies Z (d + 6)) (okE_cons (ok_W_next Z (d + 3)) (okE_cons (ok_B_plan Z d) (okE_cons (ok_W_grants Z (d + 5)) okE_nil)))) ?_
      simp (maxSteps := 3000000) (disch := first | exact True.intro | assumption | omega) only [↓eq_self, Option.toList_some, Option.toList_none, List.nil_append, List.cons_append, wsum_0, wsum_1, wsum_2, wsum_3, wsum_4, lkill, ↓reduceIte, if_true, if_false, Bool.false_eq_true, and_true, true_and, and_self, or_self, true_or, or_true, not_true, not_false_iff, mR_stI, mN_stI, isO_stI, isA_stI, mI_stI, mR_mW, mN_mW, isO_mW, isA_mW, mI_mW, mW_mW, stI_mW, vp_0, nI_add, nI_ltI, nI_leI, nI_eq, vpi, nI_clamp, nI_toN, nI_geT, pk_mul, pk_sub, bv_0n, bv_1n, ↓bv_01n, n01a, n01b, Nat.reduceSub, Nat.reduceAdd, Nat.reduceMul, u2_rw, rw_rw, rw_at, rw_ne, up_at, up_ne, Nat.zero_add, Nat.add_zero, lw_mW, m1_lt0, ite_nt, ↓g_W_isPlanned_50, ↓g_W_isPlanned_55, ↓g_W_isPlanned_61, ↓g_W_isPlanned_72, ↓g_W_isPlanned_75, ↓g_W_isPlanned_77, ↓g_W_isPlanned_89, bk_oB hB1, c1, c2, c3, n0]
      exact hy
set_option maxRecDepth 100000 in
set_option maxHeartbeats 4000000 in
theorem gm_isPlanned (Z : Zt) (d : Nat) {M : Mem} (hP : PI_ M) (hN : mN M + 3 ≤ 225) : GmA Z (d + 8) s_W_isPlanned [.ref 16, .ref 174, .ref 175, .ref 176] M (mN M + 3) (QP M) := by
  have hn := hP.2.2.2.2.1
  have hT := hP.TI_
  have hT0 := TI_cz hT
  have hA : ∀ x y, x < mN M → mI (al (al (al M))) x y = mI M x y := fun x y hx => by
    rw [mI_al, if_neg (by rw [mN_al, mN_al]; omega), mI_al, if_neg (by rw [mN_al]; omega), mI_al, if_neg (by omega)]
  have hAr : ∀ x y, x < mN M → mR (al (al (al M))) x y = mR M x y := fun x y hx => by
    rw [mR_al, if_neg (by rw [mN_al, mN_al]; omega), mR_al, if_neg (by rw [mN_al]; omega), mR_al, if_neg (by omega)]
  have hz : ∀ x y, mN M ≤ x → x < mN M + 3 → mI (al (al (al M))) x y = 0 := fun x y h1 h2 => by
    rw [mI_al]
    by_cases z : x = mN (al (al M))
    · rw [if_pos z]
    · rw [if_neg z, mI_al]
      by_cases z2 : x = mN (al M)
      · rw [if_pos z2]
      · rw [if_neg z2, mI_al, if_pos (by rw [mN_al, mN_al] at z; rw [mN_al] at z2; omega)]
  have hAN : mN (al (al (al M))) = mN M + 3 := rfl
  have hl : ∀ {f : Nat → Nat → Int32} {x : Nat}, 174 ≤ x → x < mN M + 3 → Lw (mW (al (al (al M))) f) x := fun {f x} h1 h2 => ⟨by show x < mN (al (al (al M))); omega, kd_L (by omega) (by omega)⟩
  have hA3 : mW (al (al (al M))) (mI (al (al (al M)))) = al (al (al M)) := rfl
  have k0 : kd (mN M) = (1, 64) := kd_L (by omega) (by omega)
  have k1 : kd (mN (al M)) = (1, 64) := kd_L (by rw [mN_al]; omega) (by rw [mN_al]; omega)
  have k2 : kd (mN (al (al M))) = (1, 64) := kd_L (by rw [mN_al, mN_al]; omega) (by rw [mN_al, mN_al]; omega)
  refine Gm_mk (C := C_W_isPlanned) (S := S_W_isPlanned) [some (.ref 16), some (.ref 174), some (.ref 175), some (.ref 176), none, none, none, none, none] 1000 kt_W_isPlanned (okE_cons (ok_W_copies Z (d + 6)) (okE_cons (ok_W_next Z (d + 3)) (okE_cons (ok_B_plan Z d) (okE_cons (ok_W_grants Z (d + 5)) okE_nil)))) (fun r M' q => q.2.1) (by omega) ?_
  rw [g_W_isPlanned_0]
  refine ⟨64, ⟨rfl, k0, by omega, by omega⟩, 64, ⟨rfl, k1, by omega, by rw [mN_al]; omega⟩, ?_⟩
  rw [g_W_isPlanned_10]
  refine ⟨64, ⟨rfl, k2, by omega, by rw [mN_al, mN_al]; omega⟩, ⟨trivial, of_eq_true wsum_0⟩, ?_⟩
  have e1 := rw_ne (f := mI (al (al (al M)))) (a := mN M) (x := 175) (u := cpW (mI (al (al (al M))) (mN M)) (mI (al (al (al M))) 174) 64) (by omega)
  have p1 : ∀ {K : Option Value → Mem → Prop}, pcall e_W_copies [.ref 174, .ref (mN M)] (al (al (al M))) K = K none (mW (al (al (al M))) (rwF (mI (al (al (al M)))) (mN M) (cz (mI M 174)))) := fun {K} => by
    have := pc_W_copies (a := 174) (b := mN M) (M := mW (al (al (al M))) (mI (al (al (al M))))) (K := K) ⟨hl (by omega) (by omega), hl (by omega) (by omega), by omega⟩
    rw [hA3] at this
    rw [this, show mI (al (al (al M))) (mN M) = fun _ => 0 from funext fun y => hz _ y (by omega) (by omega), show mI (al (al (al M))) 174 = mI M 174 from funext fun y => hA _ y (by omega)]
    rfl
  have p2 : ∀ {f : Nat → Nat → Int32} {K : Option Value → Mem → Prop}, f (mN M + 1) = (fun _ => 0) → f 175 = mI M 175 → pcall e_W_copies [.ref 175, .ref (mN M + 1)] (mW (al (al (al M))) f) K = K none (mW (al (al (al M))) (rwF f (mN M + 1) (cz (mI M 175)))) := fun {f K} h1 h2 => by
    rw [pc_W_copies (a := 175) (b := mN M + 1) (M := mW (al (al (al M))) f) (K := K) ⟨hl (by omega) (by omega), hl (by omega) (by omega), by omega⟩, mI_mW, h1, h2, mW_mW]
    rfl
  have p3 : ∀ {f : Nat → Nat → Int32} {K : Option Value → Mem → Prop}, f (mN M + 2) = (fun _ => 0) → f 176 = mI M 176 → pcall e_W_copies [.ref 176, .ref (mN M + 2)] (mW (al (al (al M))) f) K = K none (mW (al (al (al M))) (rwF f (mN M + 2) (cz (mI M 176)))) := fun {f K} h1 h2 => by
    rw [pc_W_copies (a := 176) (b := mN M + 2) (M := mW (al (al (al M))) f) (K := K) ⟨hl (by omega) (by omega), hl (by omega) (by omega), by omega⟩, mI_mW, h1, h2, mW_mW]
    rfl
  show pcall e_W_copies [.ref 174, .ref (mN M)] (al (al (al M))) _
  rw [p1]
  have fuel : True := trivial
  have st2 : Option.toList (none : Option Value) ++ ([] : List Value) = [] := rfl
  simp only [st2]
  rw [g_W_isPlanned_24]
  refine ⟨⟨trivial, of_eq_true wsum_0⟩, ?_⟩
  show pcall e_W_copies [.ref 175, .ref (mN M + 1)] _ _
  rw [p2 (by rw [rw_ne (by omega)]; exact funext fun y => hz _ y (by omega) (by omega)) (by rw [rw_ne (by omega)]; exact funext fun y => hA _ y (by omega))]
  simp only [st2]
  rw [g_W_isPlanned_30]
  refine ⟨⟨trivial, of_eq_true wsum_0⟩, ?_⟩
  show pcall e_W_copies [.ref 176, .ref (mN M + 2)] _ _
  rw [p3 (by rw [rw_ne (by omega), rw_ne (by omega)]; exact funext fun y => hz _ y (by omega) (by omega)) (by rw [rw_ne (by omega), rw_ne (by omega)]; exact funext fun y => hA _ y (by omega))]
  simp only [st2]
  rw [g_W_isPlanned_36]
  refine ⟨⟨trivial, of_eq_true wsum_0⟩, ?_⟩
  have hPL : PL M (cTr (rowsT M)) (mW (al (al (al M))) (rwF (rwF (rwF (mI (al (al (al M)))) (mN M) (cz (mI M 174))) (mN M + 1) (cz (mI M 175))) (mN M + 2) (cz (mI M 176)))) := by
    have o : ∀ x, x < mN M → rwF (rwF (rwF (mI (al (al (al M)))) (mN M) (cz (mI M 174))) (mN M + 1) (cz (mI M 175))) (mN M + 2) (cz (mI M 176)) x = mI M x := fun x hx => by
      rw [rw_ne (by omega), rw_ne (by omega), rw_ne (by omega)]
      exact funext fun y => hA x y hx
    refine ⟨hAN, WB_m hP.1 (by rw [mN_mW, hAN]; omega) (fun x y hx => hAr x y (by omega)) (fun x y hx => by rw [mI_mW, o x (by omega)]), RL_fg hP.2.1 (fun i y hi => by rw [mI_mW, o _ (by omega)]), ?_, ?_, ?_, ?_⟩
    · unfold rowsT
      rw [mI_mW, o _ (by omega), o _ (by omega), o _ (by omega)]
    · rw [mI_mW, rw_ne (by omega), rw_ne (by omega), rw_at]
      rfl
    · rw [mI_mW, rw_ne (by omega), rw_at]
      rfl
    · rw [mI_mW, rw_at]
      rfl
  generalize mW (al (al (al M))) (rwF (rwF (rwF (mI (al (al (al M)))) (mN M) (cz (mI M 174))) (mN M + 1) (cz (mI M 175))) (mN M + 2) (cz (mI M 176))) = M1 at *
  have hl1 : ∀ {x : Nat}, 174 ≤ x → x < mN M + 3 → Lw M1 x := fun {x} h1 h2 => ⟨by rw [hPL.1]; exact h2, kd_L (by omega) (by omega)⟩
  have hx : ∀ {K : Option Value → Mem → Prop}, pcall e_W_next [.ref (mN M), .ref (mN M + 1), .ref (mN M + 2)] M1 K = K (some (.int (tN (cTr (rowsT M))))) M1 := pc_next_T (T := cTr (rowsT M)) (hl1 (by omega) (by omega)) (hl1 (by omega) (by omega)) (hl1 (by omega) (by omega)) hPL.2.2.2.2.1 hPL.2.2.2.2.2.1 hPL.2.2.2.2.2.2 hT0
  show pcall e_W_next [.ref (mN M), .ref (mN M + 1), .ref (mN M + 2)] _ _
  rw [hx]
  show run Z _ C_W_isPlanned S_W_isPlanned _ _ _ t_W_isPlanned_48 _ [.int (tN (cTr (rowsT M)))] M1
  rw [g_W_isPlanned_48]
  exact lp_50_isPlanned Z d hP hN hT0 (RE_cz hT) 24 0 M1 hPL hT0 hT0.D24.2 (fun q hq => absurd hq (Nat.not_lt_zero _)) (by omega)
