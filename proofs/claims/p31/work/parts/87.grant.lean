/-! ===== grants, one and all ===== -/
def rowsT (M : Mem) : Tr := (mI M 174, mI M 175, mI M 176)
def trM (M : Mem) (T : Tr) : Mem := mW M (trF (mI M) 174 175 176 T)
section Gr
variable {M M2 : Mem} {c k : Nat} {w : Nat → Int32} {T T' T0 : Tr}
theorem PI_.TI_ (h : PI_ M) : TI (rowsT M) := ⟨h.2.2.1, h.2.2.2.1, h.2.2.2.2.2⟩
theorem PI_T (h2 : CU M2 c w) (hR : RE (tU T) w) (e : rowsT M2 = T) (hT : TI T) (hn : 177 ≤ mN M2) : PI_ M2 := by
  subst e
  exact ⟨h2.1, RL_re h2.2.1 h2.2.2.1 hR, hT.1, hT.2.1, hn, hT.2.2⟩
theorem St_T {kk jj : Nat} (hP : PI_ M) (e0 : rowsT M = T0) (h2 : CU M2 c w) (hR : RE (tU T) w) (e : rowsT M2 = T) (hT : TI T) (hn : mN M2 = mN M) (hk : kaU (tU T) ≤ kaU (tU T0) + kk) (ha : aT T.1 = aT T0.1 + jj) : StQ kk jj M (some (.int (nI 1))) M2 := by
  have hp := PI_T h2 hR e hT (by rw [hn]; exact hP.2.2.2.2.1)
  subst e0
  subst e
  exact ⟨rfl, hn, hp, hk, ha⟩
theorem trM_rows (M : Mem) (T : Tr) : rowsT (trM M T) = T := by
  obtain ⟨e1, e2, e3⟩ := tr_a (f := mI M) (T := T) (a := 174) (g := 175) (y := 176) (by omega) (by omega)
  unfold rowsT trM
  rw [mI_mW, e1, e2, e3]
theorem trM_N (M : Mem) (T : Tr) : mN (trM M T) = mN M := rfl
theorem isO_trM (M : Mem) (T : Tr) : isO (trM M T) = isO M := rfl
theorem Lw_trM (M : Mem) (T : Tr) (x : Nat) : Lw (trM M T) x = Lw M x := rfl
theorem CU_tr (h : CU M c w) (T : Tr) : CU (trM M T) c w := CU_g h (fun x y hx => by rw [tr_o (by omega) (by omega) (by omega)])
theorem tr_tr (f : Nat → Nat → Int32) (a g y : Nat) (T T' : Tr) : trF (trF f a g y T) a g y T' = trF f a g y T' := by
  funext x
  unfold trF
  by_cases z3 : x = y
  · rw [z3, rw_at, rw_at]
  · rw [rw_ne z3, rw_ne z3]
    by_cases z2 : x = g
    · rw [z2, rw_at, rw_at]
    · rw [rw_ne z2, rw_ne z2]
      by_cases z1 : x = a
      · rw [z1, rw_at, rw_at]
      · rw [rw_ne z1, rw_ne z1, rw_ne z3, rw_ne z2, rw_ne z1]
theorem trM_trM (M : Mem) (T T' : Tr) : trM (trM M T) T' = trM M T' := by
  unfold trM
  rw [mI_mW, tr_tr, mW_mW]
theorem tr_self (f : Nat → Nat → Int32) : trF f 174 175 176 (f 174, f 175, f 176) = f := by
  unfold trF
  rw [rwF_self, rwF_self, rwF_self]
theorem trM_self (M : Mem) : trM M (rowsT M) = M := by
  unfold trM rowsT
  rw [tr_self]
  rfl
theorem grG_tr (M : Mem) (k : Nat) : grG (mI M) 174 175 176 k = trF (mI M) 174 175 176 (tG (rowsT M) k) := by
  have := tr_G (f := mI M) (T := rowsT M) (k := k) (a := 174) (g := 175) (y := 176) (by omega) (by omega)
  rw [show trF (mI M) 174 175 176 (rowsT M) = mI M from tr_self _] at this
  exact this
theorem FR.rows (h : FR M M2) : rowsT M2 = rowsT M := by
  unfold rowsT
  rw [h.row (by omega), h.row (by omega), h.row (by omega)]
theorem pc_nxR {K : Option Value → Mem → Prop} (hl : ∀ x, 174 ≤ x → x < 177 → Lw M x) (e : rowsT M = T) (hT : TI T) : pcall e_W_next [.ref 174, .ref 175, .ref 176] M K = K (some (.int (tN T))) M := by
  subst e
  exact pc_next_T (T := rowsT M) (hl 174 (by omega) (by omega)) (hl 175 (by omega) (by omega)) (hl 176 (by omega) (by omega)) rfl rfl rfl hT
theorem pc_grR {K : Option Value → Mem → Prop} (hl : ∀ x, 174 ≤ x → x < 177 → Lw M x) (e : rowsT M = T) (hT : TI T) (hk : k < wn T.2.2) : pcall e_W_grants [.ref 174, .ref 175, .ref 176, .int (nI k)] M K = K (some (.int (owV (T.2.2 k)))) (trM M (tG T k)) := by
  subst e
  rw [pc_grants_T (T := rowsT M) (hl 174 (by omega) (by omega)) (hl 175 (by omega) (by omega)) (hl 176 (by omega) (by omega)) (by omega) (by omega) rfl rfl hT hk, grG_tr]
  rfl
/-- all granted: where the law's rows have come to -/
theorem ga_fin (hP : PI_ M) (eT : rowsT M = T0) {k0 i : Nat} (hk0 : k0 < wn T0.2.2) (e0 : tN T0 = nI k0) (hI : TI (tS T0 i)) (hn : tN (tS T0 i) = -1) (hq : ∀ q, q < i → ∃ k, k < 100 ∧ tN (tS T0 q) = nI k) : ∃ M2, (∀ {K : Option Value → Mem → Prop}, pcall e_B_grantAll [.ref 16] (trM M (tS T0 i)) K = K (some (.int (nI i))) M2) ∧ StQ 0 0 M (some (.int (nI 1))) M2 := by
  have hT0 : TI T0 := by rw [← eT]; exact hP.TI_
  have hu : UM M = tU T0 := by rw [← eT]; rfl
  have hc := CU_tr hP.cu (tS T0 i)
  have hN : mN (trM M (tS T0 i)) = mN M := rfl
  have er := trM_rows M (tS T0 i)
  generalize trM M (tS T0 i) = M1 at *
  rw [hu] at hc
  have hnd : ndF (mI M1) 20 = nI k0 := (nd_L hc.2.1 hc.2.2 hT0.2.1.1).trans e0
  obtain ⟨n, h1, h2, h3, h4, -, h6, h7, h8, h9⟩ := sa_tS (T := T0) (a := 172) (b := 20) (by omega) 24 0 (mI (kpM M1)) (co_kp hc) hT0 hT0.D24.2
  have hni : n = i := tS_uni h3 (fun q hq2 => by
    obtain ⟨k, -, hk, e, -⟩ := h4 q (Nat.zero_le _) hq2
    exact ⟨k, by omega, e⟩) hn hq
  subst hni
  obtain ⟨g1, g2, g3⟩ := co_grantAll (k := k0) hc hnd hk0 (by show wn T0.2.1 < 40; have := hT0.G21.2; omega) h6 h7.1
  refine ⟨gaM M1, fun {K} => ?_, ?_⟩
  · rw [pc_B_grantAll (o := 16) ⟨rfl, hc.1⟩, g1, h2]
  · exact St_T hP eT g2 (RE.rf _) (g3.rows.trans er) h7 (g3.1.trans hN) (Nat.le_of_eq h8) h9
end Gr
def e_W_isGranted : Ent := (fun av M => ∃ b : Nat, b < 2 ∧ av = [.ref 16, .ref 174, .ref 175, .ref 176, .int (nI b)] ∧ PI_ M, fun _ M r_ M_ => StQ 0 0 M r_ M_)
def C_W_isGranted : List (Nat × Ent) := [(i_W_next, e_W_next), (i_B_grant, e_B_grant), (i_B_grantAll, e_B_grantAll), (i_W_grants, e_W_grants)]
abbrev S_W_isGranted : List Nat := [66]
def t_W_isGranted_117 : List PI := (117, 9, 1, 0, 0, 0, []) :: []
def t_W_isGranted_116 : List PI := (116, 0, 0, 0, 0, 0, []) :: t_W_isGranted_117
def t_W_isGranted_112 : List PI := (112, 0, 0, 0, 0, 1, []) :: (113, 6, 0, 117, 0, 0, []) :: t_W_isGranted_116
def t_W_isGranted_107 : List PI := (107, 1, 0, 6, 0, 0, []) :: (109, 4, 1, 116, 0, 0, []) :: t_W_isGranted_112
def t_W_isGranted_103 : List PI := (103, 1, 1, 0, 0, 0, []) :: (104, 11, 0, 4, 62, 0, [121, 1]) :: t_W_isGranted_107
def t_W_isGranted_98 : List PI := (98, 1, 3, 5, 0, 0, []) :: (100, 6, 0, 66, 0, 0, []) :: t_W_isGranted_103
def t_W_isGranted_89 : List PI := (89, 2, 0, 0, 0, 0, []) :: (90, 1, 3, 6, 0, 0, []) :: (92, 1, 1, 1, 0, 0, []) :: (93, 1, 1, 2, 0, 0, []) :: (94, 1, 1, 3, 0, 0, []) :: (95, 11, 1, 0, 88, 0, [107, 3]) :: t_W_isGranted_98
def t_W_isGranted_88 : List PI := (88, 0, 0, 0, 0, 0, []) :: t_W_isGranted_89
def t_W_isGranted_84 : List PI := (84, 0, 0, 0, 0, 1, []) :: (85, 6, 0, 89, 0, 0, []) :: t_W_isGranted_88
def t_W_isGranted_81 : List PI := (81, 5, 2, 88, 0, 0, []) :: t_W_isGranted_84
def t_W_isGranted_71 : List PI := (71, 1, 0, 6, 0, 0, []) :: (73, 1, 1, 1, 0, 0, []) :: (74, 1, 1, 2, 0, 0, []) :: (75, 1, 1, 3, 0, 0, []) :: (76, 1, 0, 5, 0, 0, []) :: (78, 11, 1, 0, 90, 0, [114, 4]) :: t_W_isGranted_81
def t_W_isGranted_66 : List PI := (66, 1, 0, 5, 0, 0, []) :: (68, 5, 2, 103, 0, 0, []) :: t_W_isGranted_71
def t_W_isGranted_65 : List PI := (65, 9, 1, 0, 0, 0, []) :: t_W_isGranted_66
def t_W_isGranted_64 : List PI := (64, 0, 0, 0, 0, 0, []) :: t_W_isGranted_65
def t_W_isGranted_60 : List PI := (60, 0, 0, 0, 0, 1, []) :: (61, 6, 0, 65, 0, 0, []) :: t_W_isGranted_64
def t_W_isGranted_57 : List PI := (57, 4, 1, 64, 0, 0, []) :: t_W_isGranted_60
def t_W_isGranted_49 : List PI := (49, 1, 1, 1, 0, 0, []) :: (50, 1, 1, 2, 0, 0, []) :: (51, 1, 1, 3, 0, 0, []) :: (52, 1, 0, 5, 0, 0, []) :: (54, 11, 1, 0, 90, 0, [114, 4]) :: t_W_isGranted_57
def t_W_isGranted_45 : List PI := (45, 1, 1, 0, 0, 0, []) :: (46, 11, 0, 4, 61, 0, [118, 1]) :: t_W_isGranted_49
def t_W_isGranted_37 : List PI := (37, 0, 0, 0, 0, 0, []) :: (38, 1, 3, 6, 0, 0, []) :: (40, 1, 0, 4, 0, 0, []) :: (42, 5, 1, 66, 0, 0, []) :: t_W_isGranted_45
def t_W_isGranted_36 : List PI := (36, 9, 1, 0, 0, 0, []) :: t_W_isGranted_37
def t_W_isGranted_35 : List PI := (35, 0, 0, 0, 0, 0, []) :: t_W_isGranted_36
def t_W_isGranted_31 : List PI := (31, 0, 0, 0, 0, 1, []) :: (32, 6, 0, 36, 0, 0, []) :: t_W_isGranted_35
def t_W_isGranted_26 : List PI := (26, 0, 0, 58, 3, -1000001, []) :: (28, 4, 1, 35, 0, 0, []) :: t_W_isGranted_31
def t_W_isGranted_22 : List PI := (22, 1, 1, 0, 0, 0, []) :: (23, 11, 0, 4, 62, 0, [121, 1]) :: t_W_isGranted_26
def t_W_isGranted_17 : List PI := (17, 0, 0, 58, 3, -1000001, []) :: (19, 4, 1, 35, 0, 0, []) :: t_W_isGranted_22
def t_W_isGranted_13 : List PI := (13, 1, 1, 0, 0, 0, []) :: (14, 11, 0, 4, 61, 0, [118, 1]) :: t_W_isGranted_17
def t_W_isGranted_6 : List PI := (6, 1, 3, 5, 0, 0, []) :: (8, 1, 0, 5, 0, 0, []) :: (10, 5, 3, 37, 0, 0, []) :: t_W_isGranted_13
def t_W_isGranted_0 : List PI := (0, 1, 1, 1, 0, 0, []) :: (1, 1, 1, 2, 0, 0, []) :: (2, 1, 1, 3, 0, 0, []) :: (3, 11, 1, 0, 88, 0, [107, 3]) :: t_W_isGranted_6
theorem kt_W_isGranted : okP s_W_isGranted t_W_isGranted_0 := k_W_isGranted
theorem g_W_isGranted_0 {Z : Zt} {nF f : Nat} {Kx : Nat → Kt} {Q : Option Value → Mem → Prop} {M : Mem} {x1 : Nat} {x2 : Nat} {x3 : Nat} {x4 : Nat} {x5 : Int32} : run Z nF C_W_isGranted S_W_isGranted Kx Q (f + 4) t_W_isGranted_0 [some (.ref (x1)), some (.ref (x2)), some (.ref (x3)), some (.ref (x4)), some (.int (x5)), none, none] [] M = (((True) ∧ wsum [] ≤ 8) ∧ pcall e_W_next [.ref (x2), .ref (x3), .ref (x4)] (M) (fun v M_ => run Z nF C_W_isGranted S_W_isGranted Kx Q f t_W_isGranted_6 [some (.ref (x1)), some (.ref (x2)), some (.ref (x3)), some (.ref (x4)), some (.int (x5)), none, none] (v.toList ++ []) M_)) := id rfl
theorem g_W_isGranted_6 {Z : Zt} {nF f : Nat} {Kx : Nat → Kt} {Q : Option Value → Mem → Prop} {M : Mem} {x1 : Nat} {x2 : Nat} {x3 : Nat} {x4 : Nat} {x5 : Int32} {x6 : Int32} : run Z nF C_W_isGranted S_W_isGranted Kx Q (f + 3) t_W_isGranted_6 [some (.ref (x1)), some (.ref (x2)), some (.ref (x3)), some (.ref (x4)), some (.int (x5)), none, none] [.int (x6)] M = ((if nI 0 ≤ (x6) then run Z nF C_W_isGranted S_W_isGranted Kx Q f t_W_isGranted_37 [some (.ref (x1)), some (.ref (x2)), some (.ref (x3)), some (.ref (x4)), some (.int (x5)), some (.int (x6)), none] [] (M) else run Z nF C_W_isGranted S_W_isGranted Kx Q f t_W_isGranted_13 [some (.ref (x1)), some (.ref (x2)), some (.ref (x3)), some (.ref (x4)), some (.int (x5)), some (.int (x6)), none] [] (M))) := id rfl
theorem g_W_isGranted_13 {Z : Zt} {nF f : Nat} {Kx : Nat → Kt} {Q : Option Value → Mem → Prop} {M : Mem} {x1 : Nat} {x2 : Nat} {x3 : Nat} {x4 : Nat} {x5 : Int32} {x6 : Int32} : run Z nF C_W_isGranted S_W_isGranted Kx Q (f + 2) t_W_isGranted_13 [some (.ref (x1)), some (.ref (x2)), some (.ref (x3)), some (.ref (x4)), some (.int (x5)), some (.int (x6)), none] [] M = (((isO (M) (x1) 4) ∧ wsum [] ≤ 8) ∧ pcall e_B_grant [.ref (x1)] (M) (fun v M_ => run Z nF C_W_isGranted S_W_isGranted Kx Q f t_W_isGranted_17 [some (.ref (x1)), some (.ref (x2)), some (.ref (x3)), some (.ref (x4)), some (.int (x5)), some (.int (x6)), none] (v.toList ++ []) M_)) := id rfl
theorem g_W_isGranted_17 {Z : Zt} {nF f : Nat} {Kx : Nat → Kt} {Q : Option Value → Mem → Prop} {M : Mem} {x1 : Nat} {x2 : Nat} {x3 : Nat} {x4 : Nat} {x5 : Int32} {x6 : Int32} {x7 : Int32} : run Z nF C_W_isGranted S_W_isGranted Kx Q (f + 2) t_W_isGranted_17 [some (.ref (x1)), some (.ref (x2)), some (.ref (x3)), some (.ref (x4)), some (.int (x5)), some (.int (x6)), none] [.int (x7)] M = ((if (x7) = ((-1000001 : Int32)) then run Z nF C_W_isGranted S_W_isGranted Kx Q f t_W_isGranted_22 [some (.ref (x1)), some (.ref (x2)), some (.ref (x3)), some (.ref (x4)), some (.int (x5)), some (.int (x6)), none] [] (M) else run Z nF C_W_isGranted S_W_isGranted Kx Q f t_W_isGranted_35 [some (.ref (x1)), some (.ref (x2)), some (.ref (x3)), some (.ref (x4)), some (.int (x5)), some (.int (x6)), none] [] (M))) := id rfl
theorem g_W_isGranted_22 {Z : Zt} {nF f : Nat} {Kx : Nat → Kt} {Q : Option Value → Mem → Prop} {M : Mem} {x1 : Nat} {x2 : Nat} {x3 : Nat} {x4 : Nat} {x5 : Int32} {x6 : Int32} : run Z nF C_W_isGranted S_W_isGranted Kx Q (f + 2) t_W_isGranted_22 [some (.ref (x1)), some (.ref (x2)), some (.ref (x3)), some (.ref (x4)), some (.int (x5)), some (.int (x6)), none] [] M = (((isO (M) (x1) 4) ∧ wsum [] ≤ 8) ∧ pcall e_B_grantAll [.ref (x1)] (M) (fun v M_ => run Z nF C_W_isGranted S_W_isGranted Kx Q f t_W_isGranted_26 [some (.ref (x1)), some (.ref (x2)), some (.ref (x3)), some (.ref (x4)), some (.int (x5)), some (.int (x6)), none] (v.toList ++ []) M_)) := id rfl
theorem g_W_isGranted_26 {Z : Zt} {nF f : Nat} {Kx : Nat → Kt} {Q : Option Value → Mem → Prop} {M : Mem} {x1 : Nat} {x2 : Nat} {x3 : Nat} {x4 : Nat} {x5 : Int32} {x6 : Int32} {x7 : Int32} : run Z nF C_W_isGranted S_W_isGranted Kx Q (f + 2) t_W_isGranted_26 [some (.ref (x1)), some (.ref (x2)), some (.ref (x3)), some (.ref (x4)), some (.int (x5)), some (.int (x6)), none] [.int (x7)] M = ((if (x7) = ((-1000001 : Int32)) then run Z nF C_W_isGranted S_W_isGranted Kx Q f t_W_isGranted_31 [some (.ref (x1)), some (.ref (x2)), some (.ref (x3)), some (.ref (x4)), some (.int (x5)), some (.int (x6)), none] [] (M) else run Z nF C_W_isGranted S_W_isGranted Kx Q f t_W_isGranted_35 [some (.ref (x1)), some (.ref (x2)), some (.ref (x3)), some (.ref (x4)), some (.int (x5)), some (.int (x6)), none] [] (M))) := id rfl
theorem g_W_isGranted_31 {Z : Zt} {nF f : Nat} {Kx : Nat → Kt} {Q : Option Value → Mem → Prop} {M : Mem} {x1 : Nat} {x2 : Nat} {x3 : Nat} {x4 : Nat} {x5 : Int32} {x6 : Int32} : run Z nF C_W_isGranted S_W_isGranted Kx Q (f + 2) t_W_isGranted_31 [some (.ref (x1)), some (.ref (x2)), some (.ref (x3)), some (.ref (x4)), some (.int (x5)), some (.int (x6)), none] [] M = (run Z nF C_W_isGranted S_W_isGranted Kx Q f t_W_isGranted_36 [some (.ref (x1)), some (.ref (x2)), some (.ref (x3)), some (.ref (x4)), some (.int (x5)), some (.int (x6)), none] [.int ((nI 1))] (M)) := id rfl
theorem g_W_isGranted_35 {Z : Zt} {nF f : Nat} {Kx : Nat → Kt} {Q : Option Value → Mem → Prop} {M : Mem} {x1 : Nat} {x2 : Nat} {x3 : Nat} {x4 : Nat} {x5 : Int32} {x6 : Int32} : run Z nF C_W_isGranted S_W_isGranted Kx Q (f + 1) t_W_isGranted_35 [some (.ref (x1)), some (.ref (x2)), some (.ref (x3)), some (.ref (x4)), some (.int (x5)), some (.int (x6)), none] [] M = (run Z nF C_W_isGranted S_W_isGranted Kx Q f t_W_isGranted_36 [some (.ref (x1)), some (.ref (x2)), some (.ref (x3)), some (.ref (x4)), some (.int (x5)), some (.int (x6)), none] [.int ((nI 0))] (M)) := id rfl
theorem g_W_isGranted_36 {Z : Zt} {nF f : Nat} {Kx : Nat → Kt} {Q : Option Value → Mem → Prop} {M : Mem} {x1 : Nat} {x2 : Nat} {x3 : Nat} {x4 : Nat} {x5 : Int32} {x6 : Int32} {x7 : Int32} : run Z nF C_W_isGranted S_W_isGranted Kx Q (f + 1) t_W_isGranted_36 [some (.ref (x1)), some (.ref (x2)), some (.ref (x3)), some (.ref (x4)), some (.int (x5)), some (.int (x6)), none] [.int (x7)] M = (((x7) = nI 0 ∨ (x7) = nI 1) ∧ Q (some (.int (x7))) (M)) := id rfl
theorem g_W_isGranted_37 {Z : Zt} {nF f : Nat} {Kx : Nat → Kt} {Q : Option Value → Mem → Prop} {M : Mem} {x1 : Nat} {x2 : Nat} {x3 : Nat} {x4 : Nat} {x5 : Int32} {x6 : Int32} : run Z nF C_W_isGranted S_W_isGranted Kx Q (f + 4) t_W_isGranted_37 [some (.ref (x1)), some (.ref (x2)), some (.ref (x3)), some (.ref (x4)), some (.int (x5)), some (.int (x6)), none] [] M = ((if (x5) = nI 0 then run Z nF C_W_isGranted S_W_isGranted Kx Q f t_W_isGranted_45 [some (.ref (x1)), some (.ref (x2)), some (.ref (x3)), some (.ref (x4)), some (.int (x5)), some (.int (x6)), some (.int ((nI 0)))] [] (M) else Kx 66 [some (.ref (x1)), some (.ref (x2)), some (.ref (x3)), some (.ref (x4)), some (.int (x5)), some (.int (x6)), some (.int ((nI 0)))] [] (M))) := id rfl
theorem g_W_isGranted_45 {Z : Zt} {nF f : Nat} {Kx : Nat → Kt} {Q : Option Value → Mem → Prop} {M : Mem} {x1 : Nat} {x2 : Nat} {x3 : Nat} {x4 : Nat} {x5 : Int32} {x6 : Int32} {x7 : Int32} : run Z nF C_W_isGranted S_W_isGranted Kx Q (f + 2) t_W_isGranted_45 [some (.ref (x1)), some (.ref (x2)), some (.ref (x3)), some (.ref (x4)), some (.int (x5)), some (.int (x6)), some (.int (x7))] [] M = (((isO (M) (x1) 4) ∧ wsum [] ≤ 8) ∧ pcall e_B_grant [.ref (x1)] (M) (fun v M_ => run Z nF C_W_isGranted S_W_isGranted Kx Q f t_W_isGranted_49 [some (.ref (x1)), some (.ref (x2)), some (.ref (x3)), some (.ref (x4)), some (.int (x5)), some (.int (x6)), some (.int (x7))] (v.toList ++ []) M_)) := id rfl
theorem g_W_isGranted_49 {Z : Zt} {nF f : Nat} {Kx : Nat → Kt} {Q : Option Value → Mem → Prop} {M : Mem} {x1 : Nat} {x2 : Nat} {x3 : Nat} {x4 : Nat} {x5 : Int32} {x6 : Int32} {x7 : Int32} {x8 : Int32} : run Z nF C_W_isGranted S_W_isGranted Kx Q (f + 5) t_W_isGranted_49 [some (.ref (x1)), some (.ref (x2)), some (.ref (x3)), some (.ref (x4)), some (.int (x5)), some (.int (x6)), some (.int (x7))] [.int (x8)] M = (((True) ∧ wsum [.int (x8)] ≤ 8) ∧ pcall e_W_grants [.ref (x2), .ref (x3), .ref (x4), .int (x6)] (M) (fun v M_ => run Z nF C_W_isGranted S_W_isGranted Kx Q f t_W_isGranted_57 [some (.ref (x1)), some (.ref (x2)), some (.ref (x3)), some (.ref (x4)), some (.int (x5)), some (.int (x6)), some (.int (x7))] (v.toList ++ [.int (x8)]) M_)) := id rfl
theorem g_W_isGranted_57 {Z : Zt} {nF f : Nat} {Kx : Nat → Kt} {Q : Option Value → Mem → Prop} {M : Mem} {x1 : Nat} {x2 : Nat} {x3 : Nat} {x4 : Nat} {x5 : Int32} {x6 : Int32} {x7 : Int32} {x8 : Int32} {x9 : Int32} : run Z nF C_W_isGranted S_W_isGranted Kx Q (f + 1) t_W_isGranted_57 [some (.ref (x1)), some (.ref (x2)), some (.ref (x3)), some (.ref (x4)), some (.int (x5)), some (.int (x6)), some (.int (x7))] [.int (x8), .int (x9)] M = ((if (x9) = (x8) then run Z nF C_W_isGranted S_W_isGranted Kx Q f t_W_isGranted_60 [some (.ref (x1)), some (.ref (x2)), some (.ref (x3)), some (.ref (x4)), some (.int (x5)), some (.int (x6)), some (.int (x7))] [] (M) else run Z nF C_W_isGranted S_W_isGranted Kx Q f t_W_isGranted_64 [some (.ref (x1)), some (.ref (x2)), some (.ref (x3)), some (.ref (x4)), some (.int (x5)), some (.int (x6)), some (.int (x7))] [] (M))) := id rfl
theorem g_W_isGranted_60 {Z : Zt} {nF f : Nat} {Kx : Nat → Kt} {Q : Option Value → Mem → Prop} {M : Mem} {x1 : Nat} {x2 : Nat} {x3 : Nat} {x4 : Nat} {x5 : Int32} {x6 : Int32} {x7 : Int32} : run Z nF C_W_isGranted S_W_isGranted Kx Q (f + 2) t_W_isGranted_60 [some (.ref (x1)), some (.ref (x2)), some (.ref (x3)), some (.ref (x4)), some (.int (x5)), some (.int (x6)), some (.int (x7))] [] M = (run Z nF C_W_isGranted S_W_isGranted Kx Q f t_W_isGranted_65 [some (.ref (x1)), some (.ref (x2)), some (.ref (x3)), some (.ref (x4)), some (.int (x5)), some (.int (x6)), some (.int (x7))] [.int ((nI 1))] (M)) := id rfl
theorem g_W_isGranted_64 {Z : Zt} {nF f : Nat} {Kx : Nat → Kt} {Q : Option Value → Mem → Prop} {M : Mem} {x1 : Nat} {x2 : Nat} {x3 : Nat} {x4 : Nat} {x5 : Int32} {x6 : Int32} {x7 : Int32} : run Z nF C_W_isGranted S_W_isGranted Kx Q (f + 1) t_W_isGranted_64 [some (.ref (x1)), some (.ref (x2)), some (.ref (x3)), some (.ref (x4)), some (.int (x5)), some (.int (x6)), some (.int (x7))] [] M = (run Z nF C_W_isGranted S_W_isGranted Kx Q f t_W_isGranted_65 [some (.ref (x1)), some (.ref (x2)), some (.ref (x3)), some (.ref (x4)), some (.int (x5)), some (.int (x6)), some (.int (x7))] [.int ((nI 0))] (M)) := id rfl
theorem g_W_isGranted_65 {Z : Zt} {nF f : Nat} {Kx : Nat → Kt} {Q : Option Value → Mem → Prop} {M : Mem} {x1 : Nat} {x2 : Nat} {x3 : Nat} {x4 : Nat} {x5 : Int32} {x6 : Int32} {x7 : Int32} {x8 : Int32} : run Z nF C_W_isGranted S_W_isGranted Kx Q (f + 1) t_W_isGranted_65 [some (.ref (x1)), some (.ref (x2)), some (.ref (x3)), some (.ref (x4)), some (.int (x5)), some (.int (x6)), some (.int (x7))] [.int (x8)] M = (((x8) = nI 0 ∨ (x8) = nI 1) ∧ Q (some (.int (x8))) (M)) := id rfl
theorem g_W_isGranted_66 {Z : Zt} {nF f : Nat} {Kx : Nat → Kt} {Q : Option Value → Mem → Prop} {M : Mem} {x1 : Nat} {x2 : Nat} {x3 : Nat} {x4 : Nat} {x5 : Int32} {x6 : Int32} {x7 : Int32} : run Z nF C_W_isGranted S_W_isGranted Kx Q (f + 2) t_W_isGranted_66 [some (.ref (x1)), some (.ref (x2)), some (.ref (x3)), some (.ref (x4)), some (.int (x5)), some (.int (x6)), some (.int (x7))] [] M = ((if (x6) < nI 0 then run Z nF C_W_isGranted S_W_isGranted Kx Q f t_W_isGranted_103 [some (.ref (x1)), some (.ref (x2)), some (.ref (x3)), some (.ref (x4)), some (.int (x5)), some (.int (x6)), some (.int (x7))] [] (M) else run Z nF C_W_isGranted S_W_isGranted Kx Q f t_W_isGranted_71 [some (.ref (x1)), some (.ref (x2)), some (.ref (x3)), some (.ref (x4)), some (.int (x5)), some (.int (x6)), some (.int (x7))] [] (M))) := id rfl
theorem g_W_isGranted_71 {Z : Zt} {nF f : Nat} {Kx : Nat → Kt} {Q : Option Value → Mem → Prop} {M : Mem} {x1 : Nat} {x2 : Nat} {x3 : Nat} {x4 : Nat} {x5 : Int32} {x6 : Int32} {x7 : Int32} : run Z nF C_W_isGranted S_W_isGranted Kx Q (f + 6) t_W_isGranted_71 [some (.ref (x1)), some (.ref (x2)), some (.ref (x3)), some (.ref (x4)), some (.int (x5)), some (.int (x6)), some (.int (x7))] [] M = (((True) ∧ wsum [.int (x7)] ≤ 8) ∧ pcall e_W_grants [.ref (x2), .ref (x3), .ref (x4), .int (x6)] (M) (fun v M_ => run Z nF C_W_isGranted S_W_isGranted Kx Q f t_W_isGranted_81 [some (.ref (x1)), some (.ref (x2)), some (.ref (x3)), some (.ref (x4)), some (.int (x5)), some (.int (x6)), some (.int (x7))] (v.toList ++ [.int (x7)]) M_)) := id rfl
theorem g_W_isGranted_81 {Z : Zt} {nF f : Nat} {Kx : Nat → Kt} {Q : Option Value → Mem → Prop} {M : Mem} {x1 : Nat} {x2 : Nat} {x3 : Nat} {x4 : Nat} {x5 : Int32} {x6 : Int32} {x7 : Int32} {x8 : Int32} {x9 : Int32} : run Z nF C_W_isGranted S_W_isGranted Kx Q (f + 1) t_W_isGranted_81 [some (.ref (x1)), some (.ref (x2)), some (.ref (x3)), some (.ref (x4)), some (.int (x5)), some (.int (x6)), some (.int (x7))] [.int (x8), .int (x9)] M = ((if (x8) < nI 0 then run Z nF C_W_isGranted S_W_isGranted Kx Q f t_W_isGranted_88 [some (.ref (x1)), some (.ref (x2)), some (.ref (x3)), some (.ref (x4)), some (.int (x5)), some (.int (x6)), some (.int (x7))] [.int (x9)] (M) else run Z nF C_W_isGranted S_W_isGranted Kx Q f t_W_isGranted_84 [some (.ref (x1)), some (.ref (x2)), some (.ref (x3)), some (.ref (x4)), some (.int (x5)), some (.int (x6)), some (.int (x7))] [.int (x9)] (M))) := id rfl
theorem g_W_isGranted_84 {Z : Zt} {nF f : Nat} {Kx : Nat → Kt} {Q : Option Value → Mem → Prop} {M : Mem} {x1 : Nat} {x2 : Nat} {x3 : Nat} {x4 : Nat} {x5 : Int32} {x6 : Int32} {x7 : Int32} {x8 : Int32} : run Z nF C_W_isGranted S_W_isGranted Kx Q (f + 2) t_W_isGranted_84 [some (.ref (x1)), some (.ref (x2)), some (.ref (x3)), some (.ref (x4)), some (.int (x5)), some (.int (x6)), some (.int (x7))] [.int (x8)] M = (run Z nF C_W_isGranted S_W_isGranted Kx Q f t_W_isGranted_89 [some (.ref (x1)), some (.ref (x2)), some (.ref (x3)), some (.ref (x4)), some (.int (x5)), some (.int (x6)), some (.int (x7))] [.int ((nI 1)), .int (x8)] (M)) := id rfl
theorem g_W_isGranted_88 {Z : Zt} {nF f : Nat} {Kx : Nat → Kt} {Q : Option Value → Mem → Prop} {M : Mem} {x1 : Nat} {x2 : Nat} {x3 : Nat} {x4 : Nat} {x5 : Int32} {x6 : Int32} {x7 : Int32} {x8 : Int32} : run Z nF C_W_isGranted S_W_isGranted Kx Q (f + 1) t_W_isGranted_88 [some (.ref (x1)), some (.ref (x2)), some (.ref (x3)), some (.ref (x4)), some (.int (x5)), some (.int (x6)), some (.int (x7))] [.int (x8)] M = (run Z nF C_W_isGranted S_W_isGranted Kx Q f t_W_isGranted_89 [some (.ref (x1)), some (.ref (x2)), some (.ref (x3)), some (.ref (x4)), some (.int (x5)), some (.int (x6)), some (.int (x7))] [.int ((nI 0)), .int (x8)] (M)) := id rfl
theorem g_W_isGranted_89 {Z : Zt} {nF f : Nat} {Kx : Nat → Kt} {Q : Option Value → Mem → Prop} {M : Mem} {x1 : Nat} {x2 : Nat} {x3 : Nat} {x4 : Nat} {x5 : Int32} {x6 : Int32} {x7 : Int32} {x8 : Int32} {x9 : Int32} : run Z nF C_W_isGranted S_W_isGranted Kx Q (f + 6) t_W_isGranted_89 [some (.ref (x1)), some (.ref (x2)), some (.ref (x3)), some (.ref (x4)), some (.int (x5)), some (.int (x6)), some (.int (x7))] [.int (x8), .int (x9)] M = (((True) ∧ wsum [] ≤ 8) ∧ pcall e_W_next [.ref (x2), .ref (x3), .ref (x4)] (M) (fun v M_ => run Z nF C_W_isGranted S_W_isGranted Kx Q f t_W_isGranted_98 [some (.ref (x1)), some (.ref (x2)), some (.ref (x3)), some (.ref (x4)), some (.int (x5)), some (.int (x6)), some (.int ((x9) + (x8)))] (v.toList ++ []) M_)) := id rfl
theorem g_W_isGranted_98 {Z : Zt} {nF f : Nat} {Kx : Nat → Kt} {Q : Option Value → Mem → Prop} {M : Mem} {x1 : Nat} {x2 : Nat} {x3 : Nat} {x4 : Nat} {x5 : Int32} {x6 : Int32} {x7 : Int32} {x8 : Int32} : run Z nF C_W_isGranted S_W_isGranted Kx Q (f + 2) t_W_isGranted_98 [some (.ref (x1)), some (.ref (x2)), some (.ref (x3)), some (.ref (x4)), some (.int (x5)), some (.int (x6)), some (.int (x7))] [.int (x8)] M = (Kx 66 [some (.ref (x1)), some (.ref (x2)), some (.ref (x3)), some (.ref (x4)), some (.int (x5)), some (.int (x8)), some (.int (x7))] [] (M)) := id rfl
theorem g_W_isGranted_103 {Z : Zt} {nF f : Nat} {Kx : Nat → Kt} {Q : Option Value → Mem → Prop} {M : Mem} {x1 : Nat} {x2 : Nat} {x3 : Nat} {x4 : Nat} {x5 : Int32} {x6 : Int32} {x7 : Int32} : run Z nF C_W_isGranted S_W_isGranted Kx Q (f + 2) t_W_isGranted_103 [some (.ref (x1)), some (.ref (x2)), some (.ref (x3)), some (.ref (x4)), some (.int (x5)), some (.int (x6)), some (.int (x7))] [] M = (((isO (M) (x1) 4) ∧ wsum [] ≤ 8) ∧ pcall e_B_grantAll [.ref (x1)] (M) (fun v M_ => run Z nF C_W_isGranted S_W_isGranted Kx Q f t_W_isGranted_107 [some (.ref (x1)), some (.ref (x2)), some (.ref (x3)), some (.ref (x4)), some (.int (x5)), some (.int (x6)), some (.int (x7))] (v.toList ++ []) M_)) := id rfl
theorem g_W_isGranted_107 {Z : Zt} {nF f : Nat} {Kx : Nat → Kt} {Q : Option Value → Mem → Prop} {M : Mem} {x1 : Nat} {x2 : Nat} {x3 : Nat} {x4 : Nat} {x5 : Int32} {x6 : Int32} {x7 : Int32} {x8 : Int32} : run Z nF C_W_isGranted S_W_isGranted Kx Q (f + 2) t_W_isGranted_107 [some (.ref (x1)), some (.ref (x2)), some (.ref (x3)), some (.ref (x4)), some (.int (x5)), some (.int (x6)), some (.int (x7))] [.int (x8)] M = ((if (x8) = (x7) then run Z nF C_W_isGranted S_W_isGranted Kx Q f t_W_isGranted_112 [some (.ref (x1)), some (.ref (x2)), some (.ref (x3)), some (.ref (x4)), some (.int (x5)), some (.int (x6)), some (.int (x7))] [] (M) else run Z nF C_W_isGranted S_W_isGranted Kx Q f t_W_isGranted_116 [some (.ref (x1)), some (.ref (x2)), some (.ref (x3)), some (.ref (x4)), some (.int (x5)), some (.int (x6)), some (.int (x7))] [] (M))) := id rfl
theorem g_W_isGranted_112 {Z : Zt} {nF f : Nat} {Kx : Nat → Kt} {Q : Option Value → Mem → Prop} {M : Mem} {x1 : Nat} {x2 : Nat} {x3 : Nat} {x4 : Nat} {x5 : Int32} {x6 : Int32} {x7 : Int32} : run Z nF C_W_isGranted S_W_isGranted Kx Q (f + 2) t_W_isGranted_112 [some (.ref (x1)), some (.ref (x2)), some (.ref (x3)), some (.ref (x4)), some (.int (x5)), some (.int (x6)), some (.int (x7))] [] M = (run Z nF C_W_isGranted S_W_isGranted Kx Q f t_W_isGranted_117 [some (.ref (x1)), some (.ref (x2)), some (.ref (x3)), some (.ref (x4)), some (.int (x5)), some (.int (x6)), some (.int (x7))] [.int ((nI 1))] (M)) := id rfl
theorem g_W_isGranted_116 {Z : Zt} {nF f : Nat} {Kx : Nat → Kt} {Q : Option Value → Mem → Prop} {M : Mem} {x1 : Nat} {x2 : Nat} {x3 : Nat} {x4 : Nat} {x5 : Int32} {x6 : Int32} {x7 : Int32} : run Z nF C_W_isGranted S_W_isGranted Kx Q (f + 1) t_W_isGranted_116 [some (.ref (x1)), some (.ref (x2)), some (.ref (x3)), some (.ref (x4)), some (.int (x5)), some (.int (x6)), some (.int (x7))] [] M = (run Z nF C_W_isGranted S_W_isGranted Kx Q f t_W_isGranted_117 [some (.ref (x1)), some (.ref (x2)), some (.ref (x3)), some (.ref (x4)), some (.int (x5)), some (.int (x6)), some (.int (x7))] [.int ((nI 0))] (M)) := id rfl
theorem g_W_isGranted_117 {Z : Zt} {nF f : Nat} {Kx : Nat → Kt} {Q : Option Value → Mem → Prop} {M : Mem} {x1 : Nat} {x2 : Nat} {x3 : Nat} {x4 : Nat} {x5 : Int32} {x6 : Int32} {x7 : Int32} {x8 : Int32} : run Z nF C_W_isGranted S_W_isGranted Kx Q (f + 1) t_W_isGranted_117 [some (.ref (x1)), some (.ref (x2)), some (.ref (x3)), some (.ref (x4)), some (.int (x5)), some (.int (x6)), some (.int (x7))] [.int (x8)] M = (((x8) = nI 0 ∨ (x8) = nI 1) ∧ Q (some (.int (x8))) (M)) := id rfl
set_option maxRecDepth 100000 in
set_option maxHeartbeats 4000000 in
theorem lp_66_isGranted (Z : Zt) (d : Nat) {M : Mem} {T0 : Tr} (hP : PI_ M) (eT : rowsT M = T0) {k0 : Nat} (hk0 : k0 < wn T0.2.2) (e0 : tN T0 = nI k0) : ∀ m i, TI (tS T0 i) → wn (tS T0 i).2.2 ≤ m → (∀ q, q < i → ∃ k, k < 100 ∧ tN (tS T0 q) = nI k) → i + m ≤ 100 → X Z (d + 7) s_W_isGranted (mN M) (mN M) (StQ 0 0 M) 66 [some (.ref 16), some (.ref 174), some (.ref 175), some (.ref 176), some (.int (nI 1)), some (.int (tN (tS T0 i))), some (.int (nI i))] [] (trM M (tS T0 i)) := by
  have hB := hP.1.1
  have q1 := eq_true m1_n0
  have fin : ∀ i, TI (tS T0 i) → tN (tS T0 i) = -1 → (∀ q, q < i → ∃ k, k < 100 ∧ tN (tS T0 q) = nI k) → X Z (d + 7) s_W_isGranted (mN M) (mN M) (StQ 0 0 M) 66 [some (.ref 16), some (.ref 174), some (.ref 175), some (.ref 176), some (.int (nI 1)), some (.int (tN (tS T0 i))), some (.int (nI i))] [] (trM M (tS T0 i)) := fun i hI e hq => by
    obtain ⟨M2, hga, hS⟩ := ga_fin hP eT hk0 e0 hI e hq
    rw [e]
    refine X_runT (C := C_W_isGranted) (S := S_W_isGranted) (T := t_W_isGranted_66) 1000 kt_W_isGranted (okE_cons (ok_W_next Z (d + 2)) (okE_cons (ok_B_grant Z (d + 1)) (okE_cons (ok_B_grantAll Z d) (okE_cons (ok_W_grants Z (d + 4)) okE_nil)))) ?_
    simp (maxSteps := 3000000) (disch := first | exact True.intro | assumption | omega) only [↓eq_self, Option.toList_some, Option.toList_none, List.nil_append, List.cons_append, wsum_0, wsum_1, wsum_2, wsum_3, wsum_4, lkill, ↓reduceIte, if_true, if_false, Bool.false_eq_true, and_true, true_and, and_self, or_self, true_or, or_true, not_true, not_false_iff, mR_stI, mN_stI, isO_stI, isA_stI, mI_stI, mR_mW, mN_mW, isO_mW, isA_mW, mI_mW, mW_mW, stI_mW, vp_0, nI_add, nI_ltI, nI_leI, nI_eq, vpi, nI_clamp, nI_toN, nI_geT, pk_mul, pk_sub, bv_0n, bv_1n, ↓bv_01n, n01a, n01b, Nat.reduceSub, Nat.reduceAdd, Nat.reduceMul, u2_rw, rw_rw, rw_at, rw_ne, up_at, up_ne, Nat.zero_add, Nat.add_zero, lw_mW, m1_lt0, ite_nt, ↓g_W_isGranted_66, ↓g_W_isGranted_103, ↓g_W_isGranted_107, ↓g_W_isGranted_112, ↓g_W_isGranted_116, ↓g_W_isGranted_117, isO_trM, bk_oB hB, hga, q1]
    exact hS
  intro m
  induction m with
  | zero =>
    intro i hI hm hq hb
    rcases tN_cases (tS T0 i) with e | ⟨k, hk, -⟩
    · exact fin i hI e hq
    · omega
  | succ m ih =>
    intro i hI hm hq hb
    rcases tN_cases (tS T0 i) with e | ⟨k, hk, e⟩
    · exact fin i hI e hq
    · have h24 := hI.D24.2
      have es := tS_s (T := T0) (n := i) e (by omega)
      obtain ⟨g1, g2, g3, g4⟩ := TI_G hI hk
      obtain ⟨q, hq3, eo⟩ := hI.own hk
      have n0 := eq_false (nI_nn (k := k) (by omega))
      have n1 := eq_false (nI_nn (k := q) (by omega))
      have hg : ∀ {K : Option Value → Mem → Prop}, pcall e_W_grants [.ref 174, .ref 175, .ref 176, .int (nI k)] (trM M (tS T0 i)) K = K (some (.int (nI q))) (trM M (tS T0 (i + 1))) := fun {K} => by
        rw [pc_grR (M := trM M (tS T0 i)) (fun x h1 h2 => hP.lw h1 h2) (trM_rows _ _) hI hk, eo, trM_trM, es]
      have hI2 : TI (tS T0 (i + 1)) := by rw [es]; exact g1
      have hx : ∀ {K : Option Value → Mem → Prop}, pcall e_W_next [.ref 174, .ref 175, .ref 176] (trM M (tS T0 (i + 1))) K = K (some (.int (tN (tS T0 (i + 1))))) (trM M (tS T0 (i + 1))) := pc_nxR (M := trM M (tS T0 (i + 1))) (fun x h1 h2 => hP.lw h1 h2) (trM_rows _ _) hI2
      have hy := ih (i + 1) hI2 (by rw [es, g3]; omega) (fun j hj => by
        by_cases z : j = i
        · rw [z]
          exact ⟨k, by omega, e⟩
        · exact hq j (by omega)) (by omega)
      rw [e]
      refine X_runT (C := C_W_isGranted) (S := S_W_isGranted) (T := t_W_isGranted_66) 1000 kt_W_isGranted (okE_cons (ok_W_next Z (d + 2)) (okE_cons (ok_B_grant Z (d + 1)) (okE_cons (ok_B_grantAll Z d) (okE_cons (ok_W_grants Z (d + 4)) okE_nil)))) ?_
      simp (maxSteps := 3000000) (disch := first | exact True.intro | assumption | omega) only [↓eq_self, Option.toList_some, Option.toList_none, List.nil_append, List.cons_append, wsum_0, wsum_1, wsum_2, wsum_3, wsum_4, lkill, ↓reduceIte, if_true, if_false, Bool.false_eq_true, and_true, true_and, and_self, or_self, true_or, or_true, not_true, not_false_iff, mR_stI, mN_stI, isO_stI, isA_stI, mI_stI, mR_mW, mN_mW, isO_mW, isA_mW, mI_mW, mW_mW, stI_mW, vp_0, nI_add, nI_ltI, nI_leI, nI_eq, vpi, nI_clamp, nI_toN, nI_geT, pk_mul, pk_sub, bv_0n, bv_1n, ↓bv_01n, n01a, n01b, Nat.reduceSub, Nat.reduceAdd, Nat.reduceMul, u2_rw, rw_rw, rw_at, rw_ne, up_at, up_ne, Nat.zero_add, Nat.add_zero, lw_mW, m1_lt0, ite_nt, ↓g_W_isGranted_66, ↓g_W_isGranted_71, ↓g_W_isGranted_81, ↓g_W_isGranted_84, ↓g_W_isGranted_88, ↓g_W_isGranted_89, ↓g_W_isGranted_98, hg, hx, n0, n1]
      exact hy
set_option maxRecDepth 100000 in
set_option maxHeartbeats 4000000 in
theorem ok_W_isGranted (Z : Zt) (d : Nat) : okE Z (d + 7) i_W_isGranted e_W_isGranted := by
  rintro av M ⟨b, hb, rfl, hP⟩
  have hB := hP.1.1
  obtain ⟨T0, eT⟩ : ∃ T0, rowsT M = T0 := ⟨_, rfl⟩
  have hT0 : TI T0 := by rw [← eT]; exact hP.TI_
  have eu : UM M = tU T0 := by rw [← eT]; rfl
  have hx : ∀ {K : Option Value → Mem → Prop}, pcall e_W_next [.ref 174, .ref 175, .ref 176] M K = K (some (.int (tN T0))) M := pc_nxR (fun x h1 h2 => hP.lw h1 h2) eT hT0
  have hcu := hP.cu
  rw [eu] at hcu
  have hnd : ndF (mI M) 20 = tN T0 := nd_L hcu.2.1 hcu.2.2 hT0.2.1.1
  refine Gm_run (C := C_W_isGranted) (S := S_W_isGranted) [some (.ref 16), some (.ref 174), some (.ref 175), some (.ref 176), some (.int (nI b)), none, none] 1000 kt_W_isGranted (okE_cons (ok_W_next Z (d + 2)) (okE_cons (ok_B_grant Z (d + 1)) (okE_cons (ok_B_grantAll Z d) (okE_cons (ok_W_grants Z (d + 4)) okE_nil)))) (fun r M' q => q.2.1) ?_
  rcases tN_cases T0 with e | ⟨k, hk, e⟩
  · rw [e] at hnd
    obtain ⟨g1, g2, g3, g4⟩ := co_grant_n hnd
    have hg1 : ∀ {K : Option Value → Mem → Prop}, pcall e_B_grant [.ref 16] M K = K (some (.int (-1000001))) M := fun {K} => by rw [pc_B_grant (o := 16) ⟨rfl, hP.1⟩, g1, g2]
    have hg2 : ∀ {K : Option Value → Mem → Prop}, pcall e_B_grantAll [.ref 16] M K = K (some (.int (-1000001))) M := fun {K} => by rw [pc_B_grantAll (o := 16) ⟨rfl, hP.1⟩, g3, g4]
    have m1 : ¬ nI 0 ≤ (-1 : Int32) := by decide
    simp (maxSteps := 3000000) (disch := first | exact True.intro | assumption | omega) only [↓eq_self, Option.toList_some, Option.toList_none, List.nil_append, List.cons_append, wsum_0, wsum_1, wsum_2, wsum_3, wsum_4, lkill, ↓reduceIte, if_true, if_false, Bool.false_eq_true, and_true, true_and, and_self, or_self, true_or, or_true, not_true, not_false_iff, mR_stI, mN_stI, isO_stI, isA_stI, mI_stI, mR_mW, mN_mW, isO_mW, isA_mW, mI_mW, mW_mW, stI_mW, vp_0, nI_add, nI_ltI, nI_leI, nI_eq, vpi, nI_clamp, nI_toN, nI_geT, pk_mul, pk_sub, bv_0n, bv_1n, ↓bv_01n, n01a, n01b, Nat.reduceSub, Nat.reduceAdd, Nat.reduceMul, u2_rw, rw_rw, rw_at, rw_ne, up_at, up_ne, Nat.zero_add, Nat.add_zero, lw_mW, m1_lt0, ite_nt, ↓g_W_isGranted_0, ↓g_W_isGranted_6, ↓g_W_isGranted_13, ↓g_W_isGranted_17, ↓g_W_isGranted_22, ↓g_W_isGranted_26, ↓g_W_isGranted_31, ↓g_W_isGranted_35, ↓g_W_isGranted_36, hx, e, hg1, hg2, m1, bk_oB hB]
    exact ⟨rfl, rfl, hP, Nat.le_refl _, rfl⟩
  · have h24 := hT0.D24.2
    have p0 : (nI 0 ≤ nI k) = True := eq_true ((nI_leI (by omega) (by omega)).mpr (Nat.zero_le _))
    by_cases hb0 : b = 0
    · subst hb0
      have h16 := hP.2.2.2.2.2
      have h21 := hT0.G21.2
      obtain ⟨g1, g2, g3⟩ := co_grant hcu (by omega) (hnd.trans e) hk (by show wn T0.2.1 < 40; omega)
      have e4 : tU T0 (320 + 5 * k + 4) = owV (T0.2.2 k) := Uw_w (by omega)
      have hg1 : ∀ {K : Option Value → Mem → Prop}, pcall e_B_grant [.ref 16] M K = K (some (.int (owV (T0.2.2 k)))) (gtM M) := fun {K} => by rw [pc_B_grant (o := 16) ⟨rfl, hP.1⟩, g1, e4]
      generalize gtM M = M1 at *
      have hg : ∀ {K : Option Value → Mem → Prop}, pcall e_W_grants [.ref 174, .ref 175, .ref 176, .int (nI k)] M1 K = K (some (.int (owV (T0.2.2 k)))) (trM M1 (tG T0 k)) := pc_grR (fun x h1 h2 => ⟨by rw [g3.1]; exact (hP.lw h1 h2).1, (hP.lw h1 h2).2⟩) (g3.rows.trans eT) hT0 hk
      have hB1 := g2.1.1
      have h00 : (nI 0 = nI 0) = True := eq_self _
      obtain ⟨t1, t2, t3, t4⟩ := TI_G hT0 hk
      have eR : RE (tU (tG T0 k)) (grU (tU T0) k) := RE_gr hT0.1 h21 hk
      have hC : CU (trM M1 (tG T0 k)) (kaM M) (grU (tU T0) k) := CU_tr g2 _
      have hN : mN (trM M1 (tG T0 k)) = mN M := g3.1
      have hS : StQ 0 0 M (some (.int (nI 1))) (trM M1 (tG T0 k)) := St_T hP eT hC eR (trM_rows _ _) t1 hN (Nat.le_of_eq t2) t4
      simp (maxSteps := 3000000) (disch := first | exact True.intro | assumption | omega) only [↓eq_self, Option.toList_some, Option.toList_none, List.nil_append, List.cons_append, wsum_0, wsum_1, wsum_2, wsum_3, wsum_4, lkill, ↓reduceIte, if_true, if_false, Bool.false_eq_true, and_true, true_and, and_self, or_self, true_or, or_true, not_true, not_false_iff, mR_stI, mN_stI, isO_stI, isA_stI, mI_stI, mR_mW, mN_mW, isO_mW, isA_mW, mI_mW, mW_mW, stI_mW, vp_0, nI_add, nI_ltI, nI_leI, nI_eq, vpi, nI_clamp, nI_toN, nI_geT, pk_mul, pk_sub, bv_0n, bv_1n, ↓bv_01n, n01a, n01b, Nat.reduceSub, Nat.reduceAdd, Nat.reduceMul, u2_rw, rw_rw, rw_at, rw_ne, up_at, up_ne, Nat.zero_add, Nat.add_zero, lw_mW, m1_lt0, ite_nt, ↓g_W_isGranted_0, ↓g_W_isGranted_6, ↓g_W_isGranted_13, ↓g_W_isGranted_17, ↓g_W_isGranted_22, ↓g_W_isGranted_26, ↓g_W_isGranted_31, ↓g_W_isGranted_35, ↓g_W_isGranted_36, ↓g_W_isGranted_37, ↓g_W_isGranted_45, ↓g_W_isGranted_49, ↓g_W_isGranted_57, ↓g_W_isGranted_60, ↓g_W_isGranted_64, ↓g_W_isGranted_65, hx, e, hg1, hg, p0, bk_oB hB, h00]
      exact hS
    · have hb1 : (nI b = nI 0) = False := nI_n0 (by omega) (by omega)
      have := lp_66_isGranted Z d hP eT hk e 24 0 hT0 h24 (fun q hq => absurd hq (Nat.not_lt_zero _)) (by omega)
      rw [show tS T0 0 = T0 from rfl, ← eT, trM_self, eT, e] at this
      have hbb : b = 1 := by omega
      subst hbb
      simp (maxSteps := 3000000) (disch := first | exact True.intro | assumption | omega) only [↓eq_self, Option.toList_some, Option.toList_none, List.nil_append, List.cons_append, wsum_0, wsum_1, wsum_2, wsum_3, wsum_4, lkill, ↓reduceIte, if_true, if_false, Bool.false_eq_true, and_true, true_and, and_self, or_self, true_or, or_true, not_true, not_false_iff, mR_stI, mN_stI, isO_stI, isA_stI, mI_stI, mR_mW, mN_mW, isO_mW, isA_mW, mI_mW, mW_mW, stI_mW, vp_0, nI_add, nI_ltI, nI_leI, nI_eq, vpi, nI_clamp, nI_toN, nI_geT, pk_mul, pk_sub, bv_0n, bv_1n, ↓bv_01n, n01a, n01b, Nat.reduceSub, Nat.reduceAdd, Nat.reduceMul, u2_rw, rw_rw, rw_at, rw_ne, up_at, up_ne, Nat.zero_add, Nat.add_zero, lw_mW, m1_lt0, ite_nt, ↓g_W_isGranted_0, ↓g_W_isGranted_6, ↓g_W_isGranted_37, hx, e, p0, hb1]
      exact this
