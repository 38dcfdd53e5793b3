/-! ===== a vector typed ===== -/
section Ty
variable {M : Mem} {g : Nat → Nat → Int32}
theorem apF_rw (f : Nat → Nat → Int32) (u : Nat → Int32) (v : Int32) : apF (rwF f 19 u) v = rwF (apF f v) 19 u := by
  have e : tl (rwF f 19 u) = tl f := rfl
  unfold apF
  rw [e]
  by_cases h : tl f < 60
  · rw [if_pos h, if_pos h]
    funext x y
    by_cases z : x = 19
    · rw [z, u2_ne (by omega), u2_ne (by omega), rw_at, rw_at]
    · rw [rowF_o z]
      by_cases z2 : x = 17 ∧ y = 2
      · rw [z2.1, z2.2, u2_eq, u2_eq]
      · rw [u2_nn z2, u2_nn z2]
        by_cases z3 : x = 18 ∧ y = tl f
        · rw [z3.1, z3.2, u2_eq, u2_eq]
        · rw [u2_nn z3, u2_nn z3, rowF_o z]
  · rw [if_neg h, if_neg h]
theorem apL_rw : ∀ (l : List Int32) (f : Nat → Nat → Int32) (u : Nat → Int32), apL (rwF f 19 u) l = rwF (apL f l) 19 u
  | [], _, _ => rfl
  | v :: l, f, u => by rw [apL, apF_rw, apL_rw l]; rfl
/-- the text so far: of the first k resources (from s on) those that were to be typed -/
def TyI (M : Mem) (vec : Int32) (s k : Nat) (g : Nat → Nat → Int32) : Prop := TX M g ∧ tl g ≤ 1 + 7 * k ∧ ∃ j w u, j ≤ k ∧ w < 16 ∧ RdI g j w u ∧ ∀ q, q < 4 → ((∃ i, i < k ∧ q = (i + s) % 4) → u q = unV vec q) ∧ ((¬ ∃ i, i < k ∧ q = (i + s) % 4) → w.testBit q = false ∧ u q = 0)
theorem RdI.rw {j w : Nat} {u u1 : Nat → Int32} (h : RdI g j w u) : RdI (rwF g 19 u1) j w u := h
theorem ty_no {vec : Int32} {s k : Nat} (h : TyI M vec s k g) (hk : k < 4) (h0 : unV vec ((k + s) % 4) = nI 0) : TyI M vec s (k + 1) g := by
  obtain ⟨h1, h2, j, w, u, h3, h4, h5, h6⟩ := h
  refine ⟨h1, by omega, j, w, u, by omega, h4, h5, fun q hq => ⟨fun hi => ?_, fun hi => (h6 q hq).2 (fun z => ?_)⟩⟩
  · by_cases z : ∃ i, i < k ∧ q = (i + s) % 4
    · exact (h6 q hq).1 z
    · obtain ⟨i, hi1, hi2⟩ := hi
      have : i = k := by
        rcases Nat.lt_or_ge i k with y | y
        · exact absurd ⟨i, y, hi2⟩ z
        · omega
      subst this
      rw [hi2, h0, ← hi2]
      exact ((h6 q hq).2 z).2
  · obtain ⟨i, hi1, hi2⟩ := z
    exact hi ⟨i, by omega, hi2⟩
theorem ty_len {r s2 v : Nat} (hr : r < 4) : (nmB r ++ (spB s2 ++ nuB v)).length ≤ 7 ∧ (nmB r ++ (spB s2 ++ nuB v)).length = (nmB r).length + ((spB s2).length + (nuB v).length) ∧ (spB s2).length ≤ 1 ∧ (nuB v).length ≤ 2 := by
  obtain ⟨-, -, l3⟩ := nmB_len r hr
  have e1 : (spB s2).length ≤ 1 := by
    unfold spB
    split
    · exact Nat.zero_le _
    · exact Nat.le_refl _
  have e2 : (nuB v).length ≤ 2 := by
    unfold nuB
    split
    · exact Nat.le_succ _
    · exact Nat.le_refl _
  rw [List.length_append, List.length_append]
  omega
theorem ty_yes {vec : Int32} {s k r v s2 : Nat} {u1 : Nat → Int32} (h : TyI M vec s k g) (hk : k < 4) (hr : r = (k + s) % 4) (hv : v < 100) (h0 : unV vec r = nI v) : TyI M vec s (k + 1) (rwF (apL g (nmB r ++ (spB s2 ++ nuB v))) 19 u1) ∧ (rvF (rwF (apL g (nmB r ++ (spB s2 ++ nuB v))) 19 u1)).1 = -1000003 := by
  obtain ⟨h1, h2, j, w, u, h3, h4, h5, h6⟩ := h
  have hr4 : r < 4 := by omega
  obtain ⟨l1, -, -, -⟩ := ty_len (r := r) (s2 := s2) (v := v) hr4
  have hnot : ¬ ∃ i, i < k ∧ r = (i + s) % 4 := fun ⟨i, hi1, hi2⟩ => by omega
  have hb := ((h6 r hr4).2 hnot).1
  have e2 : tl (rwF (apL g (nmB r ++ (spB s2 ++ nuB v))) 19 u1) = tl g + (nmB r ++ (spB s2 ++ nuB v)).length := apL_tl _ _ (by omega)
  have hR : RdI (rwF (apL g (nmB r ++ (spB s2 ++ nuB v))) 19 u1) (j + 1) (w ||| 1 <<< r) (upF u r (nI v)) := rd_num h5 (by omega) h4 hr4 hb hv e2 (fun y hy => (rowF_o (by omega)).trans (apL_lo _ _ (by omega) hy)) (fun q hq => (rowF_o (by omega)).trans (apL_at _ _ _ (by omega) hq))
  have ho := mk_O w h4 r hr4
  refine ⟨⟨(h1.apL _ (by omega)).rd _, by omega, j + 1, _, _, by omega, ho.2.1, hR, fun q hq => ⟨fun hi => ?_, fun hi => ?_⟩⟩, (hR.end_ (Ext.rf _) rfl).1⟩
  · by_cases z : q = r
    · rw [z]
      unfold upF
      rw [if_pos rfl, h0]
    · unfold upF
      rw [if_neg z]
      refine (h6 q hq).1 ?_
      obtain ⟨i, hi1, hi2⟩ := hi
      refine ⟨i, ?_, hi2⟩
      rcases Nat.lt_or_ge i k with y | y
      · exact y
      · exfalso
        have : i = k := by omega
        rw [this, ← hr] at hi2
        exact z hi2
  · have z : ¬ q = r := fun y => hi ⟨k, by omega, by rw [y, hr]⟩
    have h7 := (h6 q hq).2 (fun ⟨i, hi1, hi2⟩ => hi ⟨i, by omega, hi2⟩)
    refine ⟨?_, ?_⟩
    · rw [ho.2.2 q hq, h7.1]
      simp [z]
    · unfold upF
      rw [if_neg z]
      exact h7.2
theorem ty_nm {vec : Int32} {s k r : Nat} (h : TyI M vec s k g) (hk : k < 4) (hr : r = (k + s) % 4) : (rvF (apL g (nmB r))).1 = nI (tl (apL g (nmB r))) := by
  obtain ⟨h1, h2, j, w, u, h3, h4, h5, h6⟩ := h
  have hr4 : r < 4 := by omega
  obtain ⟨-, -, l3⟩ := nmB_len r hr4
  have hnot : ¬ ∃ i, i < k ∧ r = (i + s) % 4 := fun ⟨i, hi1, hi2⟩ => by omega
  have hb := ((h6 r hr4).2 hnot).1
  exact rd_name h5 (by omega) h4 hr4 hb (apL_tl _ _ (by omega)) (fun y hy => apL_lo _ _ (by omega) hy) (fun q hq => apL_at _ _ _ (by omega) hq)
def TyQ (M : Mem) (vec : Int32) (M' : Mem) : Prop := ∃ (g : Nat → Nat → Int32) (j w : Nat) (u : Nat → Int32), M' = mW M g ∧ TX M g ∧ RdI g j w u ∧ ∀ q, q < 4 → u q = unV vec q
theorem ty_end {vec : Int32} {s : Nat} (h : TyI M vec s 4 g) (hs : s < 4) : (rvF g).1 = -1000003 ∧ TyQ M vec (mW M (rwF g 19 (rvF g).2)) := by
  obtain ⟨h1, h2, j, w, u, h3, h4, h5, h6⟩ := h
  obtain ⟨e1, -⟩ := h5.end_ (Ext.rf _) rfl
  exact ⟨e1, _, j, w, u, rfl, h1.rd _, h5.rw, fun q hq => (h6 q hq).1 ⟨(q + 4 - s) % 4, by omega, by omega⟩⟩
theorem and3 (n : Nat) (h : n < 2 ^ 31) : nI n &&& nI 3 = nI (n % 4) := pk_andN (by omega) 2 (by decide)
end Ty
def e_W_types : Ent := (fun av M => ∃ vec x : Int32, (∀ q, q < 4 → ∃ n, n < 100 ∧ unV vec q = nI n) ∧ av = [.ref 16, .int vec, .int x] ∧ WB M, fun av M r_ M_ => ∀ vec x : Int32, av = [.ref 16, .int vec, .int x] → r_ = some (.int (nI 1)) ∧ TyQ M vec M_)
theorem pt_W_types {vec x : Int32} {M : Mem} {K : Option Value → Mem → Prop} (h1 : ∀ q, q < 4 → ∃ n, n < 100 ∧ unV vec q = nI n) (hW : WB M) : pcall e_W_types [.ref 16, .int vec, .int x] M K = ∀ M', TyQ M vec M' → K (some (.int (nI 1))) M' := propext ⟨fun h M' q => h.2 _ _ (fun vec2 x2 e => by
  simp only [List.cons.injEq, Value.int.injEq, and_true, true_and] at e
  obtain ⟨rfl, rfl⟩ := e
  exact ⟨rfl, q⟩), fun h => ⟨⟨vec, x, h1, rfl, hW⟩, fun r_ M_ q => by
  obtain ⟨rfl, q2⟩ := q vec x rfl
  exact h _ q2⟩⟩
def C_W_types : List (Nat × Ent) := [(i_B_clearText, e_B_clearText), (i_B_type, e_B_type), (i_W_low, e_W_low), (i_W_units, e_W_units), (i_W_typesName, e_W_typesName), (i_B_fault, e_B_fault), (i_B_count, e_B_count), (i_W_typesNumber, e_W_typesNumber)]
abbrev S_W_types : List Nat := [26, 69]
def t_W_types_161 : List PI := (161, 9, 1, 0, 0, 0, []) :: []
def t_W_types_160 : List PI := (160, 0, 0, 0, 0, 0, []) :: t_W_types_161
def t_W_types_156 : List PI := (156, 0, 0, 0, 0, 1, []) :: (157, 6, 0, 161, 0, 0, []) :: t_W_types_160
def t_W_types_151 : List PI := (151, 0, 0, 49, 3, -1000003, []) :: (153, 4, 1, 160, 0, 0, []) :: t_W_types_156
def t_W_types_147 : List PI := (147, 1, 1, 0, 0, 0, []) :: (148, 11, 0, 4, 55, 0, [40, 1]) :: t_W_types_151
def t_W_types_143 : List PI := (143, 1, 0, 3, 0, 0, []) :: (144, 5, 0, 160, 0, 0, []) :: t_W_types_147
def t_W_types_137 : List PI := (137, 1, 6, 4, 0, 1, []) :: (140, 6, 0, 26, 0, 0, []) :: t_W_types_143
def t_W_types_136 : List PI := (136, 1, 3, 3, 0, 0, []) :: t_W_types_137
def t_W_types_135 : List PI := (135, 0, 0, 0, 0, 0, []) :: t_W_types_136
def t_W_types_131 : List PI := (131, 0, 0, 0, 0, 1, []) :: (132, 6, 0, 136, 0, 0, []) :: t_W_types_135
def t_W_types_126 : List PI := (126, 0, 0, 49, 3, -1000003, []) :: (128, 4, 1, 135, 0, 0, []) :: t_W_types_131
def t_W_types_122 : List PI := (122, 1, 1, 0, 0, 0, []) :: (123, 11, 0, 4, 55, 0, [40, 1]) :: t_W_types_126
def t_W_types_119 : List PI := (119, 5, 0, 135, 0, 0, []) :: t_W_types_122
def t_W_types_113 : List PI := (113, 1, 1, 0, 0, 0, []) :: (114, 1, 0, 6, 0, 0, []) :: (116, 11, 1, 0, 79, 0, [46, 2]) :: t_W_types_119
def t_W_types_110 : List PI := (110, 5, 5, 135, 0, 0, []) :: t_W_types_113
def t_W_types_104 : List PI := (104, 1, 1, 0, 0, 0, []) :: (105, 0, 0, 0, 1, 32, []) :: (107, 11, 0, 4, 53, 0, [19, 2]) :: t_W_types_110
def t_W_types_95 : List PI := (95, 1, 0, 2, 0, 0, []) :: (96, 0, 0, 0, 1, 7, []) :: (98, 2, 9, 0, 0, 0, []) :: (99, 0, 0, 0, 0, 1, []) :: (100, 2, 6, 0, 0, 0, []) :: (101, 5, 0, 113, 0, 0, []) :: t_W_types_104
def t_W_types_92 : List PI := (92, 4, 1, 135, 0, 0, []) :: t_W_types_95
def t_W_types_86 : List PI := (86, 1, 1, 0, 0, 0, []) :: (87, 0, 0, 0, 1, 9, []) :: (89, 11, 0, 4, 72, 0, [43, 2]) :: t_W_types_92
def t_W_types_82 : List PI := (82, 1, 1, 0, 0, 0, []) :: (83, 11, 0, 4, 55, 0, [40, 1]) :: t_W_types_86
def t_W_types_79 : List PI := (79, 5, 0, 135, 0, 0, []) :: t_W_types_82
def t_W_types_73 : List PI := (73, 1, 1, 0, 0, 0, []) :: (74, 1, 0, 5, 0, 0, []) :: (76, 11, 1, 0, 80, 0, [36, 2]) :: t_W_types_79
def t_W_types_69 : List PI := (69, 1, 0, 3, 0, 0, []) :: (70, 5, 0, 135, 0, 0, []) :: t_W_types_73
def t_W_types_57 : List PI := (57, 1, 0, 2, 0, 0, []) :: (58, 0, 0, 0, 0, 3, []) :: (59, 1, 0, 4, 0, 0, []) :: (61, 2, 0, 0, 0, 0, []) :: (62, 2, 9, 0, 0, 0, []) :: (63, 0, 0, 0, 0, 1, []) :: (64, 2, 6, 0, 0, 0, []) :: (65, 0, 0, 0, 0, 1, []) :: (66, 4, 1, 137, 0, 0, []) :: t_W_types_69
def t_W_types_50 : List PI := (50, 1, 3, 6, 0, 0, []) :: (52, 1, 0, 6, 0, 0, []) :: (54, 5, 4, 69, 0, 0, []) :: t_W_types_57
def t_W_types_39 : List PI := (39, 2, 0, 0, 0, 0, []) :: (40, 0, 0, 0, 0, 3, []) :: (41, 2, 6, 0, 0, 0, []) :: (42, 1, 3, 5, 0, 0, []) :: (44, 1, 0, 1, 0, 0, []) :: (45, 1, 0, 5, 0, 0, []) :: (47, 11, 1, 0, 75, 0, [9, 2]) :: t_W_types_50
def t_W_types_32 : List PI := (32, 1, 0, 4, 0, 0, []) :: (34, 1, 0, 2, 0, 0, []) :: (35, 0, 0, 0, 0, 4, []) :: (36, 11, 1, 0, 74, 0, [33, 2]) :: t_W_types_39
def t_W_types_26 : List PI := (26, 1, 0, 4, 0, 0, []) :: (28, 0, 0, 0, 0, 4, []) :: (29, 4, 3, 143, 0, 0, []) :: t_W_types_32
def t_W_types_22 : List PI := (22, 1, 3, 3, 0, 0, []) :: (23, 0, 0, 0, 0, 0, []) :: (24, 1, 3, 4, 0, 0, []) :: t_W_types_26
def t_W_types_21 : List PI := (21, 0, 0, 0, 0, 0, []) :: t_W_types_22
def t_W_types_17 : List PI := (17, 0, 0, 0, 0, 1, []) :: (18, 6, 0, 22, 0, 0, []) :: t_W_types_21
def t_W_types_13 : List PI := (13, 0, 0, 0, 0, 1, []) :: (14, 4, 1, 21, 0, 0, []) :: t_W_types_17
def t_W_types_7 : List PI := (7, 1, 1, 0, 0, 0, []) :: (8, 0, 0, 0, 1, 32, []) :: (10, 11, 0, 4, 53, 0, [19, 2]) :: t_W_types_13
def t_W_types_4 : List PI := (4, 5, 2, 21, 0, 0, []) :: t_W_types_7
def t_W_types_0 : List PI := (0, 1, 1, 0, 0, 0, []) :: (1, 11, 0, 4, 54, 0, [29, 1]) :: t_W_types_4
theorem kt_W_types : okP s_W_types t_W_types_0 := k_W_types
theorem g_W_types_0 {Z : Zt} {nF f : Nat} {Kx : Nat → Kt} {Q : Option Value → Mem → Prop} {M : Mem} {x1 : Nat} {x2 : Int32} {x3 : Int32} : run Z nF C_W_types S_W_types Kx Q (f + 2) t_W_types_0 [some (.ref (x1)), some (.int (x2)), some (.int (x3)), none, none, none, none] [] M = (((isO (M) (x1) 4) ∧ wsum [] ≤ 8) ∧ pcall e_B_clearText [.ref (x1)] (M) (fun v M_ => run Z nF C_W_types S_W_types Kx Q f t_W_types_4 [some (.ref (x1)), some (.int (x2)), some (.int (x3)), none, none, none, none] (v.toList ++ []) M_)) := id rfl
theorem g_W_types_4 {Z : Zt} {nF f : Nat} {Kx : Nat → Kt} {Q : Option Value → Mem → Prop} {M : Mem} {x1 : Nat} {x2 : Int32} {x3 : Int32} {x4 : Int32} : run Z nF C_W_types S_W_types Kx Q (f + 1) t_W_types_4 [some (.ref (x1)), some (.int (x2)), some (.int (x3)), none, none, none, none] [.int (x4)] M = ((if (x4) < nI 0 then run Z nF C_W_types S_W_types Kx Q f t_W_types_21 [some (.ref (x1)), some (.int (x2)), some (.int (x3)), none, none, none, none] [] (M) else run Z nF C_W_types S_W_types Kx Q f t_W_types_7 [some (.ref (x1)), some (.int (x2)), some (.int (x3)), none, none, none, none] [] (M))) := id rfl
theorem g_W_types_7 {Z : Zt} {nF f : Nat} {Kx : Nat → Kt} {Q : Option Value → Mem → Prop} {M : Mem} {x1 : Nat} {x2 : Int32} {x3 : Int32} : run Z nF C_W_types S_W_types Kx Q (f + 3) t_W_types_7 [some (.ref (x1)), some (.int (x2)), some (.int (x3)), none, none, none, none] [] M = (((isO (M) (x1) 4) ∧ wsum [] ≤ 8) ∧ pcall e_B_type [.ref (x1), .int ((nI 32))] (M) (fun v M_ => run Z nF C_W_types S_W_types Kx Q f t_W_types_13 [some (.ref (x1)), some (.int (x2)), some (.int (x3)), none, none, none, none] (v.toList ++ []) M_)) := id rfl
theorem g_W_types_13 {Z : Zt} {nF f : Nat} {Kx : Nat → Kt} {Q : Option Value → Mem → Prop} {M : Mem} {x1 : Nat} {x2 : Int32} {x3 : Int32} {x4 : Int32} : run Z nF C_W_types S_W_types Kx Q (f + 2) t_W_types_13 [some (.ref (x1)), some (.int (x2)), some (.int (x3)), none, none, none, none] [.int (x4)] M = ((if (x4) = ((nI 1)) then run Z nF C_W_types S_W_types Kx Q f t_W_types_17 [some (.ref (x1)), some (.int (x2)), some (.int (x3)), none, none, none, none] [] (M) else run Z nF C_W_types S_W_types Kx Q f t_W_types_21 [some (.ref (x1)), some (.int (x2)), some (.int (x3)), none, none, none, none] [] (M))) := id rfl
theorem g_W_types_17 {Z : Zt} {nF f : Nat} {Kx : Nat → Kt} {Q : Option Value → Mem → Prop} {M : Mem} {x1 : Nat} {x2 : Int32} {x3 : Int32} : run Z nF C_W_types S_W_types Kx Q (f + 2) t_W_types_17 [some (.ref (x1)), some (.int (x2)), some (.int (x3)), none, none, none, none] [] M = (run Z nF C_W_types S_W_types Kx Q f t_W_types_22 [some (.ref (x1)), some (.int (x2)), some (.int (x3)), none, none, none, none] [.int ((nI 1))] (M)) := id rfl
theorem g_W_types_21 {Z : Zt} {nF f : Nat} {Kx : Nat → Kt} {Q : Option Value → Mem → Prop} {M : Mem} {x1 : Nat} {x2 : Int32} {x3 : Int32} : run Z nF C_W_types S_W_types Kx Q (f + 1) t_W_types_21 [some (.ref (x1)), some (.int (x2)), some (.int (x3)), none, none, none, none] [] M = (run Z nF C_W_types S_W_types Kx Q f t_W_types_22 [some (.ref (x1)), some (.int (x2)), some (.int (x3)), none, none, none, none] [.int ((nI 0))] (M)) := id rfl
theorem g_W_types_22 {Z : Zt} {nF f : Nat} {Kx : Nat → Kt} {Q : Option Value → Mem → Prop} {M : Mem} {x1 : Nat} {x2 : Int32} {x3 : Int32} {x4 : Int32} : run Z nF C_W_types S_W_types Kx Q (f + 3) t_W_types_22 [some (.ref (x1)), some (.int (x2)), some (.int (x3)), none, none, none, none] [.int (x4)] M = (Kx 26 [some (.ref (x1)), some (.int (x2)), some (.int (x3)), some (.int (x4)), some (.int ((nI 0))), none, none] [] (M)) := id rfl
theorem g_W_types_26 {Z : Zt} {nF f : Nat} {Kx : Nat → Kt} {Q : Option Value → Mem → Prop} {M : Mem} {x1 : Nat} {x2 : Int32} {x3 : Int32} {x4 : Int32} {x5 : Int32} {x6 : Option Value} {x7 : Option Value} : run Z nF C_W_types S_W_types Kx Q (f + 3) t_W_types_26 [some (.ref (x1)), some (.int (x2)), some (.int (x3)), some (.int (x4)), some (.int (x5)), x6, x7] [] M = ((if ((nI 4)) ≤ (x5) then run Z nF C_W_types S_W_types Kx Q f t_W_types_143 [some (.ref (x1)), some (.int (x2)), some (.int (x3)), some (.int (x4)), some (.int (x5)), x6, x7] [] (M) else run Z nF C_W_types S_W_types Kx Q f t_W_types_32 [some (.ref (x1)), some (.int (x2)), some (.int (x3)), some (.int (x4)), some (.int (x5)), x6, x7] [] (M))) := id rfl
theorem g_W_types_32 {Z : Zt} {nF f : Nat} {Kx : Nat → Kt} {Q : Option Value → Mem → Prop} {M : Mem} {x1 : Nat} {x2 : Int32} {x3 : Int32} {x4 : Int32} {x5 : Int32} {x6 : Option Value} {x7 : Option Value} : run Z nF C_W_types S_W_types Kx Q (f + 4) t_W_types_32 [some (.ref (x1)), some (.int (x2)), some (.int (x3)), some (.int (x4)), some (.int (x5)), x6, x7] [] M = (((True) ∧ wsum [.int (x5)] ≤ 8) ∧ pcall e_W_low [.int (x3), .int ((nI 4))] (M) (fun v M_ => run Z nF C_W_types S_W_types Kx Q f t_W_types_39 [some (.ref (x1)), some (.int (x2)), some (.int (x3)), some (.int (x4)), some (.int (x5)), x6, x7] (v.toList ++ [.int (x5)]) M_)) := id rfl
theorem g_W_types_39 {Z : Zt} {nF f : Nat} {Kx : Nat → Kt} {Q : Option Value → Mem → Prop} {M : Mem} {x1 : Nat} {x2 : Int32} {x3 : Int32} {x4 : Int32} {x5 : Int32} {x6 : Option Value} {x7 : Option Value} {x8 : Int32} {x9 : Int32} : run Z nF C_W_types S_W_types Kx Q (f + 7) t_W_types_39 [some (.ref (x1)), some (.int (x2)), some (.int (x3)), some (.int (x4)), some (.int (x5)), x6, x7] [.int (x8), .int (x9)] M = (((True) ∧ wsum [] ≤ 8) ∧ pcall e_W_units [.int (x2), .int (((x9) + (x8)) &&& ((nI 3)))] (M) (fun v M_ => run Z nF C_W_types S_W_types Kx Q f t_W_types_50 [some (.ref (x1)), some (.int (x2)), some (.int (x3)), some (.int (x4)), some (.int (x5)), some (.int (((x9) + (x8)) &&& ((nI 3)))), x7] (v.toList ++ []) M_)) := id rfl
theorem g_W_types_50 {Z : Zt} {nF f : Nat} {Kx : Nat → Kt} {Q : Option Value → Mem → Prop} {M : Mem} {x1 : Nat} {x2 : Int32} {x3 : Int32} {x4 : Int32} {x5 : Int32} {x6 : Int32} {x7 : Option Value} {x8 : Int32} : run Z nF C_W_types S_W_types Kx Q (f + 3) t_W_types_50 [some (.ref (x1)), some (.int (x2)), some (.int (x3)), some (.int (x4)), some (.int (x5)), some (.int (x6)), x7] [.int (x8)] M = ((if nI 0 < (x8) then Kx 69 [some (.ref (x1)), some (.int (x2)), some (.int (x3)), some (.int (x4)), some (.int (x5)), some (.int (x6)), some (.int (x8))] [] (M) else run Z nF C_W_types S_W_types Kx Q f t_W_types_57 [some (.ref (x1)), some (.int (x2)), some (.int (x3)), some (.int (x4)), some (.int (x5)), some (.int (x6)), some (.int (x8))] [] (M))) := id rfl
theorem g_W_types_57 {Z : Zt} {nF f : Nat} {Kx : Nat → Kt} {Q : Option Value → Mem → Prop} {M : Mem} {x1 : Nat} {x2 : Int32} {x3 : Int32} {x4 : Int32} {x5 : Int32} {x6 : Int32} {x7 : Int32} : run Z nF C_W_types S_W_types Kx Q (f + 9) t_W_types_57 [some (.ref (x1)), some (.int (x2)), some (.int (x3)), some (.int (x4)), some (.int (x5)), some (.int (x6)), some (.int (x7))] [] M = ((if (((x3) >>> ((((nI 3)) + (x5)) &&& 31)) &&& ((nI 1))) = ((nI 1)) then Kx 69 [some (.ref (x1)), some (.int (x2)), some (.int (x3)), some (.int (x4)), some (.int (x5)), some (.int (x6)), some (.int (x7))] [] (M) else run Z nF C_W_types S_W_types Kx Q f t_W_types_137 [some (.ref (x1)), some (.int (x2)), some (.int (x3)), some (.int (x4)), some (.int (x5)), some (.int (x6)), some (.int (x7))] [] (M))) := id rfl
theorem g_W_types_69 {Z : Zt} {nF f : Nat} {Kx : Nat → Kt} {Q : Option Value → Mem → Prop} {M : Mem} {x1 : Nat} {x2 : Int32} {x3 : Int32} {x4 : Int32} {x5 : Int32} {x6 : Int32} {x7 : Int32} : run Z nF C_W_types S_W_types Kx Q (f + 2) t_W_types_69 [some (.ref (x1)), some (.int (x2)), some (.int (x3)), some (.int (x4)), some (.int (x5)), some (.int (x6)), some (.int (x7))] [] M = ((if (x4) = nI 0 then run Z nF C_W_types S_W_types Kx Q f t_W_types_135 [some (.ref (x1)), some (.int (x2)), some (.int (x3)), some (.int (x4)), some (.int (x5)), some (.int (x6)), some (.int (x7))] [] (M) else run Z nF C_W_types S_W_types Kx Q f t_W_types_73 [some (.ref (x1)), some (.int (x2)), some (.int (x3)), some (.int (x4)), some (.int (x5)), some (.int (x6)), some (.int (x7))] [] (M))) := id rfl
theorem g_W_types_73 {Z : Zt} {nF f : Nat} {Kx : Nat → Kt} {Q : Option Value → Mem → Prop} {M : Mem} {x1 : Nat} {x2 : Int32} {x3 : Int32} {x4 : Int32} {x5 : Int32} {x6 : Int32} {x7 : Int32} : run Z nF C_W_types S_W_types Kx Q (f + 3) t_W_types_73 [some (.ref (x1)), some (.int (x2)), some (.int (x3)), some (.int (x4)), some (.int (x5)), some (.int (x6)), some (.int (x7))] [] M = (((True) ∧ wsum [] ≤ 8) ∧ pcall e_W_typesName [.ref (x1), .int (x6)] (M) (fun v M_ => run Z nF C_W_types S_W_types Kx Q f t_W_types_79 [some (.ref (x1)), some (.int (x2)), some (.int (x3)), some (.int (x4)), some (.int (x5)), some (.int (x6)), some (.int (x7))] (v.toList ++ []) M_)) := id rfl
theorem g_W_types_79 {Z : Zt} {nF f : Nat} {Kx : Nat → Kt} {Q : Option Value → Mem → Prop} {M : Mem} {x1 : Nat} {x2 : Int32} {x3 : Int32} {x4 : Int32} {x5 : Int32} {x6 : Int32} {x7 : Int32} {x8 : Int32} : run Z nF C_W_types S_W_types Kx Q (f + 1) t_W_types_79 [some (.ref (x1)), some (.int (x2)), some (.int (x3)), some (.int (x4)), some (.int (x5)), some (.int (x6)), some (.int (x7))] [.int (x8)] M = ((if (x8) = nI 0 then run Z nF C_W_types S_W_types Kx Q f t_W_types_135 [some (.ref (x1)), some (.int (x2)), some (.int (x3)), some (.int (x4)), some (.int (x5)), some (.int (x6)), some (.int (x7))] [] (M) else run Z nF C_W_types S_W_types Kx Q f t_W_types_82 [some (.ref (x1)), some (.int (x2)), some (.int (x3)), some (.int (x4)), some (.int (x5)), some (.int (x6)), some (.int (x7))] [] (M))) := id rfl
theorem g_W_types_82 {Z : Zt} {nF f : Nat} {Kx : Nat → Kt} {Q : Option Value → Mem → Prop} {M : Mem} {x1 : Nat} {x2 : Int32} {x3 : Int32} {x4 : Int32} {x5 : Int32} {x6 : Int32} {x7 : Int32} : run Z nF C_W_types S_W_types Kx Q (f + 2) t_W_types_82 [some (.ref (x1)), some (.int (x2)), some (.int (x3)), some (.int (x4)), some (.int (x5)), some (.int (x6)), some (.int (x7))] [] M = (((isO (M) (x1) 4) ∧ wsum [] ≤ 8) ∧ pcall e_B_fault [.ref (x1)] (M) (fun v M_ => run Z nF C_W_types S_W_types Kx Q f t_W_types_86 [some (.ref (x1)), some (.int (x2)), some (.int (x3)), some (.int (x4)), some (.int (x5)), some (.int (x6)), some (.int (x7))] (v.toList ++ []) M_)) := id rfl
theorem g_W_types_86 {Z : Zt} {nF f : Nat} {Kx : Nat → Kt} {Q : Option Value → Mem → Prop} {M : Mem} {x1 : Nat} {x2 : Int32} {x3 : Int32} {x4 : Int32} {x5 : Int32} {x6 : Int32} {x7 : Int32} {x8 : Int32} : run Z nF C_W_types S_W_types Kx Q (f + 3) t_W_types_86 [some (.ref (x1)), some (.int (x2)), some (.int (x3)), some (.int (x4)), some (.int (x5)), some (.int (x6)), some (.int (x7))] [.int (x8)] M = (((isO (M) (x1) 4) ∧ wsum [.int (x8)] ≤ 8) ∧ pcall e_B_count [.ref (x1), .int ((nI 9))] (M) (fun v M_ => run Z nF C_W_types S_W_types Kx Q f t_W_types_92 [some (.ref (x1)), some (.int (x2)), some (.int (x3)), some (.int (x4)), some (.int (x5)), some (.int (x6)), some (.int (x7))] (v.toList ++ [.int (x8)]) M_)) := id rfl
theorem g_W_types_92 {Z : Zt} {nF f : Nat} {Kx : Nat → Kt} {Q : Option Value → Mem → Prop} {M : Mem} {x1 : Nat} {x2 : Int32} {x3 : Int32} {x4 : Int32} {x5 : Int32} {x6 : Int32} {x7 : Int32} {x8 : Int32} {x9 : Int32} : run Z nF C_W_types S_W_types Kx Q (f + 1) t_W_types_92 [some (.ref (x1)), some (.int (x2)), some (.int (x3)), some (.int (x4)), some (.int (x5)), some (.int (x6)), some (.int (x7))] [.int (x8), .int (x9)] M = ((if (x9) = (x8) then run Z nF C_W_types S_W_types Kx Q f t_W_types_95 [some (.ref (x1)), some (.int (x2)), some (.int (x3)), some (.int (x4)), some (.int (x5)), some (.int (x6)), some (.int (x7))] [] (M) else run Z nF C_W_types S_W_types Kx Q f t_W_types_135 [some (.ref (x1)), some (.int (x2)), some (.int (x3)), some (.int (x4)), some (.int (x5)), some (.int (x6)), some (.int (x7))] [] (M))) := id rfl
theorem g_W_types_95 {Z : Zt} {nF f : Nat} {Kx : Nat → Kt} {Q : Option Value → Mem → Prop} {M : Mem} {x1 : Nat} {x2 : Int32} {x3 : Int32} {x4 : Int32} {x5 : Int32} {x6 : Int32} {x7 : Int32} : run Z nF C_W_types S_W_types Kx Q (f + 6) t_W_types_95 [some (.ref (x1)), some (.int (x2)), some (.int (x3)), some (.int (x4)), some (.int (x5)), some (.int (x6)), some (.int (x7))] [] M = ((if (((x3) >>> (((nI 7)) &&& 31)) &&& ((nI 1))) = nI 0 then run Z nF C_W_types S_W_types Kx Q f t_W_types_113 [some (.ref (x1)), some (.int (x2)), some (.int (x3)), some (.int (x4)), some (.int (x5)), some (.int (x6)), some (.int (x7))] [] (M) else run Z nF C_W_types S_W_types Kx Q f t_W_types_104 [some (.ref (x1)), some (.int (x2)), some (.int (x3)), some (.int (x4)), some (.int (x5)), some (.int (x6)), some (.int (x7))] [] (M))) := id rfl
theorem g_W_types_104 {Z : Zt} {nF f : Nat} {Kx : Nat → Kt} {Q : Option Value → Mem → Prop} {M : Mem} {x1 : Nat} {x2 : Int32} {x3 : Int32} {x4 : Int32} {x5 : Int32} {x6 : Int32} {x7 : Int32} : run Z nF C_W_types S_W_types Kx Q (f + 3) t_W_types_104 [some (.ref (x1)), some (.int (x2)), some (.int (x3)), some (.int (x4)), some (.int (x5)), some (.int (x6)), some (.int (x7))] [] M = (((isO (M) (x1) 4) ∧ wsum [] ≤ 8) ∧ pcall e_B_type [.ref (x1), .int ((nI 32))] (M) (fun v M_ => run Z nF C_W_types S_W_types Kx Q f t_W_types_110 [some (.ref (x1)), some (.int (x2)), some (.int (x3)), some (.int (x4)), some (.int (x5)), some (.int (x6)), some (.int (x7))] (v.toList ++ []) M_)) := id rfl
theorem g_W_types_110 {Z : Zt} {nF f : Nat} {Kx : Nat → Kt} {Q : Option Value → Mem → Prop} {M : Mem} {x1 : Nat} {x2 : Int32} {x3 : Int32} {x4 : Int32} {x5 : Int32} {x6 : Int32} {x7 : Int32} {x8 : Int32} : run Z nF C_W_types S_W_types Kx Q (f + 1) t_W_types_110 [some (.ref (x1)), some (.int (x2)), some (.int (x3)), some (.int (x4)), some (.int (x5)), some (.int (x6)), some (.int (x7))] [.int (x8)] M = ((if (x8) ≤ nI 0 then run Z nF C_W_types S_W_types Kx Q f t_W_types_135 [some (.ref (x1)), some (.int (x2)), some (.int (x3)), some (.int (x4)), some (.int (x5)), some (.int (x6)), some (.int (x7))] [] (M) else run Z nF C_W_types S_W_types Kx Q f t_W_types_113 [some (.ref (x1)), some (.int (x2)), some (.int (x3)), some (.int (x4)), some (.int (x5)), some (.int (x6)), some (.int (x7))] [] (M))) := id rfl
theorem g_W_types_113 {Z : Zt} {nF f : Nat} {Kx : Nat → Kt} {Q : Option Value → Mem → Prop} {M : Mem} {x1 : Nat} {x2 : Int32} {x3 : Int32} {x4 : Int32} {x5 : Int32} {x6 : Int32} {x7 : Int32} : run Z nF C_W_types S_W_types Kx Q (f + 3) t_W_types_113 [some (.ref (x1)), some (.int (x2)), some (.int (x3)), some (.int (x4)), some (.int (x5)), some (.int (x6)), some (.int (x7))] [] M = (((True) ∧ wsum [] ≤ 8) ∧ pcall e_W_typesNumber [.ref (x1), .int (x7)] (M) (fun v M_ => run Z nF C_W_types S_W_types Kx Q f t_W_types_119 [some (.ref (x1)), some (.int (x2)), some (.int (x3)), some (.int (x4)), some (.int (x5)), some (.int (x6)), some (.int (x7))] (v.toList ++ []) M_)) := id rfl
theorem g_W_types_119 {Z : Zt} {nF f : Nat} {Kx : Nat → Kt} {Q : Option Value → Mem → Prop} {M : Mem} {x1 : Nat} {x2 : Int32} {x3 : Int32} {x4 : Int32} {x5 : Int32} {x6 : Int32} {x7 : Int32} {x8 : Int32} : run Z nF C_W_types S_W_types Kx Q (f + 1) t_W_types_119 [some (.ref (x1)), some (.int (x2)), some (.int (x3)), some (.int (x4)), some (.int (x5)), some (.int (x6)), some (.int (x7))] [.int (x8)] M = ((if (x8) = nI 0 then run Z nF C_W_types S_W_types Kx Q f t_W_types_135 [some (.ref (x1)), some (.int (x2)), some (.int (x3)), some (.int (x4)), some (.int (x5)), some (.int (x6)), some (.int (x7))] [] (M) else run Z nF C_W_types S_W_types Kx Q f t_W_types_122 [some (.ref (x1)), some (.int (x2)), some (.int (x3)), some (.int (x4)), some (.int (x5)), some (.int (x6)), some (.int (x7))] [] (M))) := id rfl
theorem g_W_types_122 {Z : Zt} {nF f : Nat} {Kx : Nat → Kt} {Q : Option Value → Mem → Prop} {M : Mem} {x1 : Nat} {x2 : Int32} {x3 : Int32} {x4 : Int32} {x5 : Int32} {x6 : Int32} {x7 : Int32} : run Z nF C_W_types S_W_types Kx Q (f + 2) t_W_types_122 [some (.ref (x1)), some (.int (x2)), some (.int (x3)), some (.int (x4)), some (.int (x5)), some (.int (x6)), some (.int (x7))] [] M = (((isO (M) (x1) 4) ∧ wsum [] ≤ 8) ∧ pcall e_B_fault [.ref (x1)] (M) (fun v M_ => run Z nF C_W_types S_W_types Kx Q f t_W_types_126 [some (.ref (x1)), some (.int (x2)), some (.int (x3)), some (.int (x4)), some (.int (x5)), some (.int (x6)), some (.int (x7))] (v.toList ++ []) M_)) := id rfl
theorem g_W_types_126 {Z : Zt} {nF f : Nat} {Kx : Nat → Kt} {Q : Option Value → Mem → Prop} {M : Mem} {x1 : Nat} {x2 : Int32} {x3 : Int32} {x4 : Int32} {x5 : Int32} {x6 : Int32} {x7 : Int32} {x8 : Int32} : run Z nF C_W_types S_W_types Kx Q (f + 2) t_W_types_126 [some (.ref (x1)), some (.int (x2)), some (.int (x3)), some (.int (x4)), some (.int (x5)), some (.int (x6)), some (.int (x7))] [.int (x8)] M = ((if (x8) = ((-1000003 : Int32)) then run Z nF C_W_types S_W_types Kx Q f t_W_types_131 [some (.ref (x1)), some (.int (x2)), some (.int (x3)), some (.int (x4)), some (.int (x5)), some (.int (x6)), some (.int (x7))] [] (M) else run Z nF C_W_types S_W_types Kx Q f t_W_types_135 [some (.ref (x1)), some (.int (x2)), some (.int (x3)), some (.int (x4)), some (.int (x5)), some (.int (x6)), some (.int (x7))] [] (M))) := id rfl
theorem g_W_types_131 {Z : Zt} {nF f : Nat} {Kx : Nat → Kt} {Q : Option Value → Mem → Prop} {M : Mem} {x1 : Nat} {x2 : Int32} {x3 : Int32} {x4 : Int32} {x5 : Int32} {x6 : Int32} {x7 : Int32} : run Z nF C_W_types S_W_types Kx Q (f + 2) t_W_types_131 [some (.ref (x1)), some (.int (x2)), some (.int (x3)), some (.int (x4)), some (.int (x5)), some (.int (x6)), some (.int (x7))] [] M = (run Z nF C_W_types S_W_types Kx Q f t_W_types_136 [some (.ref (x1)), some (.int (x2)), some (.int (x3)), some (.int (x4)), some (.int (x5)), some (.int (x6)), some (.int (x7))] [.int ((nI 1))] (M)) := id rfl
theorem g_W_types_135 {Z : Zt} {nF f : Nat} {Kx : Nat → Kt} {Q : Option Value → Mem → Prop} {M : Mem} {x1 : Nat} {x2 : Int32} {x3 : Int32} {x4 : Int32} {x5 : Int32} {x6 : Int32} {x7 : Int32} : run Z nF C_W_types S_W_types Kx Q (f + 1) t_W_types_135 [some (.ref (x1)), some (.int (x2)), some (.int (x3)), some (.int (x4)), some (.int (x5)), some (.int (x6)), some (.int (x7))] [] M = (run Z nF C_W_types S_W_types Kx Q f t_W_types_136 [some (.ref (x1)), some (.int (x2)), some (.int (x3)), some (.int (x4)), some (.int (x5)), some (.int (x6)), some (.int (x7))] [.int ((nI 0))] (M)) := id rfl
theorem g_W_types_136 {Z : Zt} {nF f : Nat} {Kx : Nat → Kt} {Q : Option Value → Mem → Prop} {M : Mem} {x1 : Nat} {x2 : Int32} {x3 : Int32} {x4 : Int32} {x5 : Int32} {x6 : Int32} {x7 : Int32} {x8 : Int32} : run Z nF C_W_types S_W_types Kx Q (f + 1) t_W_types_136 [some (.ref (x1)), some (.int (x2)), some (.int (x3)), some (.int (x4)), some (.int (x5)), some (.int (x6)), some (.int (x7))] [.int (x8)] M = (run Z nF C_W_types S_W_types Kx Q f t_W_types_137 [some (.ref (x1)), some (.int (x2)), some (.int (x3)), some (.int (x8)), some (.int (x5)), some (.int (x6)), some (.int (x7))] [] (M)) := id rfl
theorem g_W_types_137 {Z : Zt} {nF f : Nat} {Kx : Nat → Kt} {Q : Option Value → Mem → Prop} {M : Mem} {x1 : Nat} {x2 : Int32} {x3 : Int32} {x4 : Int32} {x5 : Int32} {x6 : Int32} {x7 : Int32} : run Z nF C_W_types S_W_types Kx Q (f + 2) t_W_types_137 [some (.ref (x1)), some (.int (x2)), some (.int (x3)), some (.int (x4)), some (.int (x5)), some (.int (x6)), some (.int (x7))] [] M = (Kx 26 [some (.ref (x1)), some (.int (x2)), some (.int (x3)), some (.int (x4)), some (.int (x5 + (nI 1))), some (.int (x6)), some (.int (x7))] [] (M)) := id rfl
theorem g_W_types_143 {Z : Zt} {nF f : Nat} {Kx : Nat → Kt} {Q : Option Value → Mem → Prop} {M : Mem} {x1 : Nat} {x2 : Int32} {x3 : Int32} {x4 : Int32} {x5 : Int32} {x6 : Option Value} {x7 : Option Value} : run Z nF C_W_types S_W_types Kx Q (f + 2) t_W_types_143 [some (.ref (x1)), some (.int (x2)), some (.int (x3)), some (.int (x4)), some (.int (x5)), x6, x7] [] M = ((if (x4) = nI 0 then run Z nF C_W_types S_W_types Kx Q f t_W_types_160 [some (.ref (x1)), some (.int (x2)), some (.int (x3)), some (.int (x4)), some (.int (x5)), x6, x7] [] (M) else run Z nF C_W_types S_W_types Kx Q f t_W_types_147 [some (.ref (x1)), some (.int (x2)), some (.int (x3)), some (.int (x4)), some (.int (x5)), x6, x7] [] (M))) := id rfl
theorem g_W_types_147 {Z : Zt} {nF f : Nat} {Kx : Nat → Kt} {Q : Option Value → Mem → Prop} {M : Mem} {x1 : Nat} {x2 : Int32} {x3 : Int32} {x4 : Int32} {x5 : Int32} {x6 : Option Value} {x7 : Option Value} : run Z nF C_W_types S_W_types Kx Q (f + 2) t_W_types_147 [some (.ref (x1)), some (.int (x2)), some (.int (x3)), some (.int (x4)), some (.int (x5)), x6, x7] [] M = (((isO (M) (x1) 4) ∧ wsum [] ≤ 8) ∧ pcall e_B_fault [.ref (x1)] (M) (fun v M_ => run Z nF C_W_types S_W_types Kx Q f t_W_types_151 [some (.ref (x1)), some (.int (x2)), some (.int (x3)), some (.int (x4)), some (.int (x5)), x6, x7] (v.toList ++ []) M_)) := id rfl
theorem g_W_types_151 {Z : Zt} {nF f : Nat} {Kx : Nat → Kt} {Q : Option Value → Mem → Prop} {M : Mem} {x1 : Nat} {x2 : Int32} {x3 : Int32} {x4 : Int32} {x5 : Int32} {x6 : Option Value} {x7 : Option Value} {x8 : Int32} : run Z nF C_W_types S_W_types Kx Q (f + 2) t_W_types_151 [some (.ref (x1)), some (.int (x2)), some (.int (x3)), some (.int (x4)), some (.int (x5)), x6, x7] [.int (x8)] M = ((if (x8) = ((-1000003 : Int32)) then run Z nF C_W_types S_W_types Kx Q f t_W_types_156 [some (.ref (x1)), some (.int (x2)), some (.int (x3)), some (.int (x4)), some (.int (x5)), x6, x7] [] (M) else run Z nF C_W_types S_W_types Kx Q f t_W_types_160 [some (.ref (x1)), some (.int (x2)), some (.int (x3)), some (.int (x4)), some (.int (x5)), x6, x7] [] (M))) := id rfl
theorem g_W_types_156 {Z : Zt} {nF f : Nat} {Kx : Nat → Kt} {Q : Option Value → Mem → Prop} {M : Mem} {x1 : Nat} {x2 : Int32} {x3 : Int32} {x4 : Int32} {x5 : Int32} {x6 : Option Value} {x7 : Option Value} : run Z nF C_W_types S_W_types Kx Q (f + 2) t_W_types_156 [some (.ref (x1)), some (.int (x2)), some (.int (x3)), some (.int (x4)), some (.int (x5)), x6, x7] [] M = (run Z nF C_W_types S_W_types Kx Q f t_W_types_161 [some (.ref (x1)), some (.int (x2)), some (.int (x3)), some (.int (x4)), some (.int (x5)), x6, x7] [.int ((nI 1))] (M)) := id rfl
theorem g_W_types_160 {Z : Zt} {nF f : Nat} {Kx : Nat → Kt} {Q : Option Value → Mem → Prop} {M : Mem} {x1 : Nat} {x2 : Int32} {x3 : Int32} {x4 : Int32} {x5 : Int32} {x6 : Option Value} {x7 : Option Value} : run Z nF C_W_types S_W_types Kx Q (f + 1) t_W_types_160 [some (.ref (x1)), some (.int (x2)), some (.int (x3)), some (.int (x4)), some (.int (x5)), x6, x7] [] M = (run Z nF C_W_types S_W_types Kx Q f t_W_types_161 [some (.ref (x1)), some (.int (x2)), some (.int (x3)), some (.int (x4)), some (.int (x5)), x6, x7] [.int ((nI 0))] (M)) := id rfl
theorem g_W_types_161 {Z : Zt} {nF f : Nat} {Kx : Nat → Kt} {Q : Option Value → Mem → Prop} {M : Mem} {x1 : Nat} {x2 : Int32} {x3 : Int32} {x4 : Int32} {x5 : Int32} {x6 : Option Value} {x7 : Option Value} {x8 : Int32} : run Z nF C_W_types S_W_types Kx Q (f + 1) t_W_types_161 [some (.ref (x1)), some (.int (x2)), some (.int (x3)), some (.int (x4)), some (.int (x5)), x6, x7] [.int (x8)] M = (((x8) = nI 0 ∨ (x8) = nI 1) ∧ Q (some (.int (x8))) (M)) := id rfl
set_option maxRecDepth 100000 in
set_option maxHeartbeats 4000000 in
theorem lp_26_types (Z : Zt) (d : Nat) {M : Mem} {vec x : Int32} {Q : Option Value → Mem → Prop} (hQ : ∀ M', TyQ M vec M' → Q (some (.int (nI 1))) M') (hW : WB M) (hu : ∀ q, q < 4 → ∃ n, n < 100 ∧ unV vec q = nI n) : ∀ n k g x6 x7, k + n = 4 → TyI M vec (lowF x 4) k g → X Z (d + 9) s_W_types (mN M) (mN M) Q 26 [some (.ref 16), some (.int vec), some (.int x), some (.int (nI 1)), some (.int (nI k)), x6, x7] [] (mW M g) := by
  have hB := hW.1
  have hs := lowF_lt x (m := 4) (by omega)
  have h10 := nI_n0 (m := 1) (by omega) (by omega)
  have hlo : ∀ {M : Mem} {K : Option Value → Mem → Prop}, pcall e_W_low [.int x, .int (nI 4)] M K = K (some (.int (nI (lowF x 4)))) M := fun {M K} => pc_W_low (v := x) (m := 4) (by omega) (by omega)
  intro n
  induction n with
  | zero =>
    intro k g x6 x7 hi hI
    obtain rfl : k = 4 := by omega
    obtain ⟨e1, e2⟩ := ty_end hI hs
    have c1 : ∀ {K : Option Value → Mem → Prop}, pcall e_B_fault [.ref 16] (mW M g) K = K (some (.int (-1000003))) (mW M (rwF g 19 (rvF g).2)) := fun {K} => by rw [pc_fl hI.1 hW, e1]
    refine X_runT (C := C_W_types) (S := S_W_types) (T := t_W_types_26) 1000 kt_W_types (okE_cons (ok_B_clearText Z (d + 7)) (okE_cons (ok_B_type Z (d + 6)) (okE_cons (ok_W_low Z (d + 7)) (okE_cons (ok_W_units Z (d + 7)) (okE_cons (ok_W_typesName Z (d + 5)) (okE_cons (ok_B_fault Z d) (okE_cons (ok_B_count Z (d + 7)) (okE_cons (ok_W_typesNumber Z (d + 5)) okE_nil)))))))) ?_
    simp (maxSteps := 3000000) (disch := first | exact True.intro | assumption | omega) only [↓eq_self, Option.toList_some, Option.toList_none, List.nil_append, List.cons_append, wsum_0, wsum_1, wsum_2, wsum_3, wsum_4, lkill, ↓reduceIte, if_true, if_false, Bool.false_eq_true, and_true, true_and, and_self, or_self, true_or, or_true, not_true, not_false_iff, mR_stI, mN_stI, isO_stI, isA_stI, mI_stI, mR_mW, mN_mW, isO_mW, isA_mW, mI_mW, mW_mW, stI_mW, vp_0, nI_add, nI_ltI, nI_leI, nI_eq, vpi, nI_clamp, nI_toN, nI_geT, pk_mul, pk_sub, bv_0n, bv_1n, ↓bv_01n, n01a, n01b, Nat.reduceSub, Nat.reduceAdd, Nat.reduceMul, u2_rw, rw_rw, rw_at, rw_ne, up_at, up_ne, Nat.zero_add, Nat.add_zero, lw_mW, m1_lt0, ite_nt, ↓g_W_types_26, ↓g_W_types_143, ↓g_W_types_147, ↓g_W_types_151, ↓g_W_types_156, ↓g_W_types_160, ↓g_W_types_161, h10, c1, bk_oB hB, Nat.le_refl]
    exact hQ _ e2
  | succ n ih =>
    intro k g x6 x7 hi hI
    have h1 : ¬ 4 ≤ k := by omega
    obtain ⟨v, hv, ev⟩ := hu ((k + lowF x 4) % 4) (by omega)
    have ea := and3 (k + lowF x 4) (by omega)
    have hun : ∀ {M : Mem} {K : Option Value → Mem → Prop}, pcall e_W_units [.int vec, .int (nI ((k + lowF x 4) % 4))] M K = K (some (.int (nI v))) M := fun {M K} => by rw [pc_W_units (v := vec) (r := (k + lowF x 4) % 4) True.intro (by omega), ev]
    by_cases hty : 0 < v ∨ (x >>> (nI (3 + k) &&& 31)) &&& nI 1 = nI 1
    · have ht := hI.2.1
      obtain ⟨l1, l2, l3⟩ := nmB_len ((k + lowF x 4) % 4) (by omega)
      obtain ⟨y1, y2, y3, y4⟩ := ty_len (r := (k + lowF x 4) % 4) (s2 := 0) (v := v) (by omega)
      have hg1 := hI.1.apL (nmB ((k + lowF x 4) % 4)) (by omega)
      have t1 := apL_tl (nmB ((k + lowF x 4) % 4)) g (by omega)
      have c1 : ∀ {K : Option Value → Mem → Prop}, pcall e_W_typesName [.ref 16, .int (nI ((k + lowF x 4) % 4))] (mW M g) K = K (some (.int (nI 1))) (mW M (apL g (nmB ((k + lowF x 4) % 4)))) := fun {K} => by rw [pc_W_typesName (o := 16) (r := (k + lowF x 4) % 4) (M := mW M g) ⟨rfl, hI.1.W hW, by omega, by rw [mI_mW]; omega⟩ (by omega), mI_mW, mW_mW]
      have c2 : ∀ {K : Option Value → Mem → Prop}, pcall e_B_fault [.ref 16] (mW M (apL g (nmB ((k + lowF x 4) % 4)))) K = K (some (.int (nI (tl g + (nmB ((k + lowF x 4) % 4)).length)))) (mW M (rwF (apL g (nmB ((k + lowF x 4) % 4))) 19 (rvF (apL g (nmB ((k + lowF x 4) % 4)))).2)) := fun {K} => by rw [pc_fl hg1 hW, ty_nm hI (by omega) rfl, t1]
      have hg2 := hg1.rd (rvF (apL g (nmB ((k + lowF x 4) % 4)))).2
      have t2 : tl (rwF (apL g (nmB ((k + lowF x 4) % 4))) 19 (rvF (apL g (nmB ((k + lowF x 4) % 4)))).2) = tl g + (nmB ((k + lowF x 4) % 4)).length := t1
      generalize hu1 : (rvF (apL g (nmB ((k + lowF x 4) % 4)))).2 = u1 at *
      have c3 : ∀ {K : Option Value → Mem → Prop}, pcall e_B_count [.ref 16, .int (nI 9)] (mW M (rwF (apL g (nmB ((k + lowF x 4) % 4))) 19 u1)) K = K (some (.int (nI (tl g + (nmB ((k + lowF x 4) % 4)).length)))) (mW M (rwF (apL g (nmB ((k + lowF x 4) % 4))) 19 u1)) := fun {K} => by rw [pc_c9 hg2 hW, t2]
      have fin : ∀ s2 : Nat, ∀ g3, TX M g3 → g3 = rwF (apL g (nmB ((k + lowF x 4) % 4) ++ spB s2)) 19 u1 → ∃ g5, (∀ {K : Option Value → Mem → Prop}, pcall e_W_typesNumber [.ref 16, .int (nI v)] (mW M g3) K = K (some (.int (nI 1))) (mW M (apL g3 (nuB v)))) ∧ (∀ {K : Option Value → Mem → Prop}, pcall e_B_fault [.ref 16] (mW M (apL g3 (nuB v))) K = K (some (.int (-1000003))) (mW M g5)) ∧ TyI M vec (lowF x 4) (k + 1) g5 := fun s2 g3 hX3 e3 => by
        obtain ⟨z1, z2, z3, z4⟩ := ty_len (r := (k + lowF x 4) % 4) (s2 := s2) (v := v) (by omega)
        have t3 : tl g3 = tl g + ((nmB ((k + lowF x 4) % 4)).length + (spB s2).length) := by
          rw [e3]
          have := apL_tl (nmB ((k + lowF x 4) % 4) ++ spB s2) g (by rw [List.length_append]; omega)
          rw [List.length_append] at this
          exact this
        have e4 : apL g3 (nuB v) = rwF (apL g (nmB ((k + lowF x 4) % 4) ++ (spB s2 ++ nuB v))) 19 u1 := by rw [e3, apL_rw, apL_app, List.append_assoc]
        obtain ⟨w1, w2⟩ := ty_yes (s2 := s2) (u1 := u1) hI (by omega) rfl hv ev
        have hX4 := hX3.apL (nuB v) (by omega)
        refine ⟨rwF (apL g3 (nuB v)) 19 (rvF (apL g3 (nuB v))).2, fun {K} => ?_, fun {K} => ?_, ?_⟩
        · rw [pc_W_typesNumber (o := 16) (v := v) (M := mW M g3) ⟨rfl, hX3.W hW, hv, by rw [mI_mW]; omega⟩ (by omega), mI_mW, mW_mW]
        · rw [pc_fl hX4 hW, e4, w2]
        · rw [e4, rw_rw]
          exact (ty_yes (s2 := s2) hI (by omega) rfl hv ev).1
      have hbl : ∀ {K : Option Value → Mem → Prop}, pcall e_B_type [.ref 16, .int (nI 32)] (mW M (rwF (apL g (nmB ((k + lowF x 4) % 4))) 19 u1)) K = K (some (.int (nI (tl g + (nmB ((k + lowF x 4) % 4)).length + 1)))) (mW M (rwF (apL g (nmB ((k + lowF x 4) % 4) ++ spB 1)) 19 u1)) := fun {K} => by
        rw [pc_ty hg2 hW (v := 32) (by omega) (by omega), t2, apF_rw]
        have : apF (apL g (nmB ((k + lowF x 4) % 4))) (nI 32) = apL g (nmB ((k + lowF x 4) % 4) ++ spB 1) := by rw [← apL_app]; rfl
        rw [this]
      have n1 := nI_s (tl g + (nmB ((k + lowF x 4) % 4)).length) (by omega)
      have hX1 : TX M (rwF (apL g (nmB ((k + lowF x 4) % 4) ++ spB 1)) 19 u1) := (hI.1.apL _ (by
        obtain ⟨z1, z2, z3, z4⟩ := ty_len (r := (k + lowF x 4) % 4) (s2 := 1) (v := v) (by omega)
        rw [List.length_append]
        omega)).rd _
      obtain ⟨ga, fa1, fa2, fa3⟩ := fin 0 _ hg2 (by rw [show spB 0 = [] from rfl, List.append_nil])
      obtain ⟨gb, fb1, fb2, fb3⟩ := fin 1 _ hX1 rfl
      have hya := ih (k + 1) ga (some (.int (nI ((k + lowF x 4) % 4)))) (some (.int (nI v))) (by omega) fa3
      have hyb := ih (k + 1) gb (some (.int (nI ((k + lowF x 4) % 4)))) (some (.int (nI v))) (by omega) fb3
      have from69 : X Z (d + 9) s_W_types (mN M) (mN M) Q 69 [some (.ref 16), some (.int vec), some (.int x), some (.int (nI 1)), some (.int (nI k)), some (.int (nI ((k + lowF x 4) % 4))), some (.int (nI v))] [] (mW M g) := by
        refine X_runT (C := C_W_types) (S := S_W_types) (T := t_W_types_69) 1000 kt_W_types (okE_cons (ok_B_clearText Z (d + 7)) (okE_cons (ok_B_type Z (d + 6)) (okE_cons (ok_W_low Z (d + 7)) (okE_cons (ok_W_units Z (d + 7)) (okE_cons (ok_W_typesName Z (d + 5)) (okE_cons (ok_B_fault Z d) (okE_cons (ok_B_count Z (d + 7)) (okE_cons (ok_W_typesNumber Z (d + 5)) okE_nil)))))))) ?_
        by_cases zb : (x >>> (nI 7 &&& 31)) &&& nI 1 = nI 0
        · simp (maxSteps := 3000000) (disch := first | exact True.intro | assumption | omega) only [↓eq_self, Option.toList_some, Option.toList_none, List.nil_append, List.cons_append, wsum_0, wsum_1, wsum_2, wsum_3, wsum_4, lkill, ↓reduceIte, if_true, if_false, Bool.false_eq_true, and_true, true_and, and_self, or_self, true_or, or_true, not_true, not_false_iff, mR_stI, mN_stI, isO_stI, isA_stI, mI_stI, mR_mW, mN_mW, isO_mW, isA_mW, mI_mW, mW_mW, stI_mW, vp_0, nI_add, nI_ltI, nI_leI, nI_eq, vpi, nI_clamp, nI_toN, nI_geT, pk_mul, pk_sub, bv_0n, bv_1n, ↓bv_01n, n01a, n01b, Nat.reduceSub, Nat.reduceAdd, Nat.reduceMul, u2_rw, rw_rw, rw_at, rw_ne, up_at, up_ne, Nat.zero_add, Nat.add_zero, lw_mW, m1_lt0, ite_nt, ↓g_W_types_69, ↓g_W_types_73, ↓g_W_types_79, ↓g_W_types_82, ↓g_W_types_86, ↓g_W_types_92, ↓g_W_types_95, ↓g_W_types_104, ↓g_W_types_110, ↓g_W_types_113, ↓g_W_types_119, ↓g_W_types_122, ↓g_W_types_126, ↓g_W_types_131, ↓g_W_types_135, ↓g_W_types_136, ↓g_W_types_137, h10, c1, c2, c3, zb, fa1, fa2, bk_oB hB]
          exact hya
        · simp (maxSteps := 3000000) (disch := first | exact True.intro | assumption | omega) only [↓eq_self, Option.toList_some, Option.toList_none, List.nil_append, List.cons_append, wsum_0, wsum_1, wsum_2, wsum_3, wsum_4, lkill, ↓reduceIte, if_true, if_false, Bool.false_eq_true, and_true, true_and, and_self, or_self, true_or, or_true, not_true, not_false_iff, mR_stI, mN_stI, isO_stI, isA_stI, mI_stI, mR_mW, mN_mW, isO_mW, isA_mW, mI_mW, mW_mW, stI_mW, vp_0, nI_add, nI_ltI, nI_leI, nI_eq, vpi, nI_clamp, nI_toN, nI_geT, pk_mul, pk_sub, bv_0n, bv_1n, ↓bv_01n, n01a, n01b, Nat.reduceSub, Nat.reduceAdd, Nat.reduceMul, u2_rw, rw_rw, rw_at, rw_ne, up_at, up_ne, Nat.zero_add, Nat.add_zero, lw_mW, m1_lt0, ite_nt, ↓g_W_types_69, ↓g_W_types_73, ↓g_W_types_79, ↓g_W_types_82, ↓g_W_types_86, ↓g_W_types_92, ↓g_W_types_95, ↓g_W_types_104, ↓g_W_types_110, ↓g_W_types_113, ↓g_W_types_119, ↓g_W_types_122, ↓g_W_types_126, ↓g_W_types_131, ↓g_W_types_135, ↓g_W_types_136, ↓g_W_types_137, h10, c1, c2, c3, zb, hbl, n1, fb1, fb2, bk_oB hB]
          exact hyb
      refine X_runT (C := C_W_types) (S := S_W_types) (T := t_W_types_26) 1000 kt_W_types (okE_cons (ok_B_clearText Z (d + 7)) (okE_cons (ok_B_type Z (d + 6)) (okE_cons (ok_W_low Z (d + 7)) (okE_cons (ok_W_units Z (d + 7)) (okE_cons (ok_W_typesName Z (d + 5)) (okE_cons (ok_B_fault Z d) (okE_cons (ok_B_count Z (d + 7)) (okE_cons (ok_W_typesNumber Z (d + 5)) okE_nil)))))))) ?_
      by_cases zv : 0 < v
      · have hlt : (nI 0 < nI v) = True := eq_true ((nI_ltI (by omega) (by omega)).mpr zv)
        simp (maxSteps := 3000000) (disch := first | exact True.intro | assumption | omega) only [↓eq_self, Option.toList_some, Option.toList_none, List.nil_append, List.cons_append, wsum_0, wsum_1, wsum_2, wsum_3, wsum_4, lkill, ↓reduceIte, if_true, if_false, Bool.false_eq_true, and_true, true_and, and_self, or_self, true_or, or_true, not_true, not_false_iff, mR_stI, mN_stI, isO_stI, isA_stI, mI_stI, mR_mW, mN_mW, isO_mW, isA_mW, mI_mW, mW_mW, stI_mW, vp_0, nI_add, nI_ltI, nI_leI, nI_eq, vpi, nI_clamp, nI_toN, nI_geT, pk_mul, pk_sub, bv_0n, bv_1n, ↓bv_01n, n01a, n01b, Nat.reduceSub, Nat.reduceAdd, Nat.reduceMul, u2_rw, rw_rw, rw_at, rw_ne, up_at, up_ne, Nat.zero_add, Nat.add_zero, lw_mW, m1_lt0, ite_nt, ↓g_W_types_26, ↓g_W_types_32, ↓g_W_types_39, ↓g_W_types_50, ↓g_W_types_57, h1, hlo, ea, hun, hlt]
        exact from69
      · have hlt : (nI 0 < nI v) = False := eq_false (fun q => zv ((nI_ltI (by omega) (by omega)).mp q))
        have hbt := hty.resolve_left zv
        simp (maxSteps := 3000000) (disch := first | exact True.intro | assumption | omega) only [↓eq_self, Option.toList_some, Option.toList_none, List.nil_append, List.cons_append, wsum_0, wsum_1, wsum_2, wsum_3, wsum_4, lkill, ↓reduceIte, if_true, if_false, Bool.false_eq_true, and_true, true_and, and_self, or_self, true_or, or_true, not_true, not_false_iff, mR_stI, mN_stI, isO_stI, isA_stI, mI_stI, mR_mW, mN_mW, isO_mW, isA_mW, mI_mW, mW_mW, stI_mW, vp_0, nI_add, nI_ltI, nI_leI, nI_eq, vpi, nI_clamp, nI_toN, nI_geT, pk_mul, pk_sub, bv_0n, bv_1n, ↓bv_01n, n01a, n01b, Nat.reduceSub, Nat.reduceAdd, Nat.reduceMul, u2_rw, rw_rw, rw_at, rw_ne, up_at, up_ne, Nat.zero_add, Nat.add_zero, lw_mW, m1_lt0, ite_nt, ↓g_W_types_26, ↓g_W_types_32, ↓g_W_types_39, ↓g_W_types_50, ↓g_W_types_57, h1, hlo, ea, hun, hlt, hbt]
        exact from69
    · have hv0 : v = 0 := by
        rcases Nat.eq_zero_or_pos v with z | z
        · exact z
        · exact absurd (Or.inl z) hty
      have hb : ¬ (x >>> (nI (3 + k) &&& 31)) &&& nI 1 = nI 1 := fun z => hty (Or.inr z)
      subst hv0
      have hy := ih (k + 1) g (some (.int (nI ((k + lowF x 4) % 4)))) (some (.int (nI 0))) (by omega) (ty_no hI (by omega) ev)
      have h00 : (nI 0 < nI 0) = False := by decide
      refine X_runT (C := C_W_types) (S := S_W_types) (T := t_W_types_26) 1000 kt_W_types (okE_cons (ok_B_clearText Z (d + 7)) (okE_cons (ok_B_type Z (d + 6)) (okE_cons (ok_W_low Z (d + 7)) (okE_cons (ok_W_units Z (d + 7)) (okE_cons (ok_W_typesName Z (d + 5)) (okE_cons (ok_B_fault Z d) (okE_cons (ok_B_count Z (d + 7)) (okE_cons (ok_W_typesNumber Z (d + 5)) okE_nil)))))))) ?_
      simp (maxSteps := 3000000) (disch := first | exact True.intro | assumption | omega) only [↓eq_self, Option.toList_some, Option.toList_none, List.nil_append, List.cons_append, wsum_0, wsum_1, wsum_2, wsum_3, wsum_4, lkill, ↓reduceIte, if_true, if_false, Bool.false_eq_true, and_true, true_and, and_self, or_self, true_or, or_true, not_true, not_false_iff, mR_stI, mN_stI, isO_stI, isA_stI, mI_stI, mR_mW, mN_mW, isO_mW, isA_mW, mI_mW, mW_mW, stI_mW, vp_0, nI_add, nI_ltI, nI_leI, nI_eq, vpi, nI_clamp, nI_toN, nI_geT, pk_mul, pk_sub, bv_0n, bv_1n, ↓bv_01n, n01a, n01b, Nat.reduceSub, Nat.reduceAdd, Nat.reduceMul, u2_rw, rw_rw, rw_at, rw_ne, up_at, up_ne, Nat.zero_add, Nat.add_zero, lw_mW, m1_lt0, ite_nt, ↓g_W_types_26, ↓g_W_types_32, ↓g_W_types_39, ↓g_W_types_50, ↓g_W_types_57, ↓g_W_types_137, h1, hlo, ea, hun, h00, hb]
      exact hy
theorem tx_clr {M : Mem} (hW : WB M) : TX M (u2 (mI M) 17 2 0) ∧ tl (u2 (mI M) 17 2 0) = 0 := by
  have e : tl (u2 (mI M) 17 2 0) = 0 := by
    unfold tl
    rw [u2_eq]
    rfl
  refine ⟨⟨fun x y hx => u2_nn (by omega), ?_, by omega⟩, e⟩
  rw [e, u2_eq]
  rfl
set_option maxRecDepth 100000 in
set_option maxHeartbeats 4000000 in
theorem ok_W_types (Z : Zt) (d : Nat) : okE Z (d + 9) i_W_types e_W_types := by
  rintro av M ⟨vec, x, hu, rfl, hW⟩
  have hB := hW.1
  have a1 : apF (u2 (mI M) 17 2 0) (nI 32) 18 0 = 32 := by
    have t0 := (tx_clr hW).2
    unfold apF
    rw [t0, if_pos (by omega), u2_ne (by omega), u2_eq]
    rfl
  obtain ⟨hX0, t0⟩ := tx_clr hW
  have c0 : ∀ {K : Option Value → Mem → Prop}, pcall e_B_clearText [.ref 16] M K = K (some (.int (nI (tl (mI M))))) (mW M (u2 (mI M) 17 2 0)) := pc_B_clearText (o := 16) (M := M) ⟨rfl, hW⟩
  generalize u2 (mI M) 17 2 0 = g0 at *
  have n0 : (nI (tl (mI M)) < nI 0) = False := eq_false (fun q => by
    have := hW.2.2.2.2.2
    have := (nI_ltI (by omega) (by omega)).mp q
    omega)
  have c1 : ∀ {K : Option Value → Mem → Prop}, pcall e_B_type [.ref 16, .int (nI 32)] (mW M g0) K = K (some (.int (nI 1))) (mW M (apF g0 (nI 32))) := fun {K} => by
    rw [pc_ty hX0 hW (v := 32) (by omega) (by omega), t0]
  have hX1 : TX M (apF g0 (nI 32)) := hX0.ap (by omega)
  have t1 : tl (apF g0 (nI 32)) = 1 := by rw [apF_tl (by omega), t0]
  have hR := rd_0 t1 a1
  have hI : TyI M vec (lowF x 4) 0 (apF g0 (nI 32)) := ⟨hX1, by omega, 0, 0, _, Nat.le_refl _, by omega, hR, fun q hq => ⟨fun ⟨i, hi, _⟩ => absurd hi (Nat.not_lt_zero _), fun _ => ⟨by simp, rfl⟩⟩⟩
  have hQ : ∀ M', TyQ M vec M' → e_W_types.2 [.ref 16, .int vec, .int x] M (some (.int (nI 1))) M' := fun M' q vec2 x2 e => by
    simp only [List.cons.injEq, Value.int.injEq, and_true, true_and] at e
    obtain ⟨rfl, rfl⟩ := e
    exact ⟨rfl, q⟩
  have hy := lp_26_types Z d (x := x) hQ hW hu 4 0 _ none none rfl hI
  refine Gm_run (C := C_W_types) (S := S_W_types) [some (.ref 16), some (.int vec), some (.int x), none, none, none, none] 1000 kt_W_types (okE_cons (ok_B_clearText Z (d + 7)) (okE_cons (ok_B_type Z (d + 6)) (okE_cons (ok_W_low Z (d + 7)) (okE_cons (ok_W_units Z (d + 7)) (okE_cons (ok_W_typesName Z (d + 5)) (okE_cons (ok_B_fault Z d) (okE_cons (ok_B_count Z (d + 7)) (okE_cons (ok_W_typesNumber Z (d + 5)) okE_nil)))))))) (fun r M' q => ?_) ?_
  · obtain ⟨-, g, _, _, _, e, -⟩ := q vec x rfl
    rw [e]
    rfl
  · simp (maxSteps := 3000000) (disch := first | exact True.intro | assumption | omega) only [↓eq_self, Option.toList_some, Option.toList_none, List.nil_append, List.cons_append, wsum_0, wsum_1, wsum_2, wsum_3, wsum_4, lkill, ↓reduceIte, if_true, if_false, Bool.false_eq_true, and_true, true_and, and_self, or_self, true_or, or_true, not_true, not_false_iff, mR_stI, mN_stI, isO_stI, isA_stI, mI_stI, mR_mW, mN_mW, isO_mW, isA_mW, mI_mW, mW_mW, stI_mW, vp_0, nI_add, nI_ltI, nI_leI, nI_eq, vpi, nI_clamp, nI_toN, nI_geT, pk_mul, pk_sub, bv_0n, bv_1n, ↓bv_01n, n01a, n01b, Nat.reduceSub, Nat.reduceAdd, Nat.reduceMul, u2_rw, rw_rw, rw_at, rw_ne, up_at, up_ne, Nat.zero_add, Nat.add_zero, lw_mW, m1_lt0, ite_nt, ↓g_W_types_0, ↓g_W_types_4, ↓g_W_types_7, ↓g_W_types_13, ↓g_W_types_17, ↓g_W_types_21, ↓g_W_types_22, c0, n0, c1, bk_oB hB]
    exact hy
