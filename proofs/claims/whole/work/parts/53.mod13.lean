/-! the model's text -/
def tA (f : Nat → Nat → Int32) : Nat := (f 174 7).toNatClampNeg
def RdS (f : Nat → Nat → Int32) : Prop := MtD f ∧ f 174 7 = nI (tA f) ∧ tA f ≤ tL f
def utyR (f : Nat → Nat → Int32) (v : Int32) : Int32 := if nI 0 ≤ v ∧ v ≤ nI 127 then (if tL f = 60 then -1000002 else nI (tL f + 1)) else -1000000
def utyM (f : Nat → Nat → Int32) (v : Int32) : Nat → Nat → Int32 := if (nI 0 ≤ v ∧ v ≤ nI 127) ∧ ¬ tL f = 60 then rwF (rwF f 174 (upF (f 174) 5 (nI (tL f + 1)))) 178 (upF (f 178) (tL f) v) else f
def e_M_type : Ent := (fun av M => ∃ (o : Nat) (v : Int32), av = [.ref o, .int v] ∧ (o = 174 ∧ BkS M ∧ MtD (mI M)), fun av M r_ M_ => ∀ (o : Nat) (v : Int32), av = [.ref o, .int v] → r_ = (some (.int (utyR (mI M) v))) ∧ M_ = (mW M (utyM (mI M) v)))
theorem pc_M_type {o : Nat} {v : Int32} {M : Mem} {K : Option Value → Mem → Prop} (hp : o = 174 ∧ BkS M ∧ MtD (mI M)) : pcall e_M_type [.ref o, .int v] M K = K (some (.int (utyR (mI M) v))) (mW M (utyM (mI M) v)) := propext ⟨fun h => h.2 _ _ (fun o' v' e => by simp only [List.cons.injEq, Value.ref.injEq, Value.int.injEq, Value.long.injEq, and_true] at e; obtain ⟨q0, q1⟩ := e; obtain rfl := q0; obtain rfl := q1; exact ⟨rfl, rfl⟩), fun h => ⟨⟨o, v, rfl, hp⟩, fun r_ M_ q => by obtain ⟨rfl, rfl⟩ := q _ _ rfl; exact h⟩⟩
theorem mk_M_type {Z : Zt} {d : Nat} (h : ∀ (o : Nat) (v : Int32) (M : Mem), (o = 174 ∧ BkS M ∧ MtD (mI M)) → Gm Z d s_M_type [.ref o, .int v] M (ex (some (.int (utyR (mI M) v))) (mW M (utyM (mI M) v)))) : okE Z d i_M_type e_M_type := by
  rintro av M ⟨o, v, rfl, hp⟩
  exact Gm.cons (h o v M  hp) (fun r_ M_ q o' v' e => by simp only [List.cons.injEq, Value.ref.injEq, Value.int.injEq, Value.long.injEq, and_true] at e; obtain ⟨q0, q1⟩ := e; obtain rfl := q0; obtain rfl := q1; exact q)
def C_M_type : List (Nat × Ent) := [(i_M_in, e_M_in)]
abbrev S_M_type : List Nat := []
def t_M_type_45 : List PI := (45, 1, 1, 0, 0, 0, []) :: (46, 8, 0, 5, 5, 0, [38]) :: (49, 9, 0, 0, 0, 0, []) :: []
def t_M_type_25 : List PI := (25, 1, 1, 0, 0, 0, []) :: (26, 8, 1, 5, 4, 0, [19]) :: (29, 1, 1, 0, 0, 0, []) :: (30, 8, 0, 5, 5, 0, [38]) :: (33, 1, 0, 1, 0, 0, []) :: (34, 10, 4, 0, 0, 0, []) :: (35, 1, 1, 0, 0, 0, []) :: (36, 7, 0, 0, 0, 0, []) :: (37, 8, 0, 5, 5, 0, [38]) :: (40, 0, 0, 0, 0, 1, []) :: (41, 2, 0, 0, 0, 0, []) :: (42, 10, 0, 5, 5, 0, [38]) :: t_M_type_45
def t_M_type_22 : List PI := (22, 0, 0, 41, 3, -1000002, []) :: (24, 9, 0, 0, 0, 0, []) :: t_M_type_25
def t_M_type_13 : List PI := (13, 1, 1, 0, 0, 0, []) :: (14, 8, 0, 5, 5, 0, [38]) :: (17, 0, 0, 0, 1, 60, []) :: (19, 4, 1, 25, 0, 0, []) :: t_M_type_22
def t_M_type_10 : List PI := (10, 0, 0, 37, 3, -1000000, []) :: (12, 9, 0, 0, 0, 0, []) :: t_M_type_13
def t_M_type_7 : List PI := (7, 5, 1, 13, 0, 0, []) :: t_M_type_10
def t_M_type_0 : List PI := (0, 1, 0, 1, 0, 0, []) :: (1, 0, 0, 0, 0, 0, []) :: (2, 0, 0, 0, 1, 127, []) :: (4, 11, 1, 0, 101, 0, [28, 3]) :: t_M_type_7
theorem kt_M_type : okP s_M_type t_M_type_0 := k_M_type
theorem g_M_type_0 {Z : Zt} {nF f : Nat} {Kx : Nat → Kt} {Q : Option Value → Mem → Prop} {M : Mem} {x1 : Nat} {x2 : Int32} : run Z nF C_M_type S_M_type Kx Q (f + 4) t_M_type_0 [some (.ref (x1)), some (.int (x2))] [] M = (((True) ∧ wsum [] ≤ 8) ∧ pcall e_M_in [.int (x2), .int ((nI 0)), .int ((nI 127))] (M) (fun v M_ => run Z nF C_M_type S_M_type Kx Q f t_M_type_7 [some (.ref (x1)), some (.int (x2))] (v.toList ++ []) M_)) := rfl
theorem g_M_type_7 {Z : Zt} {nF f : Nat} {Kx : Nat → Kt} {Q : Option Value → Mem → Prop} {M : Mem} {x1 : Nat} {x2 : Int32} {x3 : Int32} : run Z nF C_M_type S_M_type Kx Q (f + 1) t_M_type_7 [some (.ref (x1)), some (.int (x2))] [.int (x3)] M = ((if (x3) = nI 0 then run Z nF C_M_type S_M_type Kx Q f t_M_type_10 [some (.ref (x1)), some (.int (x2))] [] (M) else run Z nF C_M_type S_M_type Kx Q f t_M_type_13 [some (.ref (x1)), some (.int (x2))] [] (M))) := rfl
theorem g_M_type_10 {Z : Zt} {nF f : Nat} {Kx : Nat → Kt} {Q : Option Value → Mem → Prop} {M : Mem} {x1 : Nat} {x2 : Int32} : run Z nF C_M_type S_M_type Kx Q (f + 2) t_M_type_10 [some (.ref (x1)), some (.int (x2))] [] M = (Q (some (.int ((-1000000 : Int32)))) (M)) := rfl
theorem g_M_type_13 {Z : Zt} {nF f : Nat} {Kx : Nat → Kt} {Q : Option Value → Mem → Prop} {M : Mem} {x1 : Nat} {x2 : Int32} : run Z nF C_M_type S_M_type Kx Q (f + 4) t_M_type_13 [some (.ref (x1)), some (.int (x2))] [] M = (isO (M) (x1) 5 ∧ (if (mI (M) (x1) 5) = ((nI 60)) then run Z nF C_M_type S_M_type Kx Q f t_M_type_22 [some (.ref (x1)), some (.int (x2))] [] (M) else run Z nF C_M_type S_M_type Kx Q f t_M_type_25 [some (.ref (x1)), some (.int (x2))] [] (M))) := rfl
theorem g_M_type_22 {Z : Zt} {nF f : Nat} {Kx : Nat → Kt} {Q : Option Value → Mem → Prop} {M : Mem} {x1 : Nat} {x2 : Int32} : run Z nF C_M_type S_M_type Kx Q (f + 2) t_M_type_22 [some (.ref (x1)), some (.int (x2))] [] M = (Q (some (.int ((-1000002 : Int32)))) (M)) := rfl
theorem g_M_type_25 {Z : Zt} {nF f : Nat} {Kx : Nat → Kt} {Q : Option Value → Mem → Prop} {M : Mem} {x1 : Nat} {x2 : Int32} : run Z nF C_M_type S_M_type Kx Q (f + 12) t_M_type_25 [some (.ref (x1)), some (.int (x2))] [] M = (isO (M) (x1) 5 ∧ isO (M) (x1) 5 ∧ isA (M) (mR (M) (x1) 4) (mI (M) (x1) 5) ∧ isO (stI (M) (mR (M) (x1) 4) (Int32.toNatClampNeg (mI (M) (x1) 5)) (x2)) (x1) 5 ∧ isO (stI (M) (mR (M) (x1) 4) (Int32.toNatClampNeg (mI (M) (x1) 5)) (x2)) (x1) 5 ∧ run Z nF C_M_type S_M_type Kx Q f t_M_type_45 [some (.ref (x1)), some (.int (x2))] [] (stI (stI (M) (mR (M) (x1) 4) (Int32.toNatClampNeg (mI (M) (x1) 5)) (x2)) (x1) 5 ((mI (stI (M) (mR (M) (x1) 4) (Int32.toNatClampNeg (mI (M) (x1) 5)) (x2)) (x1) 5) + ((nI 1))))) := rfl
theorem g_M_type_45 {Z : Zt} {nF f : Nat} {Kx : Nat → Kt} {Q : Option Value → Mem → Prop} {M : Mem} {x1 : Nat} {x2 : Int32} : run Z nF C_M_type S_M_type Kx Q (f + 3) t_M_type_45 [some (.ref (x1)), some (.int (x2))] [] M = (isO (M) (x1) 5 ∧ Q (some (.int (mI (M) (x1) 5))) (M)) := rfl
set_option maxRecDepth 100000 in
set_option maxHeartbeats 4000000 in
theorem ok_M_type (Z : Zt) (d : Nat) : okE Z (d + 2) i_M_type e_M_type := mk_M_type fun o v M hp => by
  obtain ⟨rfl, hB, hT, h60⟩ := hp
  refine Gm_run (C := C_M_type) (S := S_M_type) [some (.ref 174), some (.int v)] 1000 kt_M_type (okE_cons (ok_M_in Z d) okE_nil) (ex_n rfl) ?_
  by_cases h : nI 0 ≤ v ∧ v ≤ nI 127
  · by_cases h2 : tL (mI M) = 60
    · rw [show utyR (mI M) v = _ from (if_pos h).trans (if_pos h2), show utyM (mI M) v = _ from if_neg (fun q => q.2 h2)]
      simp (maxSteps := 3000000) (disch := first | exact True.intro | assumption | omega) only [↓eq_self, Option.toList_some, Option.toList_none, List.nil_append, List.cons_append, wsum_0, wsum_1, wsum_2, wsum_3, wsum_4, lkill, ↓reduceIte, if_true, if_false, Bool.false_eq_true, and_true, true_and, and_self, or_self, true_or, or_true, not_true, not_false_iff, mR_stI, mN_stI, isO_stI, isA_stI, mI_stI, mR_mW, mN_mW, isO_mW, isA_mW, mI_mW, mW_mW, stI_mW, vp_0, nI_add, nI_ltI, nI_leI, nI_eq, vpi, nI_clamp, nI_toN, nI_geT, nI_lt4, pk_mul, pk_sub, bv_0n, bv_1n, ↓bv_01n, n01a, n01b, Nat.reduceSub, u2_rw, rw_rw, rw_at, rw_ne, rw_175_174, rw_176_174, rw_176_175, rw_177_174, rw_177_175, rw_177_176, rw_178_174, rw_178_175, rw_178_176, rw_178_177, rw_179_174, rw_179_175, rw_179_176, rw_179_177, rw_179_178, rw_180_174, rw_180_175, rw_180_176, rw_180_177, rw_180_178, rw_180_179, up_at, up_ne, Nat.zero_add, Nat.add_zero, bk_oM hB, bk_m0 hB, bk_m1 hB, bk_m2 hB, bk_m4 hB, bk_m6 hB, bk_m9 hB, md_a hB, md_p hB, md_s hB, md_t hB, md_r hB, md_v hB, ite_nt, ↓g_M_type_0, ↓g_M_type_7, ↓g_M_type_10, ↓g_M_type_13, ↓g_M_type_22, pc_M_in, h, hT, h2]
      exact ⟨rfl, rfl⟩
    · rw [show utyR (mI M) v = _ from (if_pos h).trans (if_neg h2), show utyM (mI M) v = _ from if_pos ⟨h, h2⟩]
      have h3 : tL (mI M) < 60 := by omega
      simp (maxSteps := 3000000) (disch := first | exact True.intro | assumption | omega) only [↓eq_self, Option.toList_some, Option.toList_none, List.nil_append, List.cons_append, wsum_0, wsum_1, wsum_2, wsum_3, wsum_4, lkill, ↓reduceIte, if_true, if_false, Bool.false_eq_true, and_true, true_and, and_self, or_self, true_or, or_true, not_true, not_false_iff, mR_stI, mN_stI, isO_stI, isA_stI, mI_stI, mR_mW, mN_mW, isO_mW, isA_mW, mI_mW, mW_mW, stI_mW, vp_0, nI_add, nI_ltI, nI_leI, nI_eq, vpi, nI_clamp, nI_toN, nI_geT, nI_lt4, pk_mul, pk_sub, bv_0n, bv_1n, ↓bv_01n, n01a, n01b, Nat.reduceSub, u2_rw, rw_rw, rw_at, rw_ne, rw_175_174, rw_176_174, rw_176_175, rw_177_174, rw_177_175, rw_177_176, rw_178_174, rw_178_175, rw_178_176, rw_178_177, rw_179_174, rw_179_175, rw_179_176, rw_179_177, rw_179_178, rw_180_174, rw_180_175, rw_180_176, rw_180_177, rw_180_178, rw_180_179, up_at, up_ne, Nat.zero_add, Nat.add_zero, bk_oM hB, bk_m0 hB, bk_m1 hB, bk_m2 hB, bk_m4 hB, bk_m6 hB, bk_m9 hB, md_a hB, md_p hB, md_s hB, md_t hB, md_r hB, md_v hB, ite_nt, ↓g_M_type_0, ↓g_M_type_7, ↓g_M_type_10, ↓g_M_type_13, ↓g_M_type_22, ↓g_M_type_25, ↓g_M_type_45, pc_M_in, h, hT, h2, h3]
      exact ⟨rfl, rfl⟩
  · rw [show utyR (mI M) v = _ from if_neg h, show utyM (mI M) v = _ from if_neg (fun q => h q.1)]
    simp (maxSteps := 3000000) (disch := first | exact True.intro | assumption | omega) only [↓eq_self, Option.toList_some, Option.toList_none, List.nil_append, List.cons_append, wsum_0, wsum_1, wsum_2, wsum_3, wsum_4, lkill, ↓reduceIte, if_true, if_false, Bool.false_eq_true, and_true, true_and, and_self, or_self, true_or, or_true, not_true, not_false_iff, mR_stI, mN_stI, isO_stI, isA_stI, mI_stI, mR_mW, mN_mW, isO_mW, isA_mW, mI_mW, mW_mW, stI_mW, vp_0, nI_add, nI_ltI, nI_leI, nI_eq, vpi, nI_clamp, nI_toN, nI_geT, nI_lt4, pk_mul, pk_sub, bv_0n, bv_1n, ↓bv_01n, n01a, n01b, Nat.reduceSub, u2_rw, rw_rw, rw_at, rw_ne, rw_175_174, rw_176_174, rw_176_175, rw_177_174, rw_177_175, rw_177_176, rw_178_174, rw_178_175, rw_178_176, rw_178_177, rw_179_174, rw_179_175, rw_179_176, rw_179_177, rw_179_178, rw_180_174, rw_180_175, rw_180_176, rw_180_177, rw_180_178, rw_180_179, up_at, up_ne, Nat.zero_add, Nat.add_zero, bk_oM hB, bk_m0 hB, bk_m1 hB, bk_m2 hB, bk_m4 hB, bk_m6 hB, bk_m9 hB, md_a hB, md_p hB, md_s hB, md_t hB, md_r hB, md_v hB, ite_nt, ↓g_M_type_0, ↓g_M_type_7, ↓g_M_type_10, pc_M_in, h]
    exact ⟨rfl, rfl⟩
def e_M_clearText : Ent := (fun av M => ∃ (o : Nat), av = [.ref o] ∧ (o = 174 ∧ BkS M ∧ MtD (mI M)), fun av M r_ M_ => ∀ (o : Nat), av = [.ref o] → r_ = (some (.int (nI (tL (mI M))))) ∧ M_ = (mW M (rwF (mI M) 174 (upF (mI M 174) 5 (nI 0)))))
theorem pc_M_clearText {o : Nat} {M : Mem} {K : Option Value → Mem → Prop} (hp : o = 174 ∧ BkS M ∧ MtD (mI M)) : pcall e_M_clearText [.ref o] M K = K (some (.int (nI (tL (mI M))))) (mW M (rwF (mI M) 174 (upF (mI M 174) 5 (nI 0)))) := propext ⟨fun h => h.2 _ _ (fun o' e => by simp only [List.cons.injEq, Value.ref.injEq, Value.int.injEq, Value.long.injEq, and_true] at e; have q0 := e; obtain rfl := q0; exact ⟨rfl, rfl⟩), fun h => ⟨⟨o, rfl, hp⟩, fun r_ M_ q => by obtain ⟨rfl, rfl⟩ := q _ rfl; exact h⟩⟩
theorem mk_M_clearText {Z : Zt} {d : Nat} (h : ∀ (o : Nat) (M : Mem), (o = 174 ∧ BkS M ∧ MtD (mI M)) → Gm Z d s_M_clearText [.ref o] M (ex (some (.int (nI (tL (mI M))))) (mW M (rwF (mI M) 174 (upF (mI M 174) 5 (nI 0)))))) : okE Z d i_M_clearText e_M_clearText := by
  rintro av M ⟨o, rfl, hp⟩
  exact Gm.cons (h o M  hp) (fun r_ M_ q o' e => by simp only [List.cons.injEq, Value.ref.injEq, Value.int.injEq, Value.long.injEq, and_true] at e; have q0 := e; obtain rfl := q0; exact q)
def C_M_clearText : List (Nat × Ent) := []
abbrev S_M_clearText : List Nat := []
def t_M_clearText_0 : List PI := (0, 1, 1, 0, 0, 0, []) :: (1, 8, 0, 5, 5, 0, [38]) :: (4, 1, 3, 1, 0, 0, []) :: (5, 1, 1, 0, 0, 0, []) :: (6, 0, 0, 0, 0, 0, []) :: (7, 10, 0, 5, 5, 0, [38]) :: (10, 1, 0, 1, 0, 0, []) :: (11, 9, 0, 0, 0, 0, []) :: []
theorem kt_M_clearText : okP s_M_clearText t_M_clearText_0 := k_M_clearText
theorem g_M_clearText_0 {Z : Zt} {nF f : Nat} {Kx : Nat → Kt} {Q : Option Value → Mem → Prop} {M : Mem} {x1 : Nat} : run Z nF C_M_clearText S_M_clearText Kx Q (f + 8) t_M_clearText_0 [some (.ref (x1)), none] [] M = (isO (M) (x1) 5 ∧ isO (M) (x1) 5 ∧ Q (some (.int (mI (M) (x1) 5))) (stI (M) (x1) 5 ((nI 0)))) := rfl
set_option maxRecDepth 100000 in
set_option maxHeartbeats 4000000 in
theorem ok_M_clearText (Z : Zt) (d : Nat) : okE Z (d + 1) i_M_clearText e_M_clearText := mk_M_clearText fun o M hp => by
  obtain ⟨rfl, hB, hT, h60⟩ := hp
  refine Gm_run (C := C_M_clearText) (S := S_M_clearText) [some (.ref 174), none] 1000 kt_M_clearText okE_nil (ex_n rfl) ?_
  simp (maxSteps := 3000000) (disch := first | exact True.intro | assumption | omega) only [↓eq_self, Option.toList_some, Option.toList_none, List.nil_append, List.cons_append, wsum_0, wsum_1, wsum_2, wsum_3, wsum_4, lkill, ↓reduceIte, if_true, if_false, Bool.false_eq_true, and_true, true_and, and_self, or_self, true_or, or_true, not_true, not_false_iff, mR_stI, mN_stI, isO_stI, isA_stI, mI_stI, mR_mW, mN_mW, isO_mW, isA_mW, mI_mW, mW_mW, stI_mW, vp_0, nI_add, nI_ltI, nI_leI, nI_eq, vpi, nI_clamp, nI_toN, nI_geT, nI_lt4, pk_mul, pk_sub, bv_0n, bv_1n, ↓bv_01n, n01a, n01b, Nat.reduceSub, u2_rw, rw_rw, rw_at, rw_ne, rw_175_174, rw_176_174, rw_176_175, rw_177_174, rw_177_175, rw_177_176, rw_178_174, rw_178_175, rw_178_176, rw_178_177, rw_179_174, rw_179_175, rw_179_176, rw_179_177, rw_179_178, rw_180_174, rw_180_175, rw_180_176, rw_180_177, rw_180_178, rw_180_179, up_at, up_ne, Nat.zero_add, Nat.add_zero, bk_oM hB, bk_m0 hB, bk_m1 hB, bk_m2 hB, bk_m4 hB, bk_m6 hB, bk_m9 hB, md_a hB, md_p hB, md_s hB, md_t hB, md_r hB, md_v hB, ite_nt, ↓g_M_clearText_0, hT]
  exact ⟨rfl, rfl⟩
def nxB (f : Nat → Nat → Int32) (i : Nat) : Int32 := if i < tL f then f 178 i else -1
def e_M_next : Ent := (fun av M => ∃ (o : Nat), av = [.ref o] ∧ (o = 174 ∧ BkS M ∧ RdS (mI M)), fun av M r_ M_ => ∀ (o : Nat), av = [.ref o] → r_ = (some (.int (nxB (mI M) (tA (mI M))))) ∧ M_ = (M))
theorem pc_M_next {o : Nat} {M : Mem} {K : Option Value → Mem → Prop} (hp : o = 174 ∧ BkS M ∧ RdS (mI M)) : pcall e_M_next [.ref o] M K = K (some (.int (nxB (mI M) (tA (mI M))))) (M) := propext ⟨fun h => h.2 _ _ (fun o' e => by simp only [List.cons.injEq, Value.ref.injEq, Value.int.injEq, Value.long.injEq, and_true] at e; have q0 := e; obtain rfl := q0; exact ⟨rfl, rfl⟩), fun h => ⟨⟨o, rfl, hp⟩, fun r_ M_ q => by obtain ⟨rfl, rfl⟩ := q _ rfl; exact h⟩⟩
theorem mk_M_next {Z : Zt} {d : Nat} (h : ∀ (o : Nat) (M : Mem), (o = 174 ∧ BkS M ∧ RdS (mI M)) → Gm Z d s_M_next [.ref o] M (ex (some (.int (nxB (mI M) (tA (mI M))))) (M))) : okE Z d i_M_next e_M_next := by
  rintro av M ⟨o, rfl, hp⟩
  exact Gm.cons (h o M  hp) (fun r_ M_ q o' e => by simp only [List.cons.injEq, Value.ref.injEq, Value.int.injEq, Value.long.injEq, and_true] at e; have q0 := e; obtain rfl := q0; exact q)
def C_M_next : List (Nat × Ent) := []
abbrev S_M_next : List Nat := []
def t_M_next_24 : List PI := (24, 9, 0, 0, 0, 0, []) :: []
def t_M_next_23 : List PI := (23, 0, 0, 0, 0, -1, []) :: t_M_next_24
def t_M_next_11 : List PI := (11, 1, 1, 0, 0, 0, []) :: (12, 8, 1, 5, 4, 0, [19]) :: (15, 1, 1, 0, 0, 0, []) :: (16, 8, 0, 5, 7, 0, [42]) :: (19, 8, 4, 0, 0, 0, []) :: (20, 6, 0, 24, 0, 0, []) :: t_M_next_23
def t_M_next_0 : List PI := (0, 1, 1, 0, 0, 0, []) :: (1, 8, 0, 5, 7, 0, [42]) :: (4, 1, 1, 0, 0, 0, []) :: (5, 8, 0, 5, 5, 0, [38]) :: (8, 4, 3, 23, 0, 0, []) :: t_M_next_11
theorem kt_M_next : okP s_M_next t_M_next_0 := k_M_next
theorem g_M_next_0 {Z : Zt} {nF f : Nat} {Kx : Nat → Kt} {Q : Option Value → Mem → Prop} {M : Mem} {x1 : Nat} : run Z nF C_M_next S_M_next Kx Q (f + 5) t_M_next_0 [some (.ref (x1))] [] M = (isO (M) (x1) 5 ∧ isO (M) (x1) 5 ∧ (if (mI (M) (x1) 5) ≤ (mI (M) (x1) 7) then run Z nF C_M_next S_M_next Kx Q f t_M_next_23 [some (.ref (x1))] [] (M) else run Z nF C_M_next S_M_next Kx Q f t_M_next_11 [some (.ref (x1))] [] (M))) := rfl
theorem g_M_next_11 {Z : Zt} {nF f : Nat} {Kx : Nat → Kt} {Q : Option Value → Mem → Prop} {M : Mem} {x1 : Nat} : run Z nF C_M_next S_M_next Kx Q (f + 6) t_M_next_11 [some (.ref (x1))] [] M = (isO (M) (x1) 5 ∧ isO (M) (x1) 5 ∧ isA (M) (mR (M) (x1) 4) (mI (M) (x1) 7) ∧ run Z nF C_M_next S_M_next Kx Q f t_M_next_24 [some (.ref (x1))] [.int (mI (M) (mR (M) (x1) 4) (Int32.toNatClampNeg (mI (M) (x1) 7)))] (M)) := rfl
theorem g_M_next_23 {Z : Zt} {nF f : Nat} {Kx : Nat → Kt} {Q : Option Value → Mem → Prop} {M : Mem} {x1 : Nat} : run Z nF C_M_next S_M_next Kx Q (f + 1) t_M_next_23 [some (.ref (x1))] [] M = (run Z nF C_M_next S_M_next Kx Q f t_M_next_24 [some (.ref (x1))] [.int ((-1 : Int32))] (M)) := rfl
theorem g_M_next_24 {Z : Zt} {nF f : Nat} {Kx : Nat → Kt} {Q : Option Value → Mem → Prop} {M : Mem} {x1 : Nat} {x2 : Int32} : run Z nF C_M_next S_M_next Kx Q (f + 1) t_M_next_24 [some (.ref (x1))] [.int (x2)] M = (Q (some (.int (x2))) (M)) := rfl
set_option maxRecDepth 100000 in
set_option maxHeartbeats 4000000 in
theorem ok_M_next (Z : Zt) (d : Nat) : okE Z (d + 1) i_M_next e_M_next := mk_M_next fun o M hp => by
  obtain ⟨rfl, hB, ⟨hT, h60⟩, hA, hle⟩ := hp
  refine Gm_run (C := C_M_next) (S := S_M_next) [some (.ref 174)] 1000 kt_M_next okE_nil (ex_n rfl) ?_
  by_cases h : tA (mI M) < tL (mI M)
  · rw [show nxB (mI M) (tA (mI M)) = _ from if_pos h]
    have h1 : ¬ tL (mI M) ≤ tA (mI M) := by omega
    have h2 : tA (mI M) < 60 := by omega
    simp (maxSteps := 3000000) (disch := first | exact True.intro | assumption | omega) only [↓eq_self, Option.toList_some, Option.toList_none, List.nil_append, List.cons_append, wsum_0, wsum_1, wsum_2, wsum_3, wsum_4, lkill, ↓reduceIte, if_true, if_false, Bool.false_eq_true, and_true, true_and, and_self, or_self, true_or, or_true, not_true, not_false_iff, mR_stI, mN_stI, isO_stI, isA_stI, mI_stI, mR_mW, mN_mW, isO_mW, isA_mW, mI_mW, mW_mW, stI_mW, vp_0, nI_add, nI_ltI, nI_leI, nI_eq, vpi, nI_clamp, nI_toN, nI_geT, nI_lt4, pk_mul, pk_sub, bv_0n, bv_1n, ↓bv_01n, n01a, n01b, Nat.reduceSub, u2_rw, rw_rw, rw_at, rw_ne, rw_175_174, rw_176_174, rw_176_175, rw_177_174, rw_177_175, rw_177_176, rw_178_174, rw_178_175, rw_178_176, rw_178_177, rw_179_174, rw_179_175, rw_179_176, rw_179_177, rw_179_178, rw_180_174, rw_180_175, rw_180_176, rw_180_177, rw_180_178, rw_180_179, up_at, up_ne, Nat.zero_add, Nat.add_zero, bk_oM hB, bk_m0 hB, bk_m1 hB, bk_m2 hB, bk_m4 hB, bk_m6 hB, bk_m9 hB, md_a hB, md_p hB, md_s hB, md_t hB, md_r hB, md_v hB, ite_nt, ↓g_M_next_0, ↓g_M_next_11, ↓g_M_next_23, ↓g_M_next_24, hT, hA, h1, h2]
    exact ⟨rfl, rfl⟩
  · rw [show nxB (mI M) (tA (mI M)) = _ from if_neg h]
    have h1 : tL (mI M) ≤ tA (mI M) := by omega
    simp (maxSteps := 3000000) (disch := first | exact True.intro | assumption | omega) only [↓eq_self, Option.toList_some, Option.toList_none, List.nil_append, List.cons_append, wsum_0, wsum_1, wsum_2, wsum_3, wsum_4, lkill, ↓reduceIte, if_true, if_false, Bool.false_eq_true, and_true, true_and, and_self, or_self, true_or, or_true, not_true, not_false_iff, mR_stI, mN_stI, isO_stI, isA_stI, mI_stI, mR_mW, mN_mW, isO_mW, isA_mW, mI_mW, mW_mW, stI_mW, vp_0, nI_add, nI_ltI, nI_leI, nI_eq, vpi, nI_clamp, nI_toN, nI_geT, nI_lt4, pk_mul, pk_sub, bv_0n, bv_1n, ↓bv_01n, n01a, n01b, Nat.reduceSub, u2_rw, rw_rw, rw_at, rw_ne, rw_175_174, rw_176_174, rw_176_175, rw_177_174, rw_177_175, rw_177_176, rw_178_174, rw_178_175, rw_178_176, rw_178_177, rw_179_174, rw_179_175, rw_179_176, rw_179_177, rw_179_178, rw_180_174, rw_180_175, rw_180_176, rw_180_177, rw_180_178, rw_180_179, up_at, up_ne, Nat.zero_add, Nat.add_zero, bk_oM hB, bk_m0 hB, bk_m1 hB, bk_m2 hB, bk_m4 hB, bk_m6 hB, bk_m9 hB, md_a hB, md_p hB, md_s hB, md_t hB, md_r hB, md_v hB, ite_nt, ↓g_M_next_0, ↓g_M_next_11, ↓g_M_next_23, ↓g_M_next_24, hT, hA, h1]
    exact ⟨rfl, rfl⟩
/-- the place that is read at, and the fault -/
def atF (f : Nat → Nat → Int32) (A : Nat) : Nat → Nat → Int32 := rwF f 174 (upF (f 174) 7 (nI A))
theorem atF_A {f : Nat → Nat → Int32} {A : Nat} (h : A < 2 ^ 31) : tA (atF f A) = A := by
  unfold tA atF
  rw [rw_at, up_at, nI_clamp h]
theorem atF_L (f : Nat → Nat → Int32) (A : Nat) : tL (atF f A) = tL f := by
  unfold tL atF
  rw [rw_at, up_ne (by omega)]
theorem atF_178 (f : Nat → Nat → Int32) (A : Nat) : atF f A 178 = f 178 := rw_ne (by omega)
theorem atF_179 (f : Nat → Nat → Int32) (A : Nat) : atF f A 179 = f 179 := rw_ne (by omega)
theorem atF_8 (f : Nat → Nat → Int32) (A : Nat) : atF f A 174 8 = f 174 8 := by
  unfold atF
  rw [rw_at, up_ne (by omega)]
theorem atF_R {f : Nat → Nat → Int32} {A : Nat} (h : RdS f) (hA : A ≤ tL f) : RdS (atF f A) := by
  have h60 := h.1.2
  have e1 := atF_A (f := f) (A := A) (by omega)
  have e2 := atF_L f A
  refine ⟨⟨?_, by rw [e2]; exact h60⟩, ?_, by rw [e1, e2]; exact hA⟩
  · rw [e2, ← h.1.1]
    unfold atF
    rw [rw_at, up_ne (by omega)]
  · rw [e1]
    unfold atF
    rw [rw_at, up_at]
theorem atF_atF (f : Nat → Nat → Int32) (A B : Nat) : atF (atF f A) B = atF f B := by
  unfold atF
  rw [rw_rw, rw_at]
  congr 1
  funext y
  unfold upF
  by_cases h : y = 7
  · rw [if_pos h, if_pos h]
  · rw [if_neg h, if_neg h, if_neg h]
theorem atF_self {f : Nat → Nat → Int32} (h : RdS f) : atF f (tA f) = f := by
  unfold atF
  rw [show upF (f 174) 7 (nI (tA f)) = f 174 from by
    funext y
    unfold upF
    by_cases q : y = 7
    · rw [if_pos q, q, h.2.1]
    · rw [if_neg q]]
  exact rwF_self f 174
theorem nxB_at (f : Nat → Nat → Int32) (A i : Nat) : nxB (atF f A) i = nxB f i := by
  unfold nxB
  rw [atF_L, atF_178]
theorem nx_v {M : Mem} {f : Nat → Nat → Int32} {A : Nat} {K : Option Value → Mem → Prop} (hB : BkS M) (h : RdS f) (hA : A ≤ tL f) : pcall e_M_next [.ref 174] (mW M (atF f A)) K = K (some (.int (nxB f A))) (mW M (atF f A)) := by
  have h60 := h.1.2
  rw [pc_M_next (o := 174) (M := mW M (atF f A)) ⟨rfl, hB, atF_R h hA⟩, mI_mW, atF_A (by omega), nxB_at]
theorem at_u (f : Nat → Nat → Int32) (A B : Nat) : rwF (atF f A) 174 (upF (atF f A 174) 7 (nI B)) = atF f B := atF_atF f A B
theorem at_7 {f : Nat → Nat → Int32} {A : Nat} : atF f A 174 7 = nI A := by
  unfold atF
  rw [rw_at, up_at]
def e_M_blanks : Ent := (fun av M => ∃ (o : Nat), av = [.ref o] ∧ (o = 174 ∧ BkS M ∧ RdS (mI M)), fun av M r_ M_ => ∀ (o : Nat), av = [.ref o] → r_ = (none) ∧ M_ = (mW M (atF (mI M) (skF isB_ (mI M 178) (tL (mI M)) (tA (mI M))))))
theorem pc_M_blanks {o : Nat} {M : Mem} {K : Option Value → Mem → Prop} (hp : o = 174 ∧ BkS M ∧ RdS (mI M)) : pcall e_M_blanks [.ref o] M K = K (none) (mW M (atF (mI M) (skF isB_ (mI M 178) (tL (mI M)) (tA (mI M))))) := propext ⟨fun h => h.2 _ _ (fun o' e => by simp only [List.cons.injEq, Value.ref.injEq, Value.int.injEq, Value.long.injEq, and_true] at e; have q0 := e; obtain rfl := q0; exact ⟨rfl, rfl⟩), fun h => ⟨⟨o, rfl, hp⟩, fun r_ M_ q => by obtain ⟨rfl, rfl⟩ := q _ rfl; exact h⟩⟩
theorem mk_M_blanks {Z : Zt} {d : Nat} (h : ∀ (o : Nat) (M : Mem), (o = 174 ∧ BkS M ∧ RdS (mI M)) → Gm Z d s_M_blanks [.ref o] M (ex (none) (mW M (atF (mI M) (skF isB_ (mI M 178) (tL (mI M)) (tA (mI M))))))) : okE Z d i_M_blanks e_M_blanks := by
  rintro av M ⟨o, rfl, hp⟩
  exact Gm.cons (h o M  hp) (fun r_ M_ q o' e => by simp only [List.cons.injEq, Value.ref.injEq, Value.int.injEq, Value.long.injEq, and_true] at e; have q0 := e; obtain rfl := q0; exact q)
def C_M_blanks : List (Nat × Ent) := [(i_M_next, e_M_next)]
abbrev S_M_blanks : List Nat := [0]
def t_M_blanks_22 : List PI := (22, 9, 5, 0, 0, 0, []) :: []
def t_M_blanks_9 : List PI := (9, 1, 1, 0, 0, 0, []) :: (10, 7, 0, 0, 0, 0, []) :: (11, 8, 0, 5, 7, 0, [42]) :: (14, 0, 0, 0, 0, 1, []) :: (15, 2, 0, 0, 0, 0, []) :: (16, 10, 0, 5, 7, 0, [42]) :: (19, 6, 0, 0, 0, 0, []) :: t_M_blanks_22
def t_M_blanks_4 : List PI := (4, 0, 0, 0, 1, 32, []) :: (6, 4, 1, 22, 0, 0, []) :: t_M_blanks_9
def t_M_blanks_0 : List PI := (0, 1, 1, 0, 0, 0, []) :: (1, 11, 0, 5, 113, 0, [45, 1]) :: t_M_blanks_4
theorem kt_M_blanks : okP s_M_blanks t_M_blanks_0 := k_M_blanks
theorem g_M_blanks_0 {Z : Zt} {nF f : Nat} {Kx : Nat → Kt} {Q : Option Value → Mem → Prop} {M : Mem} {x1 : Nat} : run Z nF C_M_blanks S_M_blanks Kx Q (f + 2) t_M_blanks_0 [some (.ref (x1))] [] M = (((isO (M) (x1) 5) ∧ wsum [] ≤ 8) ∧ pcall e_M_next [.ref (x1)] (M) (fun v M_ => run Z nF C_M_blanks S_M_blanks Kx Q f t_M_blanks_4 [some (.ref (x1))] (v.toList ++ []) M_)) := rfl
theorem g_M_blanks_4 {Z : Zt} {nF f : Nat} {Kx : Nat → Kt} {Q : Option Value → Mem → Prop} {M : Mem} {x1 : Nat} {x2 : Int32} : run Z nF C_M_blanks S_M_blanks Kx Q (f + 2) t_M_blanks_4 [some (.ref (x1))] [.int (x2)] M = ((if (x2) = ((nI 32)) then run Z nF C_M_blanks S_M_blanks Kx Q f t_M_blanks_9 [some (.ref (x1))] [] (M) else run Z nF C_M_blanks S_M_blanks Kx Q f t_M_blanks_22 [some (.ref (x1))] [] (M))) := rfl
theorem g_M_blanks_9 {Z : Zt} {nF f : Nat} {Kx : Nat → Kt} {Q : Option Value → Mem → Prop} {M : Mem} {x1 : Nat} : run Z nF C_M_blanks S_M_blanks Kx Q (f + 7) t_M_blanks_9 [some (.ref (x1))] [] M = (isO (M) (x1) 5 ∧ isO (M) (x1) 5 ∧ Kx 0 [some (.ref (x1))] [] (stI (M) (x1) 7 ((mI (M) (x1) 7) + ((nI 1))))) := rfl
theorem g_M_blanks_22 {Z : Zt} {nF f : Nat} {Kx : Nat → Kt} {Q : Option Value → Mem → Prop} {M : Mem} {x1 : Nat} : run Z nF C_M_blanks S_M_blanks Kx Q (f + 1) t_M_blanks_22 [some (.ref (x1))] [] M = (Q none (M)) := rfl
set_option maxRecDepth 100000 in
set_option maxHeartbeats 4000000 in
theorem lp_M_blanks (Z : Zt) (d : Nat) {M : Mem} {f : Nat → Nat → Int32} (hB : BkS M) (hR : RdS f) : ∀ n A, tL f - A = n → A ≤ tL f → X Z (d + 2) s_M_blanks (mN M) (mN M) (ex none (mW M (atF f (skF isB_ (f 178) (tL f) A)))) 0 [some (.ref 174)] [] (mW M (atF f A)) := by
  have h60 := hR.1.2
  intro n
  induction n with
  | zero =>
    intro A hn hA
    have e : skF isB_ (f 178) (tL f) A = A := skF_e (by omega)
    have hne : ¬ nxB f A = nI 32 := by
      unfold nxB
      rw [if_neg (by omega)]
      decide
    have hx := nx_v (M := M) (f := f) (A := A) (K := fun v M_ => run Z (mN M) C_M_blanks S_M_blanks (fun pc lv st M' => X Z (d + 1 + 1) s_M_blanks (mN M) (mN M) (ex none (mW M (atF f A))) pc lv st M') (ex none (mW M (atF f A))) 998 t_M_blanks_4 [some (.ref 174)] (v.toList ++ []) M_) hB hR hA
    rw [e]
    refine X_runT (C := C_M_blanks) (S := S_M_blanks) (T := t_M_blanks_0) 1000 kt_M_blanks (okE_cons (ok_M_next Z d) okE_nil) ?_
    simp (maxSteps := 3000000) (disch := first | exact True.intro | assumption | omega) only [↓eq_self, Option.toList_some, Option.toList_none, List.nil_append, List.cons_append, wsum_0, wsum_1, wsum_2, wsum_3, wsum_4, lkill, ↓reduceIte, if_true, if_false, Bool.false_eq_true, and_true, true_and, and_self, or_self, true_or, or_true, not_true, not_false_iff, mR_stI, mN_stI, isO_stI, isA_stI, mI_stI, mR_mW, mN_mW, isO_mW, isA_mW, mI_mW, mW_mW, stI_mW, vp_0, nI_addL, nI_mulL, nI_subL, nI_ltL, nI_leL, nI_Llt, nI_Lle, nI_eqL, nI_Leq, nI_add, pk_mul, nI_ltI, nI_leI, nI_eq, vpi, nI_clamp, nI_toN, ↓g_M_blanks_0, bk_oM hB]
    rw [hx]
    simp (maxSteps := 3000000) (disch := first | exact True.intro | assumption | omega) only [↓eq_self, Option.toList_some, Option.toList_none, List.nil_append, List.cons_append, wsum_0, wsum_1, wsum_2, wsum_3, wsum_4, lkill, ↓reduceIte, if_true, if_false, Bool.false_eq_true, and_true, true_and, and_self, or_self, true_or, or_true, not_true, not_false_iff, mR_stI, mN_stI, isO_stI, isA_stI, mI_stI, mR_mW, mN_mW, isO_mW, isA_mW, mI_mW, mW_mW, stI_mW, vp_0, nI_addL, nI_mulL, nI_subL, nI_ltL, nI_leL, nI_Llt, nI_Lle, nI_eqL, nI_Leq, nI_add, pk_mul, nI_ltI, nI_leI, nI_eq, vpi, nI_clamp, nI_toN, ↓g_M_blanks_4]
    rw [if_neg hne]
    simp (maxSteps := 3000000) (disch := first | exact True.intro | assumption | omega) only [↓eq_self, Option.toList_some, Option.toList_none, List.nil_append, List.cons_append, wsum_0, wsum_1, wsum_2, wsum_3, wsum_4, lkill, ↓reduceIte, if_true, if_false, Bool.false_eq_true, and_true, true_and, and_self, or_self, true_or, or_true, not_true, not_false_iff, mR_stI, mN_stI, isO_stI, isA_stI, mI_stI, mR_mW, mN_mW, isO_mW, isA_mW, mI_mW, mW_mW, stI_mW, vp_0, nI_addL, nI_mulL, nI_subL, nI_ltL, nI_leL, nI_Llt, nI_Lle, nI_eqL, nI_Leq, nI_add, pk_mul, nI_ltI, nI_leI, nI_eq, vpi, nI_clamp, nI_toN, ↓g_M_blanks_22]
    exact ⟨rfl, rfl⟩
  | succ n ih =>
    intro A hn hA
    have hlt : A < tL f := by omega
    have eb : nxB f A = f 178 A := if_pos hlt
    have hx : ∀ {K : Option Value → Mem → Prop}, pcall e_M_next [.ref 174] (mW M (atF f A)) K = K (some (.int (nxB f A))) (mW M (atF f A)) := nx_v hB hR hA
    refine X_runT (C := C_M_blanks) (S := S_M_blanks) (T := t_M_blanks_0) 1000 kt_M_blanks (okE_cons (ok_M_next Z d) okE_nil) ?_
    simp (maxSteps := 3000000) (disch := first | exact True.intro | assumption | omega) only [↓eq_self, Option.toList_some, Option.toList_none, List.nil_append, List.cons_append, wsum_0, wsum_1, wsum_2, wsum_3, wsum_4, lkill, ↓reduceIte, if_true, if_false, Bool.false_eq_true, and_true, true_and, and_self, or_self, true_or, or_true, not_true, not_false_iff, mR_stI, mN_stI, isO_stI, isA_stI, mI_stI, mR_mW, mN_mW, isO_mW, isA_mW, mI_mW, mW_mW, stI_mW, vp_0, nI_addL, nI_mulL, nI_subL, nI_ltL, nI_leL, nI_Llt, nI_Lle, nI_eqL, nI_Leq, nI_add, pk_mul, nI_ltI, nI_leI, nI_eq, vpi, nI_clamp, nI_toN, ↓g_M_blanks_0, bk_oM hB, hx]
    simp (maxSteps := 3000000) (disch := first | exact True.intro | assumption | omega) only [↓eq_self, Option.toList_some, Option.toList_none, List.nil_append, List.cons_append, wsum_0, wsum_1, wsum_2, wsum_3, wsum_4, lkill, ↓reduceIte, if_true, if_false, Bool.false_eq_true, and_true, true_and, and_self, or_self, true_or, or_true, not_true, not_false_iff, mR_stI, mN_stI, isO_stI, isA_stI, mI_stI, mR_mW, mN_mW, isO_mW, isA_mW, mI_mW, mW_mW, stI_mW, vp_0, nI_addL, nI_mulL, nI_subL, nI_ltL, nI_leL, nI_Llt, nI_Lle, nI_eqL, nI_Leq, nI_add, pk_mul, nI_ltI, nI_leI, nI_eq, vpi, nI_clamp, nI_toN, ↓g_M_blanks_4]
    by_cases h : f 178 A = nI 32
    · have e : skF isB_ (f 178) (tL f) A = skF isB_ (f 178) (tL f) (A + 1) := skF_s hlt (decide_eq_true h)
      rw [if_pos (eb.trans h), e]
      simp (maxSteps := 3000000) (disch := first | exact True.intro | assumption | omega) only [↓eq_self, Option.toList_some, Option.toList_none, List.nil_append, List.cons_append, wsum_0, wsum_1, wsum_2, wsum_3, wsum_4, lkill, ↓reduceIte, if_true, if_false, Bool.false_eq_true, and_true, true_and, and_self, or_self, true_or, or_true, not_true, not_false_iff, mR_stI, mN_stI, isO_stI, isA_stI, mI_stI, mR_mW, mN_mW, isO_mW, isA_mW, mI_mW, mW_mW, stI_mW, vp_0, nI_addL, nI_mulL, nI_subL, nI_ltL, nI_leL, nI_Llt, nI_Lle, nI_eqL, nI_Leq, nI_add, pk_mul, nI_ltI, nI_leI, nI_eq, vpi, nI_clamp, nI_toN, ↓g_M_blanks_9, bk_oM hB, u2_rw, at_7, nI_add, at_u]
      exact ih (A + 1) (by omega) (by omega)
    · have e : skF isB_ (f 178) (tL f) A = A := skF_e (fun q => h (of_decide_eq_true q.2))
      rw [if_neg (fun q => h (eb.symm.trans q)), e]
      simp (maxSteps := 3000000) (disch := first | exact True.intro | assumption | omega) only [↓eq_self, Option.toList_some, Option.toList_none, List.nil_append, List.cons_append, wsum_0, wsum_1, wsum_2, wsum_3, wsum_4, lkill, ↓reduceIte, if_true, if_false, Bool.false_eq_true, and_true, true_and, and_self, or_self, true_or, or_true, not_true, not_false_iff, mR_stI, mN_stI, isO_stI, isA_stI, mI_stI, mR_mW, mN_mW, isO_mW, isA_mW, mI_mW, mW_mW, stI_mW, vp_0, nI_addL, nI_mulL, nI_subL, nI_ltL, nI_leL, nI_Llt, nI_Lle, nI_eqL, nI_Leq, nI_add, pk_mul, nI_ltI, nI_leI, nI_eq, vpi, nI_clamp, nI_toN, ↓g_M_blanks_22]
      exact ⟨rfl, rfl⟩
set_option maxRecDepth 100000 in
set_option maxHeartbeats 4000000 in
theorem ok_M_blanks (Z : Zt) (d : Nat) : okE Z (d + 2) i_M_blanks e_M_blanks := mk_M_blanks fun o M hp => by
  obtain ⟨rfl, hB, hR⟩ := hp
  refine Gm_of (lv := [some (.ref 174)]) (by decide) (by rfl) (by decide) (Nat.le_refl _) (ex_n rfl) ?_
  have := lp_M_blanks Z d (M := M) (f := mI M) hB hR _ (tA (mI M)) rfl hR.2.2
  rw [atF_self hR, mW_self] at this
  exact this
theorem bl_v {M : Mem} {f : Nat → Nat → Int32} {A : Nat} {K : Option Value → Mem → Prop} (hB : BkS M) (h : RdS f) (hA : A ≤ tL f) : pcall e_M_blanks [.ref 174] (mW M (atF f A)) K = K none (mW M (atF f (skF isB_ (f 178) (tL f) A))) := by
  have h60 := h.1.2
  rw [pc_M_blanks (o := 174) (M := mW M (atF f A)) ⟨rfl, hB, atF_R h hA⟩, mI_mW, mW_mW, atF_A (by omega), atF_L, atF_178, atF_atF]
def e_M_fails : Ent := (fun av M => ∃ (o : Nat) (x : Int32), av = [.ref o, .int x] ∧ (o = 174 ∧ BkS M), fun av M r_ M_ => ∀ (o : Nat) (x : Int32), av = [.ref o, .int x] → r_ = (none) ∧ M_ = (mW M (rwF (mI M) 174 (upF (mI M 174) 8 (if mI M 174 8 = -1000003 then x else mI M 174 8)))))
theorem pc_M_fails {o : Nat} {x : Int32} {M : Mem} {K : Option Value → Mem → Prop} (hp : o = 174 ∧ BkS M) : pcall e_M_fails [.ref o, .int x] M K = K (none) (mW M (rwF (mI M) 174 (upF (mI M 174) 8 (if mI M 174 8 = -1000003 then x else mI M 174 8)))) := propext ⟨fun h => h.2 _ _ (fun o' x' e => by simp only [List.cons.injEq, Value.ref.injEq, Value.int.injEq, Value.long.injEq, and_true] at e; obtain ⟨q0, q1⟩ := e; obtain rfl := q0; obtain rfl := q1; exact ⟨rfl, rfl⟩), fun h => ⟨⟨o, x, rfl, hp⟩, fun r_ M_ q => by obtain ⟨rfl, rfl⟩ := q _ _ rfl; exact h⟩⟩
theorem mk_M_fails {Z : Zt} {d : Nat} (h : ∀ (o : Nat) (x : Int32) (M : Mem), (o = 174 ∧ BkS M) → Gm Z d s_M_fails [.ref o, .int x] M (ex (none) (mW M (rwF (mI M) 174 (upF (mI M 174) 8 (if mI M 174 8 = -1000003 then x else mI M 174 8)))))) : okE Z d i_M_fails e_M_fails := by
  rintro av M ⟨o, x, rfl, hp⟩
  exact Gm.cons (h o x M  hp) (fun r_ M_ q o' x' e => by simp only [List.cons.injEq, Value.ref.injEq, Value.int.injEq, Value.long.injEq, and_true] at e; obtain ⟨q0, q1⟩ := e; obtain rfl := q0; obtain rfl := q1; exact q)
def C_M_fails : List (Nat × Ent) := []
abbrev S_M_fails : List Nat := []
def t_M_fails_18 : List PI := (18, 10, 0, 5, 8, 0, [49]) :: (21, 9, 5, 0, 0, 0, []) :: []
def t_M_fails_14 : List PI := (14, 1, 1, 0, 0, 0, []) :: (15, 8, 0, 5, 8, 0, [49]) :: t_M_fails_18
def t_M_fails_10 : List PI := (10, 1, 0, 1, 0, 0, []) :: (11, 6, 0, 18, 0, 0, []) :: t_M_fails_14
def t_M_fails_0 : List PI := (0, 1, 1, 0, 0, 0, []) :: (1, 1, 1, 0, 0, 0, []) :: (2, 8, 0, 5, 8, 0, [49]) :: (5, 0, 0, 52, 3, -1000003, []) :: (7, 4, 1, 14, 0, 0, []) :: t_M_fails_10
theorem kt_M_fails : okP s_M_fails t_M_fails_0 := k_M_fails
theorem g_M_fails_0 {Z : Zt} {nF f : Nat} {Kx : Nat → Kt} {Q : Option Value → Mem → Prop} {M : Mem} {x1 : Nat} {x2 : Int32} : run Z nF C_M_fails S_M_fails Kx Q (f + 5) t_M_fails_0 [some (.ref (x1)), some (.int (x2))] [] M = (isO (M) (x1) 5 ∧ (if (mI (M) (x1) 8) = ((-1000003 : Int32)) then run Z nF C_M_fails S_M_fails Kx Q f t_M_fails_10 [some (.ref (x1)), some (.int (x2))] [.ref (x1)] (M) else run Z nF C_M_fails S_M_fails Kx Q f t_M_fails_14 [some (.ref (x1)), some (.int (x2))] [.ref (x1)] (M))) := rfl
theorem g_M_fails_10 {Z : Zt} {nF f : Nat} {Kx : Nat → Kt} {Q : Option Value → Mem → Prop} {M : Mem} {x1 : Nat} {x2 : Int32} {x3 : Nat} : run Z nF C_M_fails S_M_fails Kx Q (f + 2) t_M_fails_10 [some (.ref (x1)), some (.int (x2))] [.ref (x3)] M = (run Z nF C_M_fails S_M_fails Kx Q f t_M_fails_18 [some (.ref (x1)), some (.int (x2))] [.int (x2), .ref (x3)] (M)) := rfl
theorem g_M_fails_14 {Z : Zt} {nF f : Nat} {Kx : Nat → Kt} {Q : Option Value → Mem → Prop} {M : Mem} {x1 : Nat} {x2 : Int32} {x3 : Nat} : run Z nF C_M_fails S_M_fails Kx Q (f + 2) t_M_fails_14 [some (.ref (x1)), some (.int (x2))] [.ref (x3)] M = (isO (M) (x1) 5 ∧ run Z nF C_M_fails S_M_fails Kx Q f t_M_fails_18 [some (.ref (x1)), some (.int (x2))] [.int (mI (M) (x1) 8), .ref (x3)] (M)) := rfl
theorem g_M_fails_18 {Z : Zt} {nF f : Nat} {Kx : Nat → Kt} {Q : Option Value → Mem → Prop} {M : Mem} {x1 : Nat} {x2 : Int32} {x3 : Int32} {x4 : Nat} : run Z nF C_M_fails S_M_fails Kx Q (f + 2) t_M_fails_18 [some (.ref (x1)), some (.int (x2))] [.int (x3), .ref (x4)] M = (isO (M) (x4) 5 ∧ Q none (stI (M) (x4) 8 (x3))) := rfl
set_option maxRecDepth 100000 in
set_option maxHeartbeats 4000000 in
theorem ok_M_fails (Z : Zt) (d : Nat) : okE Z (d + 1) i_M_fails e_M_fails := mk_M_fails fun o x M hp => by
  obtain ⟨rfl, hB⟩ := hp
  refine Gm_run (C := C_M_fails) (S := S_M_fails) [some (.ref 174), some (.int x)] 1000 kt_M_fails okE_nil (ex_n rfl) ?_
  simp (maxSteps := 3000000) (disch := first | exact True.intro | assumption | omega) only [↓eq_self, Option.toList_some, Option.toList_none, List.nil_append, List.cons_append, wsum_0, wsum_1, wsum_2, wsum_3, wsum_4, lkill, ↓reduceIte, if_true, if_false, Bool.false_eq_true, and_true, true_and, and_self, or_self, true_or, or_true, not_true, not_false_iff, mR_stI, mN_stI, isO_stI, isA_stI, mI_stI, mR_mW, mN_mW, isO_mW, isA_mW, mI_mW, mW_mW, stI_mW, vp_0, nI_addL, nI_mulL, nI_subL, nI_ltL, nI_leL, nI_Llt, nI_Lle, nI_eqL, nI_Leq, nI_add, pk_mul, nI_ltI, nI_leI, nI_eq, vpi, nI_clamp, nI_toN, ↓g_M_fails_0, bk_oM hB]
  by_cases h : mI M 174 8 = -1000003
  · rw [if_pos h, if_pos h]
    simp (maxSteps := 3000000) (disch := first | exact True.intro | assumption | omega) only [↓eq_self, Option.toList_some, Option.toList_none, List.nil_append, List.cons_append, wsum_0, wsum_1, wsum_2, wsum_3, wsum_4, lkill, ↓reduceIte, if_true, if_false, Bool.false_eq_true, and_true, true_and, and_self, or_self, true_or, or_true, not_true, not_false_iff, mR_stI, mN_stI, isO_stI, isA_stI, mI_stI, mR_mW, mN_mW, isO_mW, isA_mW, mI_mW, mW_mW, stI_mW, vp_0, nI_addL, nI_mulL, nI_subL, nI_ltL, nI_leL, nI_Llt, nI_Lle, nI_eqL, nI_Leq, nI_add, pk_mul, nI_ltI, nI_leI, nI_eq, vpi, nI_clamp, nI_toN, ↓g_M_fails_10, ↓g_M_fails_14, ↓g_M_fails_18, bk_oM hB, u2_rw]
    exact ⟨rfl, rfl⟩
  · rw [if_neg h, if_neg h]
    simp (maxSteps := 3000000) (disch := first | exact True.intro | assumption | omega) only [↓eq_self, Option.toList_some, Option.toList_none, List.nil_append, List.cons_append, wsum_0, wsum_1, wsum_2, wsum_3, wsum_4, lkill, ↓reduceIte, if_true, if_false, Bool.false_eq_true, and_true, true_and, and_self, or_self, true_or, or_true, not_true, not_false_iff, mR_stI, mN_stI, isO_stI, isA_stI, mI_stI, mR_mW, mN_mW, isO_mW, isA_mW, mI_mW, mW_mW, stI_mW, vp_0, nI_addL, nI_mulL, nI_subL, nI_ltL, nI_leL, nI_Llt, nI_Lle, nI_eqL, nI_Leq, nI_add, pk_mul, nI_ltI, nI_leI, nI_eq, vpi, nI_clamp, nI_toN, ↓g_M_fails_10, ↓g_M_fails_14, ↓g_M_fails_18, bk_oM hB, u2_rw]
    exact ⟨rfl, rfl⟩
def dgB (f : Nat → Nat → Int32) (i : Nat) : Prop := nI 48 ≤ nxB f i ∧ nxB f i ≤ nI 57
def e_M_isDigit : Ent := (fun av M => ∃ (o : Nat), av = [.ref o] ∧ (o = 174 ∧ BkS M ∧ RdS (mI M)), fun av M r_ M_ => ∀ (o : Nat), av = [.ref o] → r_ = (some (.int (bv (dgB (mI M) (tA (mI M)))))) ∧ M_ = (M))
theorem pc_M_isDigit {o : Nat} {M : Mem} {K : Option Value → Mem → Prop} (hp : o = 174 ∧ BkS M ∧ RdS (mI M)) : pcall e_M_isDigit [.ref o] M K = K (some (.int (bv (dgB (mI M) (tA (mI M)))))) (M) := propext ⟨fun h => h.2 _ _ (fun o' e => by simp only [List.cons.injEq, Value.ref.injEq, Value.int.injEq, Value.long.injEq, and_true] at e; have q0 := e; obtain rfl := q0; exact ⟨rfl, rfl⟩), fun h => ⟨⟨o, rfl, hp⟩, fun r_ M_ q => by obtain ⟨rfl, rfl⟩ := q _ rfl; exact h⟩⟩
theorem mk_M_isDigit {Z : Zt} {d : Nat} (h : ∀ (o : Nat) (M : Mem), (o = 174 ∧ BkS M ∧ RdS (mI M)) → Gm Z d s_M_isDigit [.ref o] M (ex (some (.int (bv (dgB (mI M) (tA (mI M)))))) (M))) : okE Z d i_M_isDigit e_M_isDigit := by
  rintro av M ⟨o, rfl, hp⟩
  exact Gm.cons (h o M  hp) (fun r_ M_ q o' e => by simp only [List.cons.injEq, Value.ref.injEq, Value.int.injEq, Value.long.injEq, and_true] at e; have q0 := e; obtain rfl := q0; exact q)
def C_M_isDigit : List (Nat × Ent) := [(i_M_next, e_M_next), (i_M_in, e_M_in)]
abbrev S_M_isDigit : List Nat := []
def t_M_isDigit_11 : List PI := (11, 9, 1, 0, 0, 0, []) :: []
def t_M_isDigit_4 : List PI := (4, 0, 0, 0, 1, 48, []) :: (6, 0, 0, 0, 1, 57, []) :: (8, 11, 1, 0, 101, 0, [28, 3]) :: t_M_isDigit_11
def t_M_isDigit_0 : List PI := (0, 1, 1, 0, 0, 0, []) :: (1, 11, 0, 5, 113, 0, [45, 1]) :: t_M_isDigit_4
theorem kt_M_isDigit : okP s_M_isDigit t_M_isDigit_0 := k_M_isDigit
theorem g_M_isDigit_0 {Z : Zt} {nF f : Nat} {Kx : Nat → Kt} {Q : Option Value → Mem → Prop} {M : Mem} {x1 : Nat} : run Z nF C_M_isDigit S_M_isDigit Kx Q (f + 2) t_M_isDigit_0 [some (.ref (x1))] [] M = (((isO (M) (x1) 5) ∧ wsum [] ≤ 8) ∧ pcall e_M_next [.ref (x1)] (M) (fun v M_ => run Z nF C_M_isDigit S_M_isDigit Kx Q f t_M_isDigit_4 [some (.ref (x1))] (v.toList ++ []) M_)) := rfl
theorem g_M_isDigit_4 {Z : Zt} {nF f : Nat} {Kx : Nat → Kt} {Q : Option Value → Mem → Prop} {M : Mem} {x1 : Nat} {x2 : Int32} : run Z nF C_M_isDigit S_M_isDigit Kx Q (f + 3) t_M_isDigit_4 [some (.ref (x1))] [.int (x2)] M = (((True) ∧ wsum [] ≤ 8) ∧ pcall e_M_in [.int (x2), .int ((nI 48)), .int ((nI 57))] (M) (fun v M_ => run Z nF C_M_isDigit S_M_isDigit Kx Q f t_M_isDigit_11 [some (.ref (x1))] (v.toList ++ []) M_)) := rfl
theorem g_M_isDigit_11 {Z : Zt} {nF f : Nat} {Kx : Nat → Kt} {Q : Option Value → Mem → Prop} {M : Mem} {x1 : Nat} {x2 : Int32} : run Z nF C_M_isDigit S_M_isDigit Kx Q (f + 1) t_M_isDigit_11 [some (.ref (x1))] [.int (x2)] M = (((x2) = nI 0 ∨ (x2) = nI 1) ∧ Q (some (.int (x2))) (M)) := rfl
set_option maxRecDepth 100000 in
set_option maxHeartbeats 4000000 in
theorem ok_M_isDigit (Z : Zt) (d : Nat) : okE Z (d + 2) i_M_isDigit e_M_isDigit := mk_M_isDigit fun o M hp => by
  obtain ⟨rfl, hB, hR⟩ := hp
  have hx : ∀ {K : Option Value → Mem → Prop}, pcall e_M_next [.ref 174] M K = K (some (.int (nxB (mI M) (tA (mI M))))) M := pc_M_next (o := 174) (M := M) ⟨rfl, hB, hR⟩
  refine Gm_run (C := C_M_isDigit) (S := S_M_isDigit) [some (.ref 174)] 1000 kt_M_isDigit (okE_cons (ok_M_next Z d) (okE_cons (ok_M_in Z d) okE_nil)) (ex_n rfl) ?_
  simp (maxSteps := 3000000) (disch := first | exact True.intro | assumption | omega) only [↓eq_self, Option.toList_some, Option.toList_none, List.nil_append, List.cons_append, wsum_0, wsum_1, wsum_2, wsum_3, wsum_4, lkill, ↓reduceIte, if_true, if_false, Bool.false_eq_true, and_true, true_and, and_self, or_self, true_or, or_true, not_true, not_false_iff, mR_stI, mN_stI, isO_stI, isA_stI, mI_stI, mR_mW, mN_mW, isO_mW, isA_mW, mI_mW, mW_mW, stI_mW, vp_0, nI_addL, nI_mulL, nI_subL, nI_ltL, nI_leL, nI_Llt, nI_Lle, nI_eqL, nI_Leq, nI_add, pk_mul, nI_ltI, nI_leI, nI_eq, vpi, nI_clamp, nI_toN, ↓g_M_isDigit_0, ↓g_M_isDigit_4, ↓g_M_isDigit_11, bk_oM hB, hx, pc_M_in, ↓bv_01n]
  exact ⟨rfl, rfl⟩
theorem dg_v {M : Mem} {f : Nat → Nat → Int32} {A : Nat} {K : Option Value → Mem → Prop} (hB : BkS M) (h : RdS f) (hA : A ≤ tL f) : pcall e_M_isDigit [.ref 174] (mW M (atF f A)) K = K (some (.int (bv (dgB f A)))) (mW M (atF f A)) := by
  have h60 := h.1.2
  have e : dgB (atF f A) A = dgB f A := by
    unfold dgB
    rw [nxB_at]
  rw [pc_M_isDigit (o := 174) (M := mW M (atF f A)) ⟨rfl, hB, atF_R h hA⟩, mI_mW, atF_A (by omega), e]
