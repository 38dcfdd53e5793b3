/-! calls that make cells -/
theorem X_mkI {Z : Zt} {d : Nat} {sg : Sig} {n0 nF n1 : Nat} {Q Qc : Option Value → Mem → Prop} {pc a b x : Nat} {v : Int32} {tl : List Nat} {lv : List (Option Value)} {av rest : List Value} {M : Mem} (hi : okI sg (pc, 11, 4, a, b, v, tl)) (hx : 16 ≤ x) (hn : av.length + 1 = tl.getD 1 0) (hws : wsum rest ≤ 8) (hG : GmA Z d (sgt b) (.ref x :: av) M n1 Qc) (h1n : n1 ≤ nF)
    (h : ∀ r M', Qc r M' → mN M' = n1 → X Z (d + 1) sg n0 nF Q (pc + 3) lv (r.toList ++ rest) M') : X Z (d + 1) sg n0 nF Q pc lv (av.reverse ++ .ref x :: rest) M := by
  obtain ⟨h0, hw, -⟩ := hi
  simp only [okB, Bool.and_eq_true, decide_eq_true_eq] at h0
  obtain ⟨hd, hs⟩ := h0
  simp only [sB, Bool.and_eq_true, decide_eq_true_eq] at hs
  obtain ⟨⟨⟨⟨h0, h1⟩, h2⟩, h3⟩, h4⟩ := hs
  obtain ⟨g1, g2, g3⟩ := okN_spec h0
  exact X_callI (d := d) (n0 := n0) (nF := nF) (Q := Q) (lv := lv) (sg := sg) (pc := pc) (av := av) (rest := rest) hx h1 h2 g1 ⟨g2, g3⟩ h4 (by omega) (hw _ (by simp [wI])) (hw _ (by simp [wI])) (hw _ (by simp [wI])) (hw _ (by simp [wI])) hd hws hG h1n h
theorem X_mkIN {Z : Zt} {d : Nat} {sg : Sig} {n0 nF n1 : Nat} {Q Qc : Option Value → Mem → Prop} {pc a b x : Nat} {v : Int32} {tl : List Nat} {lv : List (Option Value)} {av rest : List Value} {M : Mem} (hi : okI sg (pc, 11, 5, a, b, v, tl)) (hx : 16 ≤ x) (hn : av.length + 1 = tl.getD 1 0) (hws : wsum rest ≤ 8) (hG : GmA Z d (sgt b) (.ref x :: av) M n1 Qc) (h1n : n1 ≤ nF)
    (h : ∀ r M', Qc r M' → mN M' = n1 → X Z (d + 1) sg n0 nF Q (pc + 3) lv (r.toList ++ rest) M') : X Z (d + 1) sg n0 nF Q pc lv (av.reverse ++ .ref x :: rest) M := by
  obtain ⟨h0, hw, hnn⟩ := hi
  simp only [okB, Bool.and_eq_true, decide_eq_true_eq] at h0
  obtain ⟨hd, hs⟩ := h0
  simp only [sB, Bool.and_eq_true, decide_eq_true_eq] at hs
  obtain ⟨⟨⟨⟨h0, h1⟩, h2⟩, h3⟩, h4⟩ := hs
  obtain ⟨g1, g2, g3⟩ := okN_spec h0
  exact X_callIN (host := "LimitBank") (d := d) (n0 := n0) (nF := nF) (Q := Q) (lv := lv) (sg := sg) (pc := pc) (av := av) (rest := rest) hx h1 h2 g1 ⟨g2, g3⟩ h4 (by omega) (hnn _ (by simp [nI_])) (hw _ (by simp [wI])) (hw _ (by simp [wI])) (hw _ (by simp [wI])) hd hws hG h1n h
/-- a constructor's entry -/
theorem Gm_mk {Z : Zt} {d : Nat} {sg : Sig} {av : List Value} {M : Mem} {nF : Nat} {Q : Option Value → Mem → Prop} {C : List (Nat × Ent)} {S : List Nat} {P r : List PI} {x : Ins} (lv : List (Option Value)) (f : Nat) (hP : okP sg P) (hC : ∀ q ∈ C, okE Z d q.1 q.2) (hQ : ∀ r M', Q r M' → mN M' = nF) (hM : mN M ≤ nF)
    (h : run Z nF C S (fun pc lv st M' => X Z (d + 1) sg (mN M) nF Q pc lv st M') Q f P lv [] M) (hx : P = (0, x) :: r := by rfl) (hy : plainName sg.1.cls = true := by decide) (hl : lv = argL av ++ List.replicate (sg.2.2.1 - (argL av).length) none := by rfl) (hn : Nat.ble (argL av).length sg.2.2.1 = true := by rfl) : GmA Z (d + 1) sg av M nF Q := by
  refine Gm_of hy hl (Nat.le_of_ble_eq_true hn) hM hQ ?_
  exact run_X hC f P lv [] M hP h (0, x) r hx
theorem mN_al (M : Mem) : mN (al M) = mN M + 1 := rfl
theorem mN_stR (M : Mem) (a k v : Nat) : mN (stR M a k v) = mN M := rfl
theorem mI_stR (M : Mem) (a k v : Nat) : mI (stR M a k v) = mI M := rfl
theorem mR_stR (M : Mem) (a k v : Nat) : mR (stR M a k v) = u2 (mR M) a k v := rfl
theorem isO_stR (M : Mem) (a k v : Nat) : isO (stR M a k v) = isO M := rfl
theorem isA_stR (M : Mem) (a k v : Nat) : isA (stR M a k v) = isA M := rfl
theorem isO_al {M : Mem} {i ci : Nat} (h : isO M i ci) : isO (al M) i ci = True := eq_true ⟨Nat.lt_succ_of_lt h.1, h.2⟩
def C_new (M : Mem) (c n : Nat) : Mem := stR (al (stR M c 1 n)) c 0 (mN M)
def C_C_init : List (Nat × Ent) := []
abbrev S_C_init : List Nat := []
def t_C_init_23 : List PI := (23, 10, 1, 0, 0, 0, [21]) :: (26, 9, 5, 0, 0, 0, []) :: []
def t_C_init_0 : List PI := (0, 1, 1, 0, 0, 0, []) :: (1, 12, 3, 0, 0, 0, [3]) :: (4, 1, 1, 0, 0, 0, []) :: (5, 1, 0, 1, 0, 0, []) :: (6, 0, 0, 0, 0, 0, []) :: (7, 12, 0, 0, 0, 0, [9]) :: (10, 10, 2, 0, 1, 0, [15]) :: (13, 1, 1, 0, 0, 0, []) :: (14, 1, 1, 0, 0, 0, []) :: (15, 8, 2, 0, 1, 0, [15]) :: (18, 0, 0, 0, 1, 6, []) :: (20, 2, 2, 0, 0, 0, []) :: (21, 10, 7, 0, 0, 0, []) :: t_C_init_23
theorem kt_C_init : okP s_C_init t_C_init_0 := k_C_init
theorem g_C_init_0 {Z : Zt} {nF f : Nat} {Kx : Nat → Kt} {Q : Option Value → Mem → Prop} {M : Mem} {x1 : Nat} {x2 : Int32} : run Z nF C_C_init S_C_init Kx Q (f + 13) t_C_init_0 [some (.ref (x1)), some (.int (x2))] [] M = ((16 ≤ (x1) ∧ wsum [] ≤ 8) ∧ wsum [.ref (x1)] ≤ 8 ∧ isO (M) (x1) 0 ∧ ∃ n1, (if (x2) < ((0 : Int32)) then ((0 : Int32)) else (x2)) = nI n1 ∧ isO (stR (M) (x1) 1 n1) (x1) 0 ∧ ∃ n2 : Nat, (((nI (mR (stR (M) (x1) 1 n1) (x1) 1)) * ((6 : Int32))) = nI n2 ∧ kd (mN (stR (M) (x1) 1 n1)) = (1, n2) ∧ n2 < 100000 ∧ mN (stR (M) (x1) 1 n1) + 1 ≤ nF) ∧ run Z nF C_C_init S_C_init Kx Q f t_C_init_23 [some (.ref (x1)), some (.int (x2))] [.ref (mN (stR (M) (x1) 1 n1)), .ref (x1)] (al (stR (M) (x1) 1 n1))) := rfl
theorem g_C_init_23 {Z : Zt} {nF f : Nat} {Kx : Nat → Kt} {Q : Option Value → Mem → Prop} {M : Mem} {x1 : Nat} {x2 : Int32} {x3 : Nat} {x4 : Nat} : run Z nF C_C_init S_C_init Kx Q (f + 2) t_C_init_23 [some (.ref (x1)), some (.int (x2))] [.ref (x3), .ref (x4)] M = (isO (M) (x4) 0 ∧ Q none (stR (M) (x4) 0 (x3))) := rfl
set_option maxRecDepth 100000 in
set_option maxHeartbeats 4000000 in
theorem ok_C_init_ (Z : Zt) (d : Nat) {M : Mem} {c n : Nat} (ho : isO M c 0) (hc : 16 ≤ c) (hn : n < 100) (hk : kd (mN M) = (1, n * 6)) : GmA Z (d + 1) s_C_init [.ref c, .int (nI n)] M (mN M + 1) (ex none (C_new M c n)) := by
  have h2 : (if nI n < nI 0 then nI 0 else nI n) = nI n := if_neg (fun q => by rw [nI_ltI (by omega) (by omega)] at q; omega)
  refine Gm_mk (C := C_C_init) (S := S_C_init) [some (.ref c), some (.int (nI n))] 1000 kt_C_init okE_nil (fun r M' q => by rw [q.2]; rfl) (Nat.le_succ _) ?_
  simp (maxSteps := 3000000) (disch := first | exact True.intro | assumption | omega) only [↓eq_self, Option.toList_some, Option.toList_none, List.nil_append, List.cons_append, wsum_0, wsum_1, wsum_2, wsum_3, wsum_4, lkill, ↓reduceIte, if_true, if_false, Bool.false_eq_true, and_true, true_and, and_self, or_self, true_or, or_true, not_true, not_false_iff, mR_stI, mN_stI, isO_stI, isA_stI, mI_stI, mR_mW, mN_mW, isO_mW, isA_mW, mI_mW, mW_mW, stI_mW, vp_0, nI_addL, nI_mulL, nI_subL, nI_ltL, nI_leL, nI_Llt, nI_Lle, nI_eqL, nI_Leq, nI_add, pk_mul, nI_ltI, nI_leI, nI_eq, vpi, nI_clamp, nI_toN, ↓g_C_init_0, ↓g_C_init_23, ho, hc, mR_stR, isO_stR, mN_stR, u2_eq, (show (0 : Int32) = nI 0 from rfl), h2, Nat.le_refl]
  exact ⟨n, rfl, n * 6, ⟨rfl, hk, by omega⟩, of_eq_true (isO_al (show isO (stR M c 1 n) c 0 from ho)), rfl, rfl⟩
