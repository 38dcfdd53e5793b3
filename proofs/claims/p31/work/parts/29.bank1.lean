theorem bv_Tr : bv True = 1 := bv_T trivial
theorem bv_Fa : bv False = 0 := bv_F id
theorem one_n0 : ((1 : Int32) = 0) = False := by decide
theorem fa_not_lt {a b : Int32} : (a < b) = ¬ b ≤ a := propext Int32.not_le.symm
abbrev vT (f : Nat → Nat → Int32) (t : Int32) : Prop := 0 ≤ t ∧ t < nI (lnT f 20)
abbrev vR (r : Int32) : Prop := 0 ≤ r ∧ r < 4
theorem vT_nI {f : Nat → Nat → Int32} {t : Int32} (hD : LedD f 20) (h : vT f t) : ∃ k, t = nI k ∧ k < lnT f 20 ∧ k < 6 := by
  have h6 : lnT f 20 ≤ 6 := hD.2.2.2.2.2.1
  obtain ⟨k, hk, hk2⟩ := I_lt h.1 h.2 (by omega)
  exact ⟨k, hk, hk2, by omega⟩
theorem vR_nI {r : Int32} (h : vR r) : ∃ k, r = nI k ∧ k < 4 := I_lt (n := 4) h.1 h.2 (by omega)
def tyR (f : Nat → Nat → Int32) (v : Int32) : Int32 := if 0 ≤ v ∧ v ≤ 127 then (if tl f < 60 then nI (tl f + 1) else -1000002) else -1000000
def tyF (f : Nat → Nat → Int32) (v : Int32) : Nat → Nat → Int32 := if 0 ≤ v ∧ v ≤ 127 then apF f v else f
def e_B_type : Ent := (fun av M => ∃ (o : Nat) (v : Int32), av = [.ref o, .int v] ∧ (o = 16 ∧ WB M), fun av M r_ M_ => ∀ (o : Nat) (v : Int32), av = [.ref o, .int v] → r_ = (some (.int (tyR (mI M) v))) ∧ M_ = (mW M (tyF (mI M) v)))
theorem pc_B_type {o : Nat} {v : Int32} {M : Mem} {K : Option Value → Mem → Prop} (hp : o = 16 ∧ WB M) : pcall e_B_type [.ref o, .int v] M K = K (some (.int (tyR (mI M) v))) (mW M (tyF (mI M) v)) := propext ⟨fun h => h.2 _ _ (fun o' v' e => by simp only [List.cons.injEq, Value.ref.injEq, Value.int.injEq, Value.long.injEq, and_true] at e; obtain ⟨q0, q1⟩ := e; obtain rfl := q0; obtain rfl := q1; exact ⟨rfl, rfl⟩), fun h => ⟨⟨o, v, rfl, hp⟩, fun r_ M_ q => by obtain ⟨rfl, rfl⟩ := q _ _ rfl; exact h⟩⟩
theorem mk_B_type {Z : Zt} {d : Nat} (h : ∀ (o : Nat) (v : Int32) (M : Mem), (o = 16 ∧ WB M) → Gm Z d s_B_type [.ref o, .int v] M (ex (some (.int (tyR (mI M) v))) (mW M (tyF (mI M) v)))) : okE Z d i_B_type e_B_type := by
  rintro av M ⟨o, v, rfl, hp⟩
  exact Gm.cons (h o v M  hp) (fun r_ M_ q o' v' e => by simp only [List.cons.injEq, Value.ref.injEq, Value.int.injEq, Value.long.injEq, and_true] at e; obtain ⟨q0, q1⟩ := e; obtain rfl := q0; obtain rfl := q1; exact q)
set_option maxRecDepth 100000 in
set_option maxHeartbeats 4000000 in
theorem ok_B_type (Z : Zt) (d : Nat) : okE Z (d + 2) i_B_type e_B_type := mk_B_type fun o v M hp => by
  obtain ⟨rfl, hB, hD, -, hH, hT⟩ := hp
  have hl := hT.2
  refine Gm_run (C := [(i_B_within, e_B_within), (i_V_append, e_V_append)]) (S := []) [some (.ref 16), some (.int v)] 100 k_B_type (okE_cons (ok_B_within Z d) (okE_cons (ok_V_append Z d) okE_nil)) (ex_n rfl) ?_
  unfold tyR tyF
  simp (disch := first | trivial | assumption | omega) only [run, go, jmp, seek, inS, e0, e1, e2, e3, e4, e5, tsw, e7, e8, e9, e10, e11, e12, splitA, rcv, clook, lget, lset, lset2, lkill, Option.toList, List.nil_append, List.cons_append, wsum, List.map_cons, List.map_nil, List.sum_cons, List.sum_nil, Value.category, Nat.reduceAdd, List.getD_cons_zero, List.getD_cons_succ, ↓reduceIte, if_true, if_false, Bool.false_eq_true, Nat.reduceLeDiff, Nat.reduceEqDiff, true_or, or_true, true_and, and_true, and_self, or_self, not_true, not_false_iff, mR_stI, mN_stI, isO_stI, isA_stI, mI_stI, mR_mW, mN_mW, isO_mW, isA_mW, mI_mW, mW_mW, stI_mW, nI_addL, nI_mulL, nI_subL, nI_ltL, nI_leL, nI_Llt, nI_Lle, nI_eqL, nI_Leq, nI_add, pk_mul, nI_ltI, nI_leI, nI_eq, vpi, nI_clamp, nI_toN, bk_oB hB, bk_oV hB, bk_oH hB, bk_b0 hB, bk_b1 hB, bk_b2 hB, bk_b3 hB, bk_b4 hB, bk_b5 hB, bk_v0 hB, bk_v1 hB, bk_h0 hB, nw_o hB, nw_og hB, nw_od hB, nw_ot hB, nw_r9 hB, nw_r10 hB, nw_r11 hB, nw_r0 hB, nw_r1 hB, nw_r2 hB, nw_r3 hB, nw_r4 hB, nw_r5 hB, nw_r6 hB, nw_r7 hB, nw_r8 hB, nw_a1 hB, nw_a2 hB, nw_a3 hB, nw_a4 hB, nw_a5 hB, nw_a6 hB, nw_a7 hB, nw_a8 hB, nw_a9 hB, nw_a14 hB, nw_as hB, nw_at hB, p_B_type, i_B_within, i_V_append, pc_B_within, pc_V_append (o := 17) (v := v) (M := M) ⟨rfl, hB, hT⟩, bv_0]
  by_cases h1 : 0 ≤ v ∧ v ≤ 127
  · simp only [h1, and_self, not_true, if_true, if_false]
    by_cases h2 : tl (mI M) < 60
    · have e : apF (mI M) v 17 2 = nI (tl (mI M) + 1) := by rw [apF, if_pos h2, u2_eq]
      simp only [h2, not_true, if_true, if_false, e]
      exact ⟨rfl, rfl⟩
    · simp only [h2, not_false_iff, if_true, if_false]
      exact ⟨rfl, rfl⟩
  · simp only [h1, not_false_iff, if_true, if_false]
    exact ⟨rfl, rfl⟩
def e_B_clearText : Ent := (fun av M => ∃ (o : Nat), av = [.ref o] ∧ (o = 16 ∧ WB M), fun av M r_ M_ => ∀ (o : Nat), av = [.ref o] → r_ = (some (.int (nI (tl (mI M))))) ∧ M_ = (mW M (u2 (mI M) 17 2 0)))
theorem pc_B_clearText {o : Nat} {M : Mem} {K : Option Value → Mem → Prop} (hp : o = 16 ∧ WB M) : pcall e_B_clearText [.ref o] M K = K (some (.int (nI (tl (mI M))))) (mW M (u2 (mI M) 17 2 0)) := propext ⟨fun h => h.2 _ _ (fun o' e => by simp only [List.cons.injEq, Value.ref.injEq, Value.int.injEq, Value.long.injEq, and_true] at e; have q0 := e; obtain rfl := q0; exact ⟨rfl, rfl⟩), fun h => ⟨⟨o, rfl, hp⟩, fun r_ M_ q => by obtain ⟨rfl, rfl⟩ := q _ rfl; exact h⟩⟩
theorem mk_B_clearText {Z : Zt} {d : Nat} (h : ∀ (o : Nat) (M : Mem), (o = 16 ∧ WB M) → Gm Z d s_B_clearText [.ref o] M (ex (some (.int (nI (tl (mI M))))) (mW M (u2 (mI M) 17 2 0)))) : okE Z d i_B_clearText e_B_clearText := by
  rintro av M ⟨o, rfl, hp⟩
  exact Gm.cons (h o M  hp) (fun r_ M_ q o' e => by simp only [List.cons.injEq, Value.ref.injEq, Value.int.injEq, Value.long.injEq, and_true] at e; have q0 := e; obtain rfl := q0; exact q)
set_option maxRecDepth 100000 in
set_option maxHeartbeats 4000000 in
theorem ok_B_clearText (Z : Zt) (d : Nat) : okE Z (d + 1) i_B_clearText e_B_clearText := mk_B_clearText fun o M hp => by
  obtain ⟨rfl, hB, hD, -, hH, hT⟩ := hp
  refine Gm_run (C := []) (S := []) [some (.ref 16), none] 100 k_B_clearText okE_nil (ex_n rfl) ?_
  simp (disch := first | trivial | assumption | omega) only [run, go, jmp, seek, inS, e0, e1, e2, e3, e4, e5, tsw, e7, e8, e9, e10, e11, e12, splitA, rcv, clook, lget, lset, lset2, lkill, Option.toList, List.nil_append, List.cons_append, wsum, List.map_cons, List.map_nil, List.sum_cons, List.sum_nil, Value.category, Nat.reduceAdd, List.getD_cons_zero, List.getD_cons_succ, ↓reduceIte, if_true, if_false, Bool.false_eq_true, Nat.reduceLeDiff, Nat.reduceEqDiff, true_or, or_true, true_and, and_true, and_self, or_self, not_true, not_false_iff, mR_stI, mN_stI, isO_stI, isA_stI, mI_stI, mR_mW, mN_mW, isO_mW, isA_mW, mI_mW, mW_mW, stI_mW, nI_addL, nI_mulL, nI_subL, nI_ltL, nI_leL, nI_Llt, nI_Lle, nI_eqL, nI_Leq, nI_add, pk_mul, nI_ltI, nI_leI, nI_eq, vpi, nI_clamp, nI_toN, bk_oB hB, bk_oV hB, bk_oH hB, bk_b0 hB, bk_b1 hB, bk_b2 hB, bk_b3 hB, bk_b4 hB, bk_b5 hB, bk_v0 hB, bk_v1 hB, bk_h0 hB, nw_o hB, nw_og hB, nw_od hB, nw_ot hB, nw_r9 hB, nw_r10 hB, nw_r11 hB, nw_r0 hB, nw_r1 hB, nw_r2 hB, nw_r3 hB, nw_r4 hB, nw_r5 hB, nw_r6 hB, nw_r7 hB, nw_r8 hB, nw_a1 hB, nw_a2 hB, nw_a3 hB, nw_a4 hB, nw_a5 hB, nw_a6 hB, nw_a7 hB, nw_a8 hB, nw_a9 hB, nw_a14 hB, nw_as hB, nw_at hB, p_B_clearText, hT.1]
  exact ⟨rfl, rfl⟩
def e_B_fault : Ent := (fun av M => ∃ (o : Nat), av = [.ref o] ∧ (o = 16 ∧ WB M), fun av M r_ M_ => ∀ (o : Nat), av = [.ref o] → r_ = (some (.int (rvF (mI M)).1)) ∧ M_ = (mW M (rwF (mI M) 19 (rvF (mI M)).2)))
theorem pc_B_fault {o : Nat} {M : Mem} {K : Option Value → Mem → Prop} (hp : o = 16 ∧ WB M) : pcall e_B_fault [.ref o] M K = K (some (.int (rvF (mI M)).1)) (mW M (rwF (mI M) 19 (rvF (mI M)).2)) := propext ⟨fun h => h.2 _ _ (fun o' e => by simp only [List.cons.injEq, Value.ref.injEq, Value.int.injEq, Value.long.injEq, and_true] at e; have q0 := e; obtain rfl := q0; exact ⟨rfl, rfl⟩), fun h => ⟨⟨o, rfl, hp⟩, fun r_ M_ q => by obtain ⟨rfl, rfl⟩ := q _ rfl; exact h⟩⟩
theorem mk_B_fault {Z : Zt} {d : Nat} (h : ∀ (o : Nat) (M : Mem), (o = 16 ∧ WB M) → Gm Z d s_B_fault [.ref o] M (ex (some (.int (rvF (mI M)).1)) (mW M (rwF (mI M) 19 (rvF (mI M)).2)))) : okE Z d i_B_fault e_B_fault := by
  rintro av M ⟨o, rfl, hp⟩
  exact Gm.cons (h o M  hp) (fun r_ M_ q o' e => by simp only [List.cons.injEq, Value.ref.injEq, Value.int.injEq, Value.long.injEq, and_true] at e; have q0 := e; obtain rfl := q0; exact q)
set_option maxRecDepth 100000 in
set_option maxHeartbeats 4000000 in
theorem ok_B_fault (Z : Zt) (d : Nat) : okE Z (d + 8) i_B_fault e_B_fault := mk_B_fault fun o M hp => by
  obtain ⟨rfl, hB, hD, -, hH, hT⟩ := hp
  refine Gm_run (C := [(i_V_read, e_V_read)]) (S := []) [some (.ref 16)] 100 k_B_fault (okE_cons (ok_V_read Z d) okE_nil) (ex_n rfl) ?_
  simp (disch := first | trivial | assumption | omega) only [run, go, jmp, seek, inS, e0, e1, e2, e3, e4, e5, tsw, e7, e8, e9, e10, e11, e12, splitA, rcv, clook, lget, lset, lset2, lkill, Option.toList, List.nil_append, List.cons_append, wsum, List.map_cons, List.map_nil, List.sum_cons, List.sum_nil, Value.category, Nat.reduceAdd, List.getD_cons_zero, List.getD_cons_succ, ↓reduceIte, if_true, if_false, Bool.false_eq_true, Nat.reduceLeDiff, Nat.reduceEqDiff, true_or, or_true, true_and, and_true, and_self, or_self, not_true, not_false_iff, mR_stI, mN_stI, isO_stI, isA_stI, mI_stI, mR_mW, mN_mW, isO_mW, isA_mW, mI_mW, mW_mW, stI_mW, nI_addL, nI_mulL, nI_subL, nI_ltL, nI_leL, nI_Llt, nI_Lle, nI_eqL, nI_Leq, nI_add, pk_mul, nI_ltI, nI_leI, nI_eq, vpi, nI_clamp, nI_toN, bk_oB hB, bk_oV hB, bk_oH hB, bk_b0 hB, bk_b1 hB, bk_b2 hB, bk_b3 hB, bk_b4 hB, bk_b5 hB, bk_v0 hB, bk_v1 hB, bk_h0 hB, nw_o hB, nw_og hB, nw_od hB, nw_ot hB, nw_r9 hB, nw_r10 hB, nw_r11 hB, nw_r0 hB, nw_r1 hB, nw_r2 hB, nw_r3 hB, nw_r4 hB, nw_r5 hB, nw_r6 hB, nw_r7 hB, nw_r8 hB, nw_a1 hB, nw_a2 hB, nw_a3 hB, nw_a4 hB, nw_a5 hB, nw_a6 hB, nw_a7 hB, nw_a8 hB, nw_a9 hB, nw_a14 hB, nw_as hB, nw_at hB, p_B_fault, i_V_read, pc_V_read (o := 17) (M := M) ⟨rfl, hB, hT⟩]
  exact ⟨rfl, rfl⟩
def srR (f : Nat → Nat → Int32) (r b n : Int32) : Int32 := if vR r ∧ 0 ≤ n ∧ n ≤ 999 then (if b = 0 ∧ ¬ f 23 r.toNatClampNeg ≤ n then -1000001 else f (if b = 0 then 21 else 22) r.toNatClampNeg) else -1000000
noncomputable def srM (M : Mem) (r b n : Int32) : Mem := if vR r ∧ 0 ≤ n ∧ n ≤ 999 then (if b = 0 ∧ ¬ mI M 23 r.toNatClampNeg ≤ n then M else mW (kpM M) (u2 (mI (kpM M)) (if b = 0 then 21 else 22) r.toNatClampNeg n)) else M
theorem kp_n (M : Mem) : mN (kpM M) = mN M := by
  obtain ⟨f, r, e⟩ := kp_w M
  rw [e]
  rfl
theorem kp_x {M : Mem} {p : Prop} [Decidable p] {f : Nat → Nat → Int32} : mN (if p then mW (kpM M) f else M) = mN M := by
  split
  · exact kp_n M
  · rfl
theorem srM_n (M : Mem) (r b n : Int32) : mN (srM M r b n) = mN M := by
  unfold srM
  split
  · split
    · rfl
    · exact kp_n M
  · rfl
def e_B_setResource : Ent := (fun av M => ∃ (o : Nat) (r : Int32) (b : Int32) (n : Int32), av = [.ref o, .int r, .int b, .int n] ∧ (o = 16 ∧ WB M), fun av M r_ M_ => ∀ (o : Nat) (r : Int32) (b : Int32) (n : Int32), av = [.ref o, .int r, .int b, .int n] → r_ = (some (.int (srR (mI M) r b n))) ∧ M_ = (srM M r b n))
theorem pc_B_setResource {o : Nat} {r : Int32} {b : Int32} {n : Int32} {M : Mem} {K : Option Value → Mem → Prop} (hp : o = 16 ∧ WB M) : pcall e_B_setResource [.ref o, .int r, .int b, .int n] M K = K (some (.int (srR (mI M) r b n))) (srM M r b n) := propext ⟨fun h => h.2 _ _ (fun o' r' b' n' e => by simp only [List.cons.injEq, Value.ref.injEq, Value.int.injEq, Value.long.injEq, and_true] at e; obtain ⟨q0, q1, q2, q3⟩ := e; obtain rfl := q0; obtain rfl := q1; obtain rfl := q2; obtain rfl := q3; exact ⟨rfl, rfl⟩), fun h => ⟨⟨o, r, b, n, rfl, hp⟩, fun r_ M_ q => by obtain ⟨rfl, rfl⟩ := q _ _ _ _ rfl; exact h⟩⟩
theorem mk_B_setResource {Z : Zt} {d : Nat} (h : ∀ (o : Nat) (r : Int32) (b : Int32) (n : Int32) (M : Mem), (o = 16 ∧ WB M) → Gm Z d s_B_setResource [.ref o, .int r, .int b, .int n] M (ex (some (.int (srR (mI M) r b n))) (srM M r b n))) : okE Z d i_B_setResource e_B_setResource := by
  rintro av M ⟨o, r, b, n, rfl, hp⟩
  exact Gm.cons (h o r b n M  hp) (fun r_ M_ q o' r' b' n' e => by simp only [List.cons.injEq, Value.ref.injEq, Value.int.injEq, Value.long.injEq, and_true] at e; obtain ⟨q0, q1, q2, q3⟩ := e; obtain rfl := q0; obtain rfl := q1; obtain rfl := q2; obtain rfl := q3; exact q)
set_option maxRecDepth 100000 in
set_option maxHeartbeats 4000000 in
theorem ok_B_setResource (Z : Zt) (d : Nat) : okE Z (d + 5) i_B_setResource e_B_setResource := mk_B_setResource fun o r b n M hp => by
  obtain ⟨rfl, hB, hD, hD2, hH, hT⟩ := hp
  have hB2 := kp_B hB
  have hk1 : ∀ {y}, mI (kpM M) 21 y = mI M 21 y := fun {y} => kp_i hB hH (by omega)
  have hk2 : ∀ {y}, mI (kpM M) 22 y = mI M 22 y := fun {y} => kp_i hB hH (by omega)
  have hC : ∀ q ∈ [(i_B_within, e_B_within), (i_B_isResource, e_B_isResource), (i_H_keep, e_H_keep)], okE Z (d + 4) q.1 q.2 := (okE_cons (ok_B_within Z (d + 3)) (okE_cons (ok_B_isResource Z (d + 3)) (okE_cons (ok_H_keep Z d) okE_nil)))
  by_cases h1 : 0 ≤ r ∧ r < 4
  · obtain ⟨k, rfl, hk⟩ := vR_nI h1
    by_cases h2 : 0 ≤ n ∧ n ≤ 999 <;> by_cases h3 : b = 0 <;> by_cases h4 : mI M 23 k ≤ n <;> refine Gm_run (S := []) [some (.ref 16), some (.int (nI k)), some (.int b), some (.int n), none, none] 100 k_B_setResource hC (ex_n (srM_n M _ b n)) ?_ <;> unfold srR srM <;> simp (maxSteps := 3000000) (disch := first | exact True.intro | assumption | omega) only [↓run, ↓go, ↓jmp, seek, inS, ↓e0, ↓e1, ↓e2, ↓e3, ↓e4, ↓e5, ↓tsw, ↓e7, ↓e8, ↓e9, ↓e10, ↓e11, ↓e12, ↓splitA, rcv, clook, lget, lset, lset2, lkill, Option.toList, List.nil_append, List.cons_append, wsum, List.map_cons, List.map_nil, List.sum_cons, List.sum_nil, Value.category, Nat.reduceAdd, List.getD_cons_zero, List.getD_cons_succ, ↓reduceIte, if_true, if_false, Bool.false_eq_true, Nat.reduceLeDiff, Nat.reduceEqDiff, true_or, or_true, true_and, and_true, and_self, or_self, not_true, not_false_iff, mR_stI, mN_stI, isO_stI, isA_stI, mI_stI, mR_mW, mN_mW, isO_mW, isA_mW, mI_mW, mW_mW, stI_mW, nI_addL, nI_mulL, nI_subL, nI_ltL, nI_leL, nI_Llt, nI_Lle, nI_eqL, nI_Leq, nI_add, pk_mul, nI_ltI, nI_leI, nI_eq, vpi, nI_clamp, nI_toN, bk_oB hB, bk_oV hB, bk_oH hB, bk_b0 hB, bk_b1 hB, bk_b2 hB, bk_b3 hB, bk_b4 hB, bk_b5 hB, bk_v0 hB, bk_v1 hB, bk_h0 hB, nw_o hB, nw_og hB, nw_od hB, nw_ot hB, nw_r9 hB, nw_r10 hB, nw_r11 hB, nw_r0 hB, nw_r1 hB, nw_r2 hB, nw_r3 hB, nw_r4 hB, nw_r5 hB, nw_r6 hB, nw_r7 hB, nw_r8 hB, nw_a1 hB, nw_a2 hB, nw_a3 hB, nw_a4 hB, nw_a5 hB, nw_a6 hB, nw_a7 hB, nw_a8 hB, nw_a9 hB, nw_a14 hB, nw_as hB, nw_at hB, bk_oB hB2, bk_oV hB2, bk_oH hB2, bk_b0 hB2, bk_b1 hB2, bk_b2 hB2, bk_b3 hB2, bk_b4 hB2, bk_b5 hB2, bk_v0 hB2, bk_v1 hB2, bk_h0 hB2, nw_o hB2, nw_og hB2, nw_od hB2, nw_ot hB2, nw_r9 hB2, nw_r10 hB2, nw_r11 hB2, nw_r0 hB2, nw_r1 hB2, nw_r2 hB2, nw_r3 hB2, nw_r4 hB2, nw_r5 hB2, nw_r6 hB2, nw_r7 hB2, nw_r8 hB2, nw_a1 hB2, nw_a2 hB2, nw_a3 hB2, nw_a4 hB2, nw_a5 hB2, nw_a6 hB2, nw_a7 hB2, nw_a8 hB2, nw_a9 hB2, nw_a14 hB2, nw_as hB2, nw_at hB2, vR, vT, Nat.not_lt_zero, bv_Tr, bv_Fa, one_n0, eq_self, Nat.zero_le, and_true, true_and, and_false, false_and, not_true, not_false_iff, or_true, true_or, or_false, false_or, mN_mRW, ex_iff, p_B_setResource, i_B_within, i_B_isResource, i_H_keep, pc_B_within, pc_B_isResource, pc_H_keep (o := 50) (b := 20) (M := M) ⟨rfl, rfl, hB, hD, hH⟩, hk1, hk2, hk, h2, h3, h4]
  · refine Gm_run (S := []) [some (.ref 16), some (.int r), some (.int b), some (.int n), none, none] 100 k_B_setResource hC (ex_n (srM_n M r b n)) ?_
    unfold srR srM
    simp (maxSteps := 3000000) (disch := first | exact True.intro | assumption | omega) only [↓run, ↓go, ↓jmp, seek, inS, ↓e0, ↓e1, ↓e2, ↓e3, ↓e4, ↓e5, ↓tsw, ↓e7, ↓e8, ↓e9, ↓e10, ↓e11, ↓e12, ↓splitA, rcv, clook, lget, lset, lset2, lkill, Option.toList, List.nil_append, List.cons_append, wsum, List.map_cons, List.map_nil, List.sum_cons, List.sum_nil, Value.category, Nat.reduceAdd, List.getD_cons_zero, List.getD_cons_succ, ↓reduceIte, if_true, if_false, Bool.false_eq_true, Nat.reduceLeDiff, Nat.reduceEqDiff, true_or, or_true, true_and, and_true, and_self, or_self, not_true, not_false_iff, mR_stI, mN_stI, isO_stI, isA_stI, mI_stI, mR_mW, mN_mW, isO_mW, isA_mW, mI_mW, mW_mW, stI_mW, nI_addL, nI_mulL, nI_subL, nI_ltL, nI_leL, nI_Llt, nI_Lle, nI_eqL, nI_Leq, nI_add, pk_mul, nI_ltI, nI_leI, nI_eq, vpi, nI_clamp, nI_toN, bk_oB hB, bk_oV hB, bk_oH hB, bk_b0 hB, bk_b1 hB, bk_b2 hB, bk_b3 hB, bk_b4 hB, bk_b5 hB, bk_v0 hB, bk_v1 hB, bk_h0 hB, nw_o hB, nw_og hB, nw_od hB, nw_ot hB, nw_r9 hB, nw_r10 hB, nw_r11 hB, nw_r0 hB, nw_r1 hB, nw_r2 hB, nw_r3 hB, nw_r4 hB, nw_r5 hB, nw_r6 hB, nw_r7 hB, nw_r8 hB, nw_a1 hB, nw_a2 hB, nw_a3 hB, nw_a4 hB, nw_a5 hB, nw_a6 hB, nw_a7 hB, nw_a8 hB, nw_a9 hB, nw_a14 hB, nw_as hB, nw_at hB, vR, vT, Nat.not_lt_zero, bv_Tr, bv_Fa, one_n0, eq_self, Nat.zero_le, and_true, true_and, and_false, false_and, not_true, not_false_iff, or_true, true_or, or_false, false_or, mN_mRW, ex_iff, p_B_setResource, i_B_within, i_B_isResource, pc_B_isResource, h1]
