def rwF (f : Nat → Nat → Int32) (a : Nat) (u : Nat → Int32) : Nat → Nat → Int32 := fun x y => if x = a then u y else f x y
def upF (u : Nat → Int32) (r : Nat) (v : Int32) : Nat → Int32 := fun y => if y = r then v else u y
theorem rwF_u {f : Nat → Nat → Int32} {a r : Nat} {u : Nat → Int32} {v : Int32} : u2 (rwF f a u) a r v = rwF f a (upF u r v) := by
  funext x y
  simp only [rwF, upF, u2_at]
  by_cases h : x = a
  · by_cases h2 : y = r
    · rw [if_pos ⟨h, h2⟩, if_pos h, if_pos h2]
    · rw [if_neg (fun q => h2 q.2), if_pos h, if_pos h, if_neg h2]
  · rw [if_neg (fun q => h q.1), if_neg h, if_neg h]
theorem rowF_o {f : Nat → Nat → Int32} {a x y : Nat} {u : Nat → Int32} (h : x ≠ a) : rwF f a u x y = f x y := by
  unfold rwF
  rw [if_neg h]
theorem tl_row {f : Nat → Nat → Int32} {u : Nat → Int32} : tl (rwF f 19 u) = tl f := rfl
theorem by_row {f : Nat → Nat → Int32} {u : Nat → Int32} : byF (rwF f 19 u) = byF f := rfl
theorem ab_row {f : Nat → Nat → Int32} {u : Nat → Int32} : abF (rwF f 19 u) = abF f := rfl
theorem al_row {f : Nat → Nat → Int32} {u : Nat → Int32} : alF (rwF f 19 u) = alF f := rfl
theorem dg_row {f : Nat → Nat → Int32} {u : Nat → Int32} : dgF (rwF f 19 u) = dgF f := rfl
theorem nu_row {f : Nat → Nat → Int32} {u : Nat → Int32} : ∀ k i a, nuF (rwF f 19 u) k i a = nuF f k i a := by
  intro k
  induction k with
  | zero => intro i a; rfl
  | succ k ih => intro i a; exact ih _ _
theorem nm_row {f : Nat → Nat → Int32} {u : Nat → Int32} : nmI (rwF f 19 u) = nmI f := rfl
theorem tx_row {f : Nat → Nat → Int32} {u : Nat → Int32} (h : TxD f) : TxD (rwF f 19 u) := h
def snB (v : Int32) (r : Nat) : Int32 := (v >>> (nI r &&& 31)) &&& 1
def snO (v : Int32) (r : Nat) : Int32 := v ||| ((1 : Int32) <<< (nI r &&& 31))
noncomputable def enF (f : Nat → Nat → Int32) (a : Nat) : Nat := @ite _ (dgF f (a + 1)) (Classical.propDecidable _) (a + 2) (a + 1)
noncomputable def rvS (f : Nat → Nat → Int32) : Nat → Nat → Int32 → (Nat → Int32) → Int32 × (Nat → Int32)
  | 0, _, _, u => (-1000003, u)
  | k + 1, i, v, u => if i < tl f then (if nmN f i (alF f i) = 4 ∨ ¬ snB v (nmN f i (alF f i)) = 0 then (nI i, u) else @ite _ (dgF f (abF f (alF f i))) (Classical.propDecidable _) (rvS f k (abF f (enF f (abF f (alF f i)))) (snO v (nmN f i (alF f i))) (upF u (nmN f i (alF f i)) (nuF f (enF f (abF f (alF f i)) - abF f (alF f i)) (abF f (alF f i)) 0))) (nI (abF f (alF f i)), u)) else (-1000003, u)
noncomputable def rvF (f : Nat → Nat → Int32) : Int32 × (Nat → Int32) := rvS f 5 (abF f 0) 0 (fun y => if y < 4 then 0 else f 19 y)
theorem dg_lt {f : Nat → Nat → Int32} {i : Nat} (h : dgF f i) : i < tl f := by
  unfold dgF byF at h
  by_cases q : i < tl f
  · exact q
  · rw [if_neg q] at h
    exact absurd h.1 (by decide)
theorem en_le {f : Nat → Nat → Int32} {a : Nat} (h : dgF f a) : a < enF f a ∧ enF f a ≤ tl f ∧ enF f a ≤ a + 2 := by
  have := dg_lt h
  unfold enF
  split
  · next q => have := dg_lt q; omega
  · omega
def e_V_read : Ent := (fun av M => ∃ (o : Nat), av = [.ref o] ∧ (o = 17 ∧ BkS M ∧ TxD (mI M)), fun av M r_ M_ => ∀ (o : Nat), av = [.ref o] → r_ = (some (.int (rvF (mI M)).1)) ∧ M_ = (mW M (rwF (mI M) 19 (rvF (mI M)).2)))
theorem pc_V_read {o : Nat} {M : Mem} {K : Option Value → Mem → Prop} (hp : o = 17 ∧ BkS M ∧ TxD (mI M)) : pcall e_V_read [.ref o] M K = K (some (.int (rvF (mI M)).1)) (mW M (rwF (mI M) 19 (rvF (mI M)).2)) := propext ⟨fun h => h.2 _ _ (fun o' e => by simp only [List.cons.injEq, Value.ref.injEq, Value.int.injEq, Value.long.injEq, and_true] at e; have q0 := e; obtain rfl := q0; exact ⟨rfl, rfl⟩), fun h => ⟨⟨o, rfl, hp⟩, fun r_ M_ q => by obtain ⟨rfl, rfl⟩ := q _ rfl; exact h⟩⟩
theorem mk_V_read {Z : Zt} {d : Nat} (h : ∀ (o : Nat) (M : Mem), (o = 17 ∧ BkS M ∧ TxD (mI M)) → Gm Z d s_V_read [.ref o] M (ex (some (.int (rvF (mI M)).1)) (mW M (rwF (mI M) 19 (rvF (mI M)).2)))) : okE Z d i_V_read e_V_read := by
  rintro av M ⟨o, rfl, hp⟩
  exact Gm.cons (h o M  hp) (fun r_ M_ q o' e => by simp only [List.cons.injEq, Value.ref.injEq, Value.int.injEq, Value.long.injEq, and_true] at e; have q0 := e; obtain rfl := q0; exact q)
set_option maxRecDepth 100000 in
set_option maxHeartbeats 4000000 in
theorem lp_V_read (Z : Zt) (d : Nat) {M : Mem} (hB : BkS M) (hT : TxD (mI M)) : ∀ n k i v u w4 w5, k + n = 5 → i ≤ tl (mI M) → X Z (d + 7) s_V_read (mN M) (mN M) (ex (some (.int (rvS (mI M) n i v u).1)) (mW M (rwF (mI M) 19 (rvS (mI M) n i v u).2))) 30 [some (.ref 17), some (.int v), some (.int (nI i)), some (.int (nI k)), w4, w5] [] (mW M (rwF (mI M) 19 u)) := by
  have hl := hT.2
  have hlen : ∀ u, rwF (mI M) 19 u 17 2 = nI (tl (mI M)) := fun u => hT.1
  have hC : ∀ q ∈ [(i_V_afterBlanks, e_V_afterBlanks), (i_V_afterLetters, e_V_afterLetters), (i_V_nameBetween, e_V_nameBetween), (i_V_isDigit, e_V_isDigit), (i_V_numberBetween, e_V_numberBetween)], okE Z (d + 6) q.1 q.2 := okE_cons (ok_V_afterBlanks Z (d + 4)) (okE_cons (ok_V_afterLetters Z (d + 4)) (okE_cons (ok_V_nameBetween Z d) (okE_cons (ok_V_isDigit Z (d + 4)) (okE_cons (ok_V_numberBetween Z (d + 4)) okE_nil))))
  intro n
  induction n with
  | zero =>
    intro k i v u w4 w5 hk hi
    obtain rfl : k = 5 := by omega
    refine X_run (C := []) (S := [30, 35]) 100 k_V_read okE_nil ?_
    simp (disch := first | trivial | assumption | omega) only [run, go, jmp, seek, inS, e0, e1, e2, e3, e4, e5, tsw, e7, e8, e9, e10, e11, e12, splitA, rcv, clook, lget, lset, lset2, lkill, Option.toList, List.nil_append, List.cons_append, wsum, List.map_cons, List.map_nil, List.sum_cons, List.sum_nil, Value.category, Nat.reduceAdd, List.getD_cons_zero, List.getD_cons_succ, ↓reduceIte, if_true, if_false, Bool.false_eq_true, Nat.reduceLeDiff, Nat.reduceEqDiff, true_or, or_true, true_and, and_true, and_self, or_self, not_true, not_false_iff, mR_stI, mN_stI, isO_stI, isA_stI, mI_stI, mR_mW, mN_mW, isO_mW, isA_mW, mI_mW, mW_mW, stI_mW, nI_addL, nI_mulL, nI_subL, nI_ltL, nI_leL, nI_Llt, nI_Lle, nI_eqL, nI_Leq, nI_add, pk_mul, nI_ltI, nI_leI, nI_eq, vpi, nI_clamp, nI_toN, p_V_read]
    exact ⟨rfl, rfl⟩
  | succ n ih =>
    intro k i v u w4 w5 hk hi
    refine X_run (C := []) (S := [30, 43]) 200 k_V_read okE_nil ?_
    by_cases h1 : i < tl (mI M)
    · have ha1 : i ≤ alF (mI M) i := skF_a
      have ha2 : alF (mI M) i ≤ tl (mI M) := skF_b hi
      have hb1 : alF (mI M) i ≤ abF (mI M) (alF (mI M) i) := skF_a
      have hb2 : abF (mI M) (alF (mI M) i) ≤ tl (mI M) := skF_b ha2
      have hn := nmN_le (mI M) i (alF (mI M) i)
      simp (disch := first | trivial | assumption | omega) only [run, go, jmp, seek, inS, e0, e1, e2, e3, e4, e5, tsw, e7, e8, e9, e10, e11, e12, splitA, rcv, clook, lget, lset, lset2, lkill, Option.toList, List.nil_append, List.cons_append, wsum, List.map_cons, List.map_nil, List.sum_cons, List.sum_nil, Value.category, Nat.reduceAdd, List.getD_cons_zero, List.getD_cons_succ, ↓reduceIte, if_true, if_false, Bool.false_eq_true, Nat.reduceLeDiff, Nat.reduceEqDiff, true_or, or_true, true_and, and_true, and_self, or_self, not_true, not_false_iff, mR_stI, mN_stI, isO_stI, isA_stI, mI_stI, mR_mW, mN_mW, isO_mW, isA_mW, mI_mW, mW_mW, stI_mW, nI_addL, nI_mulL, nI_subL, nI_ltL, nI_leL, nI_Llt, nI_Lle, nI_eqL, nI_Leq, nI_add, pk_mul, nI_ltI, nI_leI, nI_eq, vpi, nI_clamp, nI_toN, p_V_read, bk_oV hB, hlen]
      rw [if_neg (show ¬ 4 < k by omega), if_neg (show ¬ tl (mI M) ≤ i by omega)]
      refine X_run (S := [30, 75]) 200 k_V_read hC ?_
      by_cases h2 : nmN (mI M) i (alF (mI M) i) = 4
      · have hx : nmI (mI M) i (alF (mI M) i) = -1 := if_pos h2
        have hr : rvS (mI M) (n + 1) i v u = (nI i, u) := by rw [rvS, if_pos h1, if_pos (Or.inl h2)]
        simp (disch := first | trivial | assumption | omega) only [run, go, jmp, seek, inS, e0, e1, e2, e3, e4, e5, tsw, e7, e8, e9, e10, e11, e12, splitA, rcv, clook, lget, lset, lset2, lkill, Option.toList, List.nil_append, List.cons_append, wsum, List.map_cons, List.map_nil, List.sum_cons, List.sum_nil, Value.category, Nat.reduceAdd, List.getD_cons_zero, List.getD_cons_succ, ↓reduceIte, if_true, if_false, Bool.false_eq_true, Nat.reduceLeDiff, Nat.reduceEqDiff, true_or, or_true, true_and, and_true, and_self, or_self, not_true, not_false_iff, mR_stI, mN_stI, isO_stI, isA_stI, mI_stI, mR_mW, mN_mW, isO_mW, isA_mW, mI_mW, mW_mW, stI_mW, nI_addL, nI_mulL, nI_subL, nI_ltL, nI_leL, nI_Llt, nI_Lle, nI_eqL, nI_Leq, nI_add, pk_mul, nI_ltI, nI_leI, nI_eq, vpi, nI_clamp, nI_toN, p_V_read, bk_oV hB, i_V_afterLetters, i_V_nameBetween, i_V_afterBlanks, pc_V_afterLetters (o := 17) (i := i) (M := mW M (rwF (mI M) 19 u)) ⟨rfl, hB, hT, by omega⟩, al_row, pc_V_nameBetween (o := 17) (a := i) (e := alF (mI M) i) (M := mW M (rwF (mI M) 19 u)) ⟨rfl, hB, hT, by omega, by omega⟩, nm_row, hx, m1_neg, hr]
        exact ⟨rfl, rfl⟩
      · have hx : nmI (mI M) i (alF (mI M) i) = nI (nmN (mI M) i (alF (mI M) i)) := if_neg h2
        have hr4 : nmN (mI M) i (alF (mI M) i) < 4 := by omega
        simp (disch := first | trivial | assumption | omega) only [run, go, jmp, seek, inS, e0, e1, e2, e3, e4, e5, tsw, e7, e8, e9, e10, e11, e12, splitA, rcv, clook, lget, lset, lset2, lkill, Option.toList, List.nil_append, List.cons_append, wsum, List.map_cons, List.map_nil, List.sum_cons, List.sum_nil, Value.category, Nat.reduceAdd, List.getD_cons_zero, List.getD_cons_succ, ↓reduceIte, if_true, if_false, Bool.false_eq_true, Nat.reduceLeDiff, Nat.reduceEqDiff, true_or, or_true, true_and, and_true, and_self, or_self, not_true, not_false_iff, mR_stI, mN_stI, isO_stI, isA_stI, mI_stI, mR_mW, mN_mW, isO_mW, isA_mW, mI_mW, mW_mW, stI_mW, nI_addL, nI_mulL, nI_subL, nI_ltL, nI_leL, nI_Llt, nI_Lle, nI_eqL, nI_Leq, nI_add, pk_mul, nI_ltI, nI_leI, nI_eq, vpi, nI_clamp, nI_toN, p_V_read, bk_oV hB, i_V_afterLetters, i_V_nameBetween, i_V_afterBlanks, pc_V_afterLetters (o := 17) (i := i) (M := mW M (rwF (mI M) 19 u)) ⟨rfl, hB, hT, by omega⟩, al_row, pc_V_nameBetween (o := 17) (a := i) (e := alF (mI M) i) (M := mW M (rwF (mI M) 19 u)) ⟨rfl, hB, hT, by omega, by omega⟩, nm_row, hx, Nat.not_lt_zero]
        by_cases h3 : snB v (nmN (mI M) i (alF (mI M) i)) = 0
        · have h3' : v >>> (nI (nmN (mI M) i (alF (mI M) i)) &&& 31) &&& 1 = 0 := h3
          rw [if_pos h3']
          refine X_run (S := [30, 99]) 200 k_V_read hC ?_
          simp (disch := first | trivial | assumption | omega) only [run, go, jmp, seek, inS, e0, e1, e2, e3, e4, e5, tsw, e7, e8, e9, e10, e11, e12, splitA, rcv, clook, lget, lset, lset2, lkill, Option.toList, List.nil_append, List.cons_append, wsum, List.map_cons, List.map_nil, List.sum_cons, List.sum_nil, Value.category, Nat.reduceAdd, List.getD_cons_zero, List.getD_cons_succ, ↓reduceIte, if_true, if_false, Bool.false_eq_true, Nat.reduceLeDiff, Nat.reduceEqDiff, true_or, or_true, true_and, and_true, and_self, or_self, not_true, not_false_iff, mR_stI, mN_stI, isO_stI, isA_stI, mI_stI, mR_mW, mN_mW, isO_mW, isA_mW, mI_mW, mW_mW, stI_mW, nI_addL, nI_mulL, nI_subL, nI_ltL, nI_leL, nI_Llt, nI_Lle, nI_eqL, nI_Leq, nI_add, pk_mul, nI_ltI, nI_leI, nI_eq, vpi, nI_clamp, nI_toN, p_V_read, bk_oV hB, i_V_afterLetters, i_V_nameBetween, i_V_afterBlanks, i_V_isDigit, pc_V_afterBlanks (o := 17) (i := alF (mI M) i) (M := mW M (rwF (mI M) 19 u)) ⟨rfl, hB, hT, by omega⟩, ab_row, pc_V_isDigit (o := 17) (i := abF (mI M) (alF (mI M) i)) (M := mW M (rwF (mI M) 19 u)) ⟨rfl, hB, hT⟩, dg_row]
          by_cases h4 : dgF (mI M) (abF (mI M) (alF (mI M) i))
          · have he := en_le h4
            have hr : rvS (mI M) (n + 1) i v u = rvS (mI M) n (abF (mI M) (enF (mI M) (abF (mI M) (alF (mI M) i)))) (snO v (nmN (mI M) i (alF (mI M) i))) (upF u (nmN (mI M) i (alF (mI M) i)) (nuF (mI M) (enF (mI M) (abF (mI M) (alF (mI M) i)) - abF (mI M) (alF (mI M) i)) (abF (mI M) (alF (mI M) i)) 0)) := by rw [rvS, if_pos h1, if_neg (fun q => q.elim h2 (fun q => q h3)), if_pos h4]
            rw [if_neg (bv_n0 h4), hr]
            refine X_run (S := [30, 118]) 200 k_V_read hC ?_
            have hnx : X Z (d + 7) s_V_read (mN M) (mN M) (ex (some (.int (rvS (mI M) n (abF (mI M) (enF (mI M) (abF (mI M) (alF (mI M) i)))) (snO v (nmN (mI M) i (alF (mI M) i))) (upF u (nmN (mI M) i (alF (mI M) i)) (nuF (mI M) (enF (mI M) (abF (mI M) (alF (mI M) i)) - abF (mI M) (alF (mI M) i)) (abF (mI M) (alF (mI M) i)) 0))).1)) (mW M (rwF (mI M) 19 (rvS (mI M) n (abF (mI M) (enF (mI M) (abF (mI M) (alF (mI M) i)))) (snO v (nmN (mI M) i (alF (mI M) i))) (upF u (nmN (mI M) i (alF (mI M) i)) (nuF (mI M) (enF (mI M) (abF (mI M) (alF (mI M) i)) - abF (mI M) (alF (mI M) i)) (abF (mI M) (alF (mI M) i)) 0))).2))) 118 [some (.ref 17), some (.int (snO v (nmN (mI M) i (alF (mI M) i)))), some (.int (nI (abF (mI M) (alF (mI M) i)))), some (.int (nI k)), some (.int (nI (alF (mI M) i))), some (.int (nI (nmN (mI M) i (alF (mI M) i))))] [.int (nI (enF (mI M) (abF (mI M) (alF (mI M) i))))] (mW M (rwF (mI M) 19 u)) := by
              have hA : isA M 19 (nI (nmN (mI M) i (alF (mI M) i))) = True := bk_A hB (n := 4) rfl (by omega) hr4 (by omega)
              refine X_run (S := [30]) 200 k_V_read hC ?_
              simp (disch := first | trivial | assumption | omega) only [run, go, jmp, seek, inS, e0, e1, e2, e3, e4, e5, tsw, e7, e8, e9, e10, e11, e12, splitA, rcv, clook, lget, lset, lset2, lkill, Option.toList, List.nil_append, List.cons_append, wsum, List.map_cons, List.map_nil, List.sum_cons, List.sum_nil, Value.category, Nat.reduceAdd, List.getD_cons_zero, List.getD_cons_succ, ↓reduceIte, if_true, if_false, Bool.false_eq_true, Nat.reduceLeDiff, Nat.reduceEqDiff, true_or, or_true, true_and, and_true, and_self, or_self, not_true, not_false_iff, mR_stI, mN_stI, isO_stI, isA_stI, mI_stI, mR_mW, mN_mW, isO_mW, isA_mW, mI_mW, mW_mW, stI_mW, nI_addL, nI_mulL, nI_subL, nI_ltL, nI_leL, nI_Llt, nI_Lle, nI_eqL, nI_Leq, nI_add, pk_mul, nI_ltI, nI_leI, nI_eq, vpi, nI_clamp, nI_toN, p_V_read, bk_oV hB, bk_v1 hB, i_V_afterLetters, i_V_nameBetween, i_V_afterBlanks, i_V_isDigit, i_V_numberBetween, pc_V_numberBetween (o := 17) (a := abF (mI M) (alF (mI M) i)) (e := enF (mI M) (abF (mI M) (alF (mI M) i))) (M := mW M (rwF (mI M) 19 u)) ⟨rfl, hB, hT, by omega, by omega⟩, nu_row, hA, rwF_u, pc_V_afterBlanks (o := 17) (i := enF (mI M) (abF (mI M) (alF (mI M) i))) (M := mW M (rwF (mI M) 19 (upF u (nmN (mI M) i (alF (mI M) i)) (nuF (mI M) (enF (mI M) (abF (mI M) (alF (mI M) i)) - abF (mI M) (alF (mI M) i)) (abF (mI M) (alF (mI M) i)) 0)))) ⟨rfl, hB, hT, by omega⟩, ab_row]
              exact ih (k + 1) _ _ _ _ _ (by omega) (skF_b he.2.1)
            simp (disch := first | trivial | assumption | omega) only [run, go, jmp, seek, inS, e0, e1, e2, e3, e4, e5, tsw, e7, e8, e9, e10, e11, e12, splitA, rcv, clook, lget, lset, lset2, lkill, Option.toList, List.nil_append, List.cons_append, wsum, List.map_cons, List.map_nil, List.sum_cons, List.sum_nil, Value.category, Nat.reduceAdd, List.getD_cons_zero, List.getD_cons_succ, ↓reduceIte, if_true, if_false, Bool.false_eq_true, Nat.reduceLeDiff, Nat.reduceEqDiff, true_or, or_true, true_and, and_true, and_self, or_self, not_true, not_false_iff, mR_stI, mN_stI, isO_stI, isA_stI, mI_stI, mR_mW, mN_mW, isO_mW, isA_mW, mI_mW, mW_mW, stI_mW, nI_addL, nI_mulL, nI_subL, nI_ltL, nI_leL, nI_Llt, nI_Lle, nI_eqL, nI_Leq, nI_add, pk_mul, nI_ltI, nI_leI, nI_eq, vpi, nI_clamp, nI_toN, p_V_read, bk_oV hB, i_V_afterLetters, i_V_nameBetween, i_V_afterBlanks, i_V_isDigit, pc_V_isDigit (o := 17) (i := abF (mI M) (alF (mI M) i) + 1) (M := mW M (rwF (mI M) 19 u)) ⟨rfl, hB, hT⟩, dg_row]
            by_cases h5 : dgF (mI M) (abF (mI M) (alF (mI M) i) + 1)
            · rw [if_neg (bv_n0 h5)]
              rw [show enF (mI M) (abF (mI M) (alF (mI M) i)) = abF (mI M) (alF (mI M) i) + 2 from if_pos h5] at hnx ⊢
              exact hnx
            · rw [if_pos (bv_F h5)]
              rw [show enF (mI M) (abF (mI M) (alF (mI M) i)) = abF (mI M) (alF (mI M) i) + 1 from if_neg h5] at hnx ⊢
              exact hnx
          · have hr : rvS (mI M) (n + 1) i v u = (nI (abF (mI M) (alF (mI M) i)), u) := by rw [rvS, if_pos h1, if_neg (fun q => q.elim h2 (fun q => q h3)), if_neg h4]
            rw [if_pos (bv_F h4), hr]
            exact ⟨rfl, rfl⟩
        · have hr : rvS (mI M) (n + 1) i v u = (nI i, u) := by rw [rvS, if_pos h1, if_pos (Or.inr h3)]
          have h3' : ¬ v >>> (nI (nmN (mI M) i (alF (mI M) i)) &&& 31) &&& 1 = 0 := h3
          rw [if_neg h3', hr]
          exact ⟨rfl, rfl⟩
    · have hr : rvS (mI M) (n + 1) i v u = (-1000003, u) := by rw [rvS, if_neg h1]
      simp (disch := first | trivial | assumption | omega) only [run, go, jmp, seek, inS, e0, e1, e2, e3, e4, e5, tsw, e7, e8, e9, e10, e11, e12, splitA, rcv, clook, lget, lset, lset2, lkill, Option.toList, List.nil_append, List.cons_append, wsum, List.map_cons, List.map_nil, List.sum_cons, List.sum_nil, Value.category, Nat.reduceAdd, List.getD_cons_zero, List.getD_cons_succ, ↓reduceIte, if_true, if_false, Bool.false_eq_true, Nat.reduceLeDiff, Nat.reduceEqDiff, true_or, or_true, true_and, and_true, and_self, or_self, not_true, not_false_iff, mR_stI, mN_stI, isO_stI, isA_stI, mI_stI, mR_mW, mN_mW, isO_mW, isA_mW, mI_mW, mW_mW, stI_mW, nI_addL, nI_mulL, nI_subL, nI_ltL, nI_leL, nI_Llt, nI_Lle, nI_eqL, nI_Leq, nI_add, pk_mul, nI_ltI, nI_leI, nI_eq, vpi, nI_clamp, nI_toN, p_V_read, bk_oV hB, hlen, hr]
      rw [if_neg (show ¬ 4 < k by omega), if_pos (show tl (mI M) ≤ i by omega)]
      exact ⟨rfl, rfl⟩
def zuF (u : Nat → Int32) (i : Nat) : Nat → Int32 := fun y => if y < i then 0 else u y
theorem zuF_0 (u : Nat → Int32) : zuF u 0 = u := by
  funext y
  unfold zuF
  rw [if_neg (by omega)]
theorem zuF_s (u : Nat → Int32) (i : Nat) : upF (zuF u i) i 0 = zuF u (i + 1) := by
  funext y
  show (if y = i then 0 else if y < i then 0 else u y) = if y < i + 1 then 0 else u y
  by_cases h : y = i
  · rw [if_pos h, if_pos (by omega)]
  · rw [if_neg h]
    by_cases h2 : y < i
    · rw [if_pos h2, if_pos (by omega)]
    · rw [if_neg h2, if_neg (by omega)]
theorem rwF_self (f : Nat → Nat → Int32) (a : Nat) : rwF f a (f a) = f := by
  funext x y
  unfold rwF
  by_cases h : x = a
  · rw [if_pos h, h]
  · rw [if_neg h]
set_option maxRecDepth 100000 in
set_option maxHeartbeats 4000000 in
theorem lz_V_read (Z : Zt) (d : Nat) {M : Mem} (hB : BkS M) (hT : TxD (mI M)) : ∀ n i w1 w2 w3 w4, i + n = 4 → X Z (d + 7) s_V_read (mN M) (mN M) (ex (some (.int (rvF (mI M)).1)) (mW M (rwF (mI M) 19 (rvF (mI M)).2))) 2 [some (.ref 17), some (.int (nI i)), w1, w2, w3, w4] [] (mW M (rwF (mI M) 19 (zuF (mI M 19) i))) := by
  intro n
  induction n with
  | zero =>
    intro i w1 w2 w3 w4 hi
    obtain rfl : i = 4 := by omega
    have hq : ∀ K, pcall e_V_afterBlanks [.ref 17, .int 0] (mW M (rwF (mI M) 19 (zuF (mI M 19) 4))) K = K (some (.int (nI (abF (mI M) 0)))) (mW M (rwF (mI M) 19 (zuF (mI M 19) 4))) := fun K => pc_V_afterBlanks (o := 17) (i := 0) (M := mW M (rwF (mI M) 19 (zuF (mI M 19) 4))) (K := K) ⟨rfl, hB, hT, by omega⟩ (by omega)
    refine X_run (C := [(i_V_afterBlanks, e_V_afterBlanks)]) (S := [2, 30]) 100 k_V_read (okE_cons (ok_V_afterBlanks Z (d + 4)) okE_nil) ?_
    simp (disch := first | trivial | assumption | omega) only [run, go, jmp, seek, inS, e0, e1, e2, e3, e4, e5, tsw, e7, e8, e9, e10, e11, e12, splitA, rcv, clook, lget, lset, lset2, lkill, Option.toList, List.nil_append, List.cons_append, wsum, List.map_cons, List.map_nil, List.sum_cons, List.sum_nil, Value.category, Nat.reduceAdd, List.getD_cons_zero, List.getD_cons_succ, ↓reduceIte, if_true, if_false, Bool.false_eq_true, Nat.reduceLeDiff, Nat.reduceEqDiff, true_or, or_true, true_and, and_true, and_self, or_self, not_true, not_false_iff, mR_stI, mN_stI, isO_stI, isA_stI, mI_stI, mR_mW, mN_mW, isO_mW, isA_mW, mI_mW, mW_mW, stI_mW, nI_addL, nI_mulL, nI_subL, nI_ltL, nI_leL, nI_Llt, nI_Lle, nI_eqL, nI_Leq, nI_add, pk_mul, nI_ltI, nI_leI, nI_eq, vpi, nI_clamp, nI_toN, p_V_read, i_V_afterBlanks, bk_oV hB, hq]
    exact lp_V_read Z d hB hT 5 0 (abF (mI M) 0) 0 _ _ _ rfl (skF_b (Nat.zero_le _))
  | succ n ih =>
    intro i w1 w2 w3 w4 hi
    have hA : isA M 19 (nI i) = True := bk_A hB (n := 4) rfl (by omega) (by omega) (by omega)
    refine X_run (C := []) (S := [2, 20]) 100 k_V_read okE_nil ?_
    simp (disch := first | trivial | assumption | omega) only [run, go, jmp, seek, inS, e0, e1, e2, e3, e4, e5, tsw, e7, e8, e9, e10, e11, e12, splitA, rcv, clook, lget, lset, lset2, lkill, Option.toList, List.nil_append, List.cons_append, wsum, List.map_cons, List.map_nil, List.sum_cons, List.sum_nil, Value.category, Nat.reduceAdd, List.getD_cons_zero, List.getD_cons_succ, ↓reduceIte, if_true, if_false, Bool.false_eq_true, Nat.reduceLeDiff, Nat.reduceEqDiff, true_or, or_true, true_and, and_true, and_self, or_self, not_true, not_false_iff, mR_stI, mN_stI, isO_stI, isA_stI, mI_stI, mR_mW, mN_mW, isO_mW, isA_mW, mI_mW, mW_mW, stI_mW, nI_addL, nI_mulL, nI_subL, nI_ltL, nI_leL, nI_Llt, nI_Lle, nI_eqL, nI_Leq, nI_add, pk_mul, nI_ltI, nI_leI, nI_eq, vpi, nI_clamp, nI_toN, p_V_read, bk_oV hB, bk_v1 hB, hA, rwF_u, zuF_s]
    rw [if_neg (show ¬ 4 ≤ i by omega)]
    exact ih (i + 1) _ _ _ _ (by omega)
set_option maxRecDepth 100000 in
set_option maxHeartbeats 4000000 in
theorem ok_V_read (Z : Zt) (d : Nat) : okE Z (d + 7) i_V_read e_V_read := mk_V_read fun o M hp => by
  obtain ⟨rfl, hB, hT⟩ := hp
  refine Gm_run (C := []) (S := [2]) [some (.ref 17), none, none, none, none, none] 100 k_V_read okE_nil (ex_n rfl) ?_
  simp (disch := first | trivial | assumption | omega) only [run, go, jmp, seek, inS, e0, e1, e2, e3, e4, e5, tsw, e7, e8, e9, e10, e11, e12, splitA, rcv, clook, lget, lset, lset2, lkill, Option.toList, List.nil_append, List.cons_append, wsum, List.map_cons, List.map_nil, List.sum_cons, List.sum_nil, Value.category, Nat.reduceAdd, List.getD_cons_zero, List.getD_cons_succ, ↓reduceIte, if_true, if_false, Bool.false_eq_true, Nat.reduceLeDiff, Nat.reduceEqDiff, true_or, or_true, true_and, and_true, and_self, or_self, not_true, not_false_iff, mR_stI, mN_stI, isO_stI, isA_stI, mI_stI, mR_mW, mN_mW, isO_mW, isA_mW, mI_mW, mW_mW, stI_mW, nI_addL, nI_mulL, nI_subL, nI_ltL, nI_leL, nI_Llt, nI_Lle, nI_eqL, nI_Leq, nI_add, pk_mul, nI_ltI, nI_leI, nI_eq, vpi, nI_clamp, nI_toN, p_V_read]
  have := lz_V_read Z d hB hT 4 0 none none none none rfl
  rw [zuF_0, rwF_self] at this
  exact this
