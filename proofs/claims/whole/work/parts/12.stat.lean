/-! ===== the bank's static methods ===== -/
def e_B_within : Ent := (fun av M => ∃ (a b c : Int32), av = [.int a, .int b, .int c] ∧ (True), fun av M r M_ => ∀ (a b c : Int32), av = [.int a, .int b, .int c] → r = (some (.int (bv (b ≤ a ∧ a ≤ c)))) ∧ M_ = (M))
theorem pc_B_within {a b c : Int32} {M : Mem} {K : Option Value → Mem → Prop} (hp : True) : pcall e_B_within [.int a, .int b, .int c] M K = K (some (.int (bv (b ≤ a ∧ a ≤ c)))) (M) := propext ⟨fun h => h.2 _ _ (fun a' b' c' e => by cases e; exact ⟨rfl, rfl⟩), fun h => ⟨⟨a, b, c, rfl, hp⟩, fun r M' q => by obtain ⟨rfl, rfl⟩ := q _ _ _ rfl; exact h⟩⟩
theorem mk_B_within {Z : Zt} {d : Nat} (h : ∀ (a b c : Int32) (M : Mem), (True) → Gm Z d s_B_within [.int a, .int b, .int c] M (ex (some (.int (bv (b ≤ a ∧ a ≤ c)))) (M))) : okE Z d i_B_within e_B_within := by
  rintro av M ⟨a, b, c, rfl, hp⟩
  exact Gm.cons (h a b c M hp) (fun r M' q a' b' c' e => by cases e; exact q)
theorem ok_B_within (Z : Zt) (d : Nat) : okE Z (d + 1) i_B_within e_B_within := mk_B_within fun a b c M hp => by
  refine Gm_run (C := []) (S := []) [some (.int a), some (.int b), some (.int c)] 100 k_B_within okE_nil (ex_n rfl) ?_
  simp only [run, go, jmp, seek, inS, e0, e1, e2, e3, e4, e5, tsw, e7, e8, e9, e10, e11, e12, splitA, rcv, clook, lget, lset, lset2, lkill, Option.toList, List.nil_append, List.cons_append, wsum, List.map_cons, List.map_nil, List.sum_cons, List.sum_nil, Value.category, Nat.reduceAdd, List.getD_cons_zero, List.getD_cons_succ, ↓reduceIte, if_true, if_false, Bool.false_eq_true, Nat.reduceLeDiff, Nat.reduceEqDiff, true_or, or_true, true_and, and_true, and_self, or_self, not_true, not_false_iff, mR_stI, mN_stI, isO_stI, isA_stI, mI_stI, mR_mW, mN_mW, isO_mW, isA_mW, mI_mW, mW_mW, stI_mW, p_B_within]
  split
  · next h => exact ⟨by rw [bv_F (fun q => absurd q.1 (Int32.not_le.mpr h))], rfl⟩
  · next h =>
    split
    · next h2 => exact ⟨by rw [bv_F (fun q => absurd q.2 (Int32.not_le.mpr h2))], rfl⟩
    · next h2 => exact ⟨by rw [bv_T ⟨Int32.not_lt.mp h, Int32.not_lt.mp h2⟩], rfl⟩
