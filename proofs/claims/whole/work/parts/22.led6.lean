/-- the first of the queue may be solvent again -/
abbrev rdC (f : Nat → Nat → Int32) (b : Nat) : Prop := 0 < lnB f b ∧ (0 ≤ f (b + 14) 0 ∧ f (b + 14) 0 < nI (lnT f b)) ∧ f b 15 ≤ f b 14 - f (b + 6) (f (b + 14) 0).toNatClampNeg
def rdP (f : Nat → Nat → Int32) (b i : Nat) : Nat → Nat → Int32 := fun x y => if x = b ∧ y = 12 then nI (lnB f b - 1) else if x = b + 14 ∧ y < i then f x (y + 1) else f x y
def rdF (f : Nat → Nat → Int32) (b : Nat) : Nat → Nat → Int32 := if rdC f b then rdP f b (lnB f b - 1) else f
theorem rdP_0 (f : Nat → Nat → Int32) (b : Nat) : u2 f b 12 (nI (lnB f b - 1)) = rdP f b 0 := by
  funext x y
  simp only [rdP, u2_at]
  by_cases h : x = b ∧ y = 12
  · rw [if_pos h, if_pos h]
  · rw [if_neg h, if_neg h, if_neg (by omega)]
theorem rdP_1 {f : Nat → Nat → Int32} {b i : Nat} : u2 (rdP f b i) (b + 14) i (rdP f b i (b + 14) (i + 1)) = rdP f b (i + 1) := by
  have a1 : rdP f b i (b + 14) (i + 1) = f (b + 14) (i + 1) := by
    unfold rdP
    rw [if_neg (by omega), if_neg (by omega)]
  rw [a1]
  funext x y
  simp only [rdP, u2_at]
  by_cases h : x = b + 14 ∧ y = i
  · rw [if_pos h, if_neg (by omega), if_pos (by omega), h.1, h.2]
  · rw [if_neg h]
    by_cases h2 : x = b ∧ y = 12
    · rw [if_pos h2, if_pos h2]
    · rw [if_neg h2, if_neg h2]
      by_cases h3 : x = b + 14 ∧ y < i
      · rw [if_pos h3, if_pos (by omega)]
      · rw [if_neg h3, if_neg (by omega)]
theorem rdP_b (f : Nat → Nat → Int32) (b i : Nat) : rdP f b i b 12 = nI (lnB f b - 1) := by
  unfold rdP
  rw [if_pos ⟨rfl, rfl⟩]
theorem rdF_o {f : Nat → Nat → Int32} {b x y : Nat} (h1 : ¬ (x = b ∧ y = 12)) (h2 : x ≠ b + 14) : rdF f b x y = f x y := by
  unfold rdF
  split
  · unfold rdP
    rw [if_neg h1, if_neg (fun q => h2 q.1)]
  · rfl
theorem rdF_D {f : Nat → Nat → Int32} {b : Nat} (h : LedD f b) : LedD (rdF f b) b := by
  have h6 := ld_b6 (M := (0, f, fun _ _ => 0, fun _ => 0)) h
  change lnB f b ≤ 6 at h6
  by_cases hc : rdC f b
  · have e : rdF f b = rdP f b (lnB f b - 1) := by unfold rdF; rw [if_pos hc]
    refine LedD_b h (s := lnB f b - 1) (by rw [e]; exact rdP_b _ _ _) (by omega) (rdF_o (by omega) (by omega)) (rdF_o (by omega) (by omega)) (rdF_o (by omega) (by omega))
  · have e : rdF f b = f := by unfold rdF; rw [if_neg hc]
    rw [e]
    exact h
def e_L_redeemFirst : Ent := (fun av M => ∃ (b : Nat), av = [.ref b] ∧ (LedOk M b), fun av M r_ M_ => ∀ (b : Nat), av = [.ref b] → r_ = (none) ∧ M_ = (mW M (rdF (mI M) b)))
theorem pc_L_redeemFirst {b : Nat} {M : Mem} {K : Option Value → Mem → Prop} (hp : LedOk M b) : pcall e_L_redeemFirst [.ref b] M K = K (none) (mW M (rdF (mI M) b)) := propext ⟨fun h => h.2 _ _ (fun b' e => by simp only [List.cons.injEq, Value.ref.injEq, Value.int.injEq, Value.long.injEq, and_true] at e; have q0 := e; obtain rfl := q0; exact ⟨rfl, rfl⟩), fun h => ⟨⟨b, rfl, hp⟩, fun r_ M_ q => by obtain ⟨rfl, rfl⟩ := q _ rfl; exact h⟩⟩
theorem mk_L_redeemFirst {Z : Zt} {d : Nat} (h : ∀ (b : Nat) (M : Mem), (LedOk M b) → Gm Z d s_L_redeemFirst [.ref b] M (ex (none) (mW M (rdF (mI M) b)))) : okE Z d i_L_redeemFirst e_L_redeemFirst := by
  rintro av M ⟨b, rfl, hp⟩
  exact Gm.cons (h b M  hp) (fun r_ M_ q b' e => by simp only [List.cons.injEq, Value.ref.injEq, Value.int.injEq, Value.long.injEq, and_true] at e; have q0 := e; obtain rfl := q0; exact q)
set_option maxRecDepth 100000 in
set_option maxHeartbeats 4000000 in
theorem lp_L_redeemFirst (Z : Zt) (d : Nat) {b : Nat} {M : Mem} (hL : LedS M b) (h6 : lnB (mI M) b ≤ 6) : ∀ n i, i + n = lnB (mI M) b - 1 → X Z (d + 1) s_L_redeemFirst (mN M) (mN M) (ex none (mW M (rdP (mI M) b (lnB (mI M) b - 1)))) 57 [some (.ref b), some (.int (nI i))] [] (mW M (rdP (mI M) b i)) := by
  intro n
  induction n with
  | zero =>
    intro i hi
    obtain rfl : i = lnB (mI M) b - 1 := by omega
    refine X_run (C := []) (S := [57]) 100 k_L_redeemFirst okE_nil ?_
    simp (disch := first | trivial | assumption | omega) only [run, go, jmp, seek, inS, e0, e1, e2, e3, e4, e5, tsw, e7, e8, e9, e10, e11, e12, splitA, rcv, clook, lget, lset, lset2, lkill, Option.toList, List.nil_append, List.cons_append, wsum, List.map_cons, List.map_nil, List.sum_cons, List.sum_nil, Value.category, Nat.reduceAdd, List.getD_cons_zero, List.getD_cons_succ, ↓reduceIte, if_true, if_false, Bool.false_eq_true, Nat.reduceLeDiff, Nat.reduceEqDiff, true_or, or_true, true_and, and_true, and_self, or_self, not_true, not_false_iff, mR_stI, mN_stI, isO_stI, isA_stI, mI_stI, mR_mW, mN_mW, isO_mW, isA_mW, mI_mW, mW_mW, stI_mW, nI_addL, nI_mulL, nI_subL, nI_ltL, nI_leL, nI_Llt, nI_Lle, nI_eqL, nI_Leq, nI_add, pk_mul, nI_ltI, nI_leI, nI_eq, vpi, nI_clamp, nI_toN, p_L_redeemFirst, ld_o hL, ld_og hL, ld_od hL, ld_r0 hL, ld_r1 hL, ld_r2 hL, ld_r3 hL, ld_r4 hL, ld_r5 hL, ld_r6 hL, ld_r7 hL, ld_r8 hL, ld_r9 hL, ld_r10 hL, ld_r11 hL, ld_a1 hL, ld_a2 hL, ld_a3 hL, ld_a4 hL, ld_a5 hL, ld_a6 hL, ld_a7 hL, ld_a8 hL, ld_a9 hL, ld_a11 hL, ld_a13 hL, ld_a14 hL, rdP_b]
    rw [if_pos (by omega)]
    exact ⟨rfl, rfl⟩
  | succ n ih =>
    intro i hi
    refine X_run (C := []) (S := [57]) 100 k_L_redeemFirst okE_nil ?_
    simp (disch := first | trivial | assumption | omega) only [run, go, jmp, seek, inS, e0, e1, e2, e3, e4, e5, tsw, e7, e8, e9, e10, e11, e12, splitA, rcv, clook, lget, lset, lset2, lkill, Option.toList, List.nil_append, List.cons_append, wsum, List.map_cons, List.map_nil, List.sum_cons, List.sum_nil, Value.category, Nat.reduceAdd, List.getD_cons_zero, List.getD_cons_succ, ↓reduceIte, if_true, if_false, Bool.false_eq_true, Nat.reduceLeDiff, Nat.reduceEqDiff, true_or, or_true, true_and, and_true, and_self, or_self, not_true, not_false_iff, mR_stI, mN_stI, isO_stI, isA_stI, mI_stI, mR_mW, mN_mW, isO_mW, isA_mW, mI_mW, mW_mW, stI_mW, nI_addL, nI_mulL, nI_subL, nI_ltL, nI_leL, nI_Llt, nI_Lle, nI_eqL, nI_Leq, nI_add, pk_mul, nI_ltI, nI_leI, nI_eq, vpi, nI_clamp, nI_toN, p_L_redeemFirst, ld_o hL, ld_og hL, ld_od hL, ld_r0 hL, ld_r1 hL, ld_r2 hL, ld_r3 hL, ld_r4 hL, ld_r5 hL, ld_r6 hL, ld_r7 hL, ld_r8 hL, ld_r9 hL, ld_r10 hL, ld_r11 hL, ld_a1 hL, ld_a2 hL, ld_a3 hL, ld_a4 hL, ld_a5 hL, ld_a6 hL, ld_a7 hL, ld_a8 hL, ld_a9 hL, ld_a11 hL, ld_a13 hL, ld_a14 hL, rdP_b, rdP_1]
    rw [if_neg (by omega), if_neg (by omega)]
    exact ih (i + 1) (by omega)
set_option maxRecDepth 100000 in
set_option maxHeartbeats 4000000 in
theorem ok_L_redeemFirst (Z : Zt) (d : Nat) : okE Z (d + 2) i_L_redeemFirst e_L_redeemFirst := mk_L_redeemFirst fun b M hp => by
  have hL := hp.1
  have hD := hp.2
  have h6 := ld_b6 hD
  have h6t := ld_t6 hD
  have a0 : isA M (b + 14) 0 = True := ld_a14 (k := 0) hL (by omega)
  have c0 : (0 : Int32).toNatClampNeg = 0 := by decide
  refine Gm_run (C := [(i_L_hasTenant, e_L_hasTenant)]) (S := [57]) [some (.ref b), none] 100 k_L_redeemFirst (okE_cons (ok_L_hasTenant Z d) okE_nil) (ex_n rfl) ?_
  by_cases hv : 0 ≤ mI M (b + 14) 0 ∧ mI M (b + 14) 0 < nI (lnT (mI M) b)
  · obtain ⟨t, ht0, ht⟩ := nI_of (Int32.not_lt.mpr hv.1)
    have ht6 : t < lnT (mI M) b := by
      have := hv.2
      rw [ht] at this
      exact (nI_ltI ht0 (by omega)).mp this
    have hcl : (nI t).toNatClampNeg = t := nI_clamp ht0
    simp (disch := first | trivial | assumption | omega) only [run, go, jmp, seek, inS, e0, e1, e2, e3, e4, e5, tsw, e7, e8, e9, e10, e11, e12, splitA, rcv, clook, lget, lset, lset2, lkill, Option.toList, List.nil_append, List.cons_append, wsum, List.map_cons, List.map_nil, List.sum_cons, List.sum_nil, Value.category, Nat.reduceAdd, List.getD_cons_zero, List.getD_cons_succ, ↓reduceIte, if_true, if_false, Bool.false_eq_true, Nat.reduceLeDiff, Nat.reduceEqDiff, true_or, or_true, true_and, and_true, and_self, or_self, not_true, not_false_iff, mR_stI, mN_stI, isO_stI, isA_stI, mI_stI, mR_mW, mN_mW, isO_mW, isA_mW, mI_mW, mW_mW, stI_mW, nI_addL, nI_mulL, nI_subL, nI_ltL, nI_leL, nI_Llt, nI_Lle, nI_eqL, nI_Leq, nI_add, pk_mul, nI_ltI, nI_leI, nI_eq, vpi, nI_clamp, nI_toN, p_L_redeemFirst, ld_o hL, ld_og hL, ld_od hL, ld_r0 hL, ld_r1 hL, ld_r2 hL, ld_r3 hL, ld_r4 hL, ld_r5 hL, ld_r6 hL, ld_r7 hL, ld_r8 hL, ld_r9 hL, ld_r10 hL, ld_r11 hL, ld_a1 hL, ld_a2 hL, ld_a3 hL, ld_a4 hL, ld_a5 hL, ld_a6 hL, ld_a7 hL, ld_a8 hL, ld_a9 hL, ld_a11 hL, ld_a13 hL, ld_a14 hL, ld_t hD, ld_b hD, a0, c0, ht, pc_L_hasTenant hp, i_L_hasTenant, bv_0]
    split
    · next h =>
      have e : rdF (mI M) b = mI M := by
        unfold rdF
        rw [if_neg (fun q => by have := q.1; omega)]
      rw [e]
      exact ⟨rfl, rfl⟩
    · next h =>
      rw [if_neg (by omega)]
      split
      · next h2 =>
        have e : rdF (mI M) b = rdP (mI M) b (lnB (mI M) b - 1) := by
          unfold rdF
          rw [if_pos ⟨by omega, hv, by rw [ht, hcl]; exact h2⟩]
        rw [e, rdP_0]
        exact lp_L_redeemFirst Z (d + 1) hL h6 _ 0 (Nat.zero_add _)
      · next h2 =>
        have e : rdF (mI M) b = mI M := by
          unfold rdF
          rw [if_neg (fun q => h2 (by have := q.2.2; rw [ht, hcl] at this; exact this))]
        rw [e]
        exact ⟨rfl, rfl⟩
  · have e : rdF (mI M) b = mI M := by
      unfold rdF
      rw [if_neg (fun q => hv q.2.1)]
    rw [e]
    simp only [run, go, jmp, seek, inS, e0, e1, e2, e3, e4, e5, tsw, e7, e8, e9, e10, e11, e12, splitA, rcv, clook, lget, lset, lset2, lkill, Option.toList, List.nil_append, List.cons_append, wsum, List.map_cons, List.map_nil, List.sum_cons, List.sum_nil, Value.category, Nat.reduceAdd, List.getD_cons_zero, List.getD_cons_succ, ↓reduceIte, if_true, if_false, Bool.false_eq_true, Nat.reduceLeDiff, Nat.reduceEqDiff, true_or, or_true, true_and, and_true, and_self, or_self, not_true, not_false_iff, mR_stI, mN_stI, isO_stI, isA_stI, mI_stI, mR_mW, mN_mW, isO_mW, isA_mW, mI_mW, mW_mW, stI_mW, p_L_redeemFirst, ld_o hL, ld_og hL, ld_od hL, ld_r0 hL, ld_r1 hL, ld_r2 hL, ld_r3 hL, ld_r4 hL, ld_r5 hL, ld_r6 hL, ld_r7 hL, ld_r8 hL, ld_r9 hL, ld_r10 hL, ld_r11 hL, ld_a1 hL, ld_a2 hL, ld_a3 hL, ld_a4 hL, ld_a5 hL, ld_a6 hL, ld_a7 hL, ld_a8 hL, ld_a9 hL, ld_a11 hL, ld_a13 hL, ld_a14 hL, a0, c0, pc_L_hasTenant hp, i_L_hasTenant, bv_0, hv]
    split
    · exact ⟨rfl, rfl⟩
    · exact ⟨rfl, rfl⟩
/-! a tick -/
def tkA (f : Nat → Nat → Int32) (b t : Nat) : Nat → Nat → Int32 := u2 f (b + 5) t (f (b + 5) t + (5 * f (b + 4) t - rnP f b t 4))
def tkB (f : Nat → Nat → Int32) (b t : Nat) : Nat → Nat → Int32 := u2 f (b + 5) t (f (b + 5) t - itF (-f (b + 5) t))
def tk1S (f : Nat → Nat → Int32) (b t : Nat) : Nat → Nat → Int32 := if isS f b (nI t) then tkB (tkA f b t) b t else f
def tk1 (f : Nat → Nat → Int32) (b : Nat) : Nat → Nat → Nat → Int32
  | 0 => f
  | t + 1 => tk1S (tk1 f b t) b t
def tk2S (f : Nat → Nat → Int32) (b t : Nat) : Nat → Nat → Int32 := if isS f b (nI t) ∧ 50 * f (b + 4) t < -f (b + 5) t then bkF f b t else f
def tk2 (f : Nat → Nat → Int32) (b : Nat) : Nat → Nat → Nat → Int32
  | 0 => f
  | t + 1 => tk2S (tk2 f b t) b t
def tk0 (f : Nat → Nat → Int32) (b : Nat) : Nat → Nat → Int32 := u2 f b 14 (f b 14 + 1)
def tkM (f : Nat → Nat → Int32) (b : Nat) : Nat → Nat → Int32 := tk1 (tk0 f b) b (lnT f b)
def tkN (f : Nat → Nat → Int32) (b : Nat) : Nat → Nat → Int32 := tk2 (tkM f b) b (lnT f b)
def tkF (f : Nat → Nat → Int32) (b : Nat) : Nat → Nat → Int32 := rdF (tkN f b) b
theorem tk1_o {f : Nat → Nat → Int32} {b x y : Nat} (h : x ≠ b + 5) : ∀ t, tk1 f b t x y = f x y
  | 0 => rfl
  | t + 1 => by
    unfold tk1 tk1S
    split
    · unfold tkB tkA
      rw [u2_ne h, u2_ne h]
      exact tk1_o h t
    · exact tk1_o h t
theorem tk2_t {f : Nat → Nat → Int32} {b : Nat} : ∀ t, tk2 f b t b 13 = f b 13
  | 0 => rfl
  | t + 1 => by
    unfold tk2 tk2S
    split
    · rw [bkF_t]
      exact tk2_t t
    · exact tk2_t t
theorem tk1_D {f : Nat → Nat → Int32} {b t : Nat} (h : LedD f b) : LedD (tk1 f b t) b := LedD_congr h (tk1_o (by omega) t) (tk1_o (by omega) t) (tk1_o (by omega) t) (tk1_o (by omega) t)
theorem tk0_D {f : Nat → Nat → Int32} {b : Nat} (h : LedD f b) : LedD (tk0 f b) b := LedD_congr h (u2_o (by omega)) (u2_o (by omega)) (u2_o (by omega)) (u2_o (by omega))
theorem tkA_D {f : Nat → Nat → Int32} {b t : Nat} (h : LedD f b) : LedD (tkA f b t) b := LedD_congr h (u2_o (by omega)) (u2_o (by omega)) (u2_o (by omega)) (u2_o (by omega))
theorem tk2_D {f : Nat → Nat → Int32} {b : Nat} (h : LedD f b) : ∀ t, LedD (tk2 f b t) b
  | 0 => h
  | t + 1 => by
    unfold tk2 tk2S
    split
    · exact bkF_D (tk2_D h t)
    · exact tk2_D h t
def e_L_tick : Ent := (fun av M => ∃ (b : Nat), av = [.ref b] ∧ (LedOk M b), fun av M r_ M_ => ∀ (b : Nat), av = [.ref b] → r_ = (none) ∧ M_ = (mW M (tkF (mI M) b)))
theorem pc_L_tick {b : Nat} {M : Mem} {K : Option Value → Mem → Prop} (hp : LedOk M b) : pcall e_L_tick [.ref b] M K = K (none) (mW M (tkF (mI M) b)) := propext ⟨fun h => h.2 _ _ (fun b' e => by simp only [List.cons.injEq, Value.ref.injEq, Value.int.injEq, Value.long.injEq, and_true] at e; have q0 := e; obtain rfl := q0; exact ⟨rfl, rfl⟩), fun h => ⟨⟨b, rfl, hp⟩, fun r_ M_ q => by obtain ⟨rfl, rfl⟩ := q _ rfl; exact h⟩⟩
theorem mk_L_tick {Z : Zt} {d : Nat} (h : ∀ (b : Nat) (M : Mem), (LedOk M b) → Gm Z d s_L_tick [.ref b] M (ex (none) (mW M (tkF (mI M) b)))) : okE Z d i_L_tick e_L_tick := by
  rintro av M ⟨b, rfl, hp⟩
  exact Gm.cons (h b M  hp) (fun r_ M_ q b' e => by simp only [List.cons.injEq, Value.ref.injEq, Value.int.injEq, Value.long.injEq, and_true] at e; have q0 := e; obtain rfl := q0; exact q)
set_option maxRecDepth 100000 in
set_option maxHeartbeats 4000000 in
theorem lp_L_tick1 (Z : Zt) (d : Nat) {b : Nat} {M : Mem} {Q : Option Value → Mem → Prop} {T : Nat} {g : Nat → Nat → Int32} (hL : LedS M b) (hD : LedD g b) (hT : lnT g b = T) (hx : X Z (d + 5) s_L_tick (mN M) (mN M) Q 78 [some (.ref b), some (.int 0)] [] (mW M (tk1 g b T))) : ∀ n i, i + n = T → X Z (d + 5) s_L_tick (mN M) (mN M) Q 12 [some (.ref b), some (.int (nI i))] [] (mW M (tk1 g b i)) := by
  have h6 : T ≤ 6 := by rw [← hT]; exact hD.2.2.2.2.2.1
  intro n
  induction n with
  | zero =>
    intro i hi
    obtain rfl : i = T := by omega
    have e13 : tk1 g b i b 13 = nI i := by rw [tk1_o (by omega), hD.2.2.2.2.1, hT]
    refine X_run (C := []) (S := [12, 78]) 100 k_L_tick okE_nil ?_
    simp (disch := first | trivial | assumption | omega) only [run, go, jmp, seek, inS, e0, e1, e2, e3, e4, e5, tsw, e7, e8, e9, e10, e11, e12, splitA, rcv, clook, lget, lset, lset2, lkill, Option.toList, List.nil_append, List.cons_append, wsum, List.map_cons, List.map_nil, List.sum_cons, List.sum_nil, Value.category, Nat.reduceAdd, List.getD_cons_zero, List.getD_cons_succ, ↓reduceIte, if_true, if_false, Bool.false_eq_true, Nat.reduceLeDiff, Nat.reduceEqDiff, true_or, or_true, true_and, and_true, and_self, or_self, not_true, not_false_iff, mR_stI, mN_stI, isO_stI, isA_stI, mI_stI, mR_mW, mN_mW, isO_mW, isA_mW, mI_mW, mW_mW, stI_mW, nI_addL, nI_mulL, nI_subL, nI_ltL, nI_leL, nI_Llt, nI_Lle, nI_eqL, nI_Leq, nI_add, pk_mul, nI_ltI, nI_leI, nI_eq, vpi, nI_clamp, nI_toN, p_L_tick, ld_o hL, ld_og hL, ld_od hL, ld_r0 hL, ld_r1 hL, ld_r2 hL, ld_r3 hL, ld_r4 hL, ld_r5 hL, ld_r6 hL, ld_r7 hL, ld_r8 hL, ld_r9 hL, ld_r10 hL, ld_r11 hL, ld_a1 hL, ld_a2 hL, ld_a3 hL, ld_a4 hL, ld_a5 hL, ld_a6 hL, ld_a7 hL, ld_a8 hL, ld_a9 hL, ld_a11 hL, ld_a13 hL, ld_a14 hL, e13]
    rw [if_pos (by omega)]
    exact hx
  | succ n ih =>
    intro i hi
    have e13 : tk1 g b i b 13 = nI T := by rw [tk1_o (by omega), hD.2.2.2.2.1, hT]
    have eT : lnT (tk1 g b i) b = T := by rw [lnT_congr (tk1_o (by omega) i), hT]
    have hp : LedOk (mW M (tk1 g b i)) b := ⟨hL, tk1_D hD⟩
    have hr : LedOk (mW M (tk1 g b i)) b ∧ i < lnT (mI (mW M (tk1 g b i))) b := ⟨hp, by show i < lnT (tk1 g b i) b; omega⟩
    have := ih (i + 1) (by omega)
    unfold tk1 tk1S at this
    refine X_run (C := [(i_L_isSolvent, e_L_isSolvent), (i_L_rentOf, e_L_rentOf), (i_L_interestOn, e_L_interestOn)]) (S := [12, 78]) 100 k_L_tick (okE_cons (ok_L_isSolvent Z (d + 1)) (okE_cons (ok_L_rentOf Z (d + 1)) (okE_cons (ok_L_interestOn Z (d + 3)) okE_nil))) ?_
    simp (disch := first | trivial | assumption | omega) only [run, go, jmp, seek, inS, e0, e1, e2, e3, e4, e5, tsw, e7, e8, e9, e10, e11, e12, splitA, rcv, clook, lget, lset, lset2, lkill, Option.toList, List.nil_append, List.cons_append, wsum, List.map_cons, List.map_nil, List.sum_cons, List.sum_nil, Value.category, Nat.reduceAdd, List.getD_cons_zero, List.getD_cons_succ, ↓reduceIte, if_true, if_false, Bool.false_eq_true, Nat.reduceLeDiff, Nat.reduceEqDiff, true_or, or_true, true_and, and_true, and_self, or_self, not_true, not_false_iff, mR_stI, mN_stI, isO_stI, isA_stI, mI_stI, mR_mW, mN_mW, isO_mW, isA_mW, mI_mW, mW_mW, stI_mW, nI_addL, nI_mulL, nI_subL, nI_ltL, nI_leL, nI_Llt, nI_Lle, nI_eqL, nI_Leq, nI_add, pk_mul, nI_ltI, nI_leI, nI_eq, vpi, nI_clamp, nI_toN, p_L_tick, ld_o hL, ld_og hL, ld_od hL, ld_r0 hL, ld_r1 hL, ld_r2 hL, ld_r3 hL, ld_r4 hL, ld_r5 hL, ld_r6 hL, ld_r7 hL, ld_r8 hL, ld_r9 hL, ld_r10 hL, ld_r11 hL, ld_a1 hL, ld_a2 hL, ld_a3 hL, ld_a4 hL, ld_a5 hL, ld_a6 hL, ld_a7 hL, ld_a8 hL, ld_a9 hL, ld_a11 hL, ld_a13 hL, ld_a14 hL, e13, pc_L_isSolvent hp, i_L_isSolvent, pc_L_rentOf hr, i_L_rentOf, pc_L_interestOn, i_L_interestOn, bv_0, ← tkA.eq_1, ← tkB.eq_1]
    rw [if_neg (by omega)]
    split
    · next h =>
      rw [if_neg h] at this
      exact this
    · next h =>
      rw [if_pos (Decidable.not_not.mp h)] at this
      exact this
set_option maxRecDepth 100000 in
set_option maxHeartbeats 4000000 in
theorem lp_L_tick2 (Z : Zt) (d : Nat) {b : Nat} {M : Mem} {Q : Option Value → Mem → Prop} {T : Nat} {g : Nat → Nat → Int32} (hL : LedS M b) (hD : LedD g b) (hT : lnT g b = T) (hx : Q none (mW M (rdF (tk2 g b T) b))) : ∀ n i, i + n = T → X Z (d + 5) s_L_tick (mN M) (mN M) Q 78 [some (.ref b), some (.int (nI i))] [] (mW M (tk2 g b i)) := by
  have h6 : T ≤ 6 := by rw [← hT]; exact hD.2.2.2.2.2.1
  intro n
  induction n with
  | zero =>
    intro i hi
    obtain rfl : i = T := by omega
    have e13 : tk2 g b i b 13 = nI i := by rw [tk2_t, hD.2.2.2.2.1, hT]
    have hp : LedOk (mW M (tk2 g b i)) b := ⟨hL, tk2_D hD i⟩
    refine X_run (C := [(i_L_redeemFirst, e_L_redeemFirst)]) (S := [78]) 100 k_L_tick (okE_cons (ok_L_redeemFirst Z (d + 2)) okE_nil) ?_
    simp (disch := first | trivial | assumption | omega) only [run, go, jmp, seek, inS, e0, e1, e2, e3, e4, e5, tsw, e7, e8, e9, e10, e11, e12, splitA, rcv, clook, lget, lset, lset2, lkill, Option.toList, List.nil_append, List.cons_append, wsum, List.map_cons, List.map_nil, List.sum_cons, List.sum_nil, Value.category, Nat.reduceAdd, List.getD_cons_zero, List.getD_cons_succ, ↓reduceIte, if_true, if_false, Bool.false_eq_true, Nat.reduceLeDiff, Nat.reduceEqDiff, true_or, or_true, true_and, and_true, and_self, or_self, not_true, not_false_iff, mR_stI, mN_stI, isO_stI, isA_stI, mI_stI, mR_mW, mN_mW, isO_mW, isA_mW, mI_mW, mW_mW, stI_mW, nI_addL, nI_mulL, nI_subL, nI_ltL, nI_leL, nI_Llt, nI_Lle, nI_eqL, nI_Leq, nI_add, pk_mul, nI_ltI, nI_leI, nI_eq, vpi, nI_clamp, nI_toN, p_L_tick, ld_o hL, ld_og hL, ld_od hL, ld_r0 hL, ld_r1 hL, ld_r2 hL, ld_r3 hL, ld_r4 hL, ld_r5 hL, ld_r6 hL, ld_r7 hL, ld_r8 hL, ld_r9 hL, ld_r10 hL, ld_r11 hL, ld_a1 hL, ld_a2 hL, ld_a3 hL, ld_a4 hL, ld_a5 hL, ld_a6 hL, ld_a7 hL, ld_a8 hL, ld_a9 hL, ld_a11 hL, ld_a13 hL, ld_a14 hL, e13, pc_L_redeemFirst hp, i_L_redeemFirst]
    rw [if_pos (by omega)]
    exact hx
  | succ n ih =>
    intro i hi
    have e13 : tk2 g b i b 13 = nI T := by rw [tk2_t, hD.2.2.2.2.1, hT]
    have eT : lnT (tk2 g b i) b = T := by rw [lnT_congr (tk2_t i), hT]
    have hp : LedOk (mW M (tk2 g b i)) b := ⟨hL, tk2_D hD i⟩
    have hr : LedOk (mW M (tk2 g b i)) b ∧ i < lnT (mI (mW M (tk2 g b i))) b := ⟨hp, by show i < lnT (tk2 g b i) b; omega⟩
    have := ih (i + 1) (by omega)
    unfold tk2 tk2S at this
    refine X_run (C := [(i_L_isSolvent, e_L_isSolvent), (i_L_bankrupt, e_L_bankrupt)]) (S := [78]) 100 k_L_tick (okE_cons (ok_L_isSolvent Z (d + 1)) (okE_cons (ok_L_bankrupt Z d) okE_nil)) ?_
    simp (disch := first | trivial | assumption | omega) only [run, go, jmp, seek, inS, e0, e1, e2, e3, e4, e5, tsw, e7, e8, e9, e10, e11, e12, splitA, rcv, clook, lget, lset, lset2, lkill, Option.toList, List.nil_append, List.cons_append, wsum, List.map_cons, List.map_nil, List.sum_cons, List.sum_nil, Value.category, Nat.reduceAdd, List.getD_cons_zero, List.getD_cons_succ, ↓reduceIte, if_true, if_false, Bool.false_eq_true, Nat.reduceLeDiff, Nat.reduceEqDiff, true_or, or_true, true_and, and_true, and_self, or_self, not_true, not_false_iff, mR_stI, mN_stI, isO_stI, isA_stI, mI_stI, mR_mW, mN_mW, isO_mW, isA_mW, mI_mW, mW_mW, stI_mW, nI_addL, nI_mulL, nI_subL, nI_ltL, nI_leL, nI_Llt, nI_Lle, nI_eqL, nI_Leq, nI_add, pk_mul, nI_ltI, nI_leI, nI_eq, vpi, nI_clamp, nI_toN, p_L_tick, ld_o hL, ld_og hL, ld_od hL, ld_r0 hL, ld_r1 hL, ld_r2 hL, ld_r3 hL, ld_r4 hL, ld_r5 hL, ld_r6 hL, ld_r7 hL, ld_r8 hL, ld_r9 hL, ld_r10 hL, ld_r11 hL, ld_a1 hL, ld_a2 hL, ld_a3 hL, ld_a4 hL, ld_a5 hL, ld_a6 hL, ld_a7 hL, ld_a8 hL, ld_a9 hL, ld_a11 hL, ld_a13 hL, ld_a14 hL, e13, pc_L_isSolvent hp, i_L_isSolvent, pc_L_bankrupt hr, i_L_bankrupt, bv_0]
    rw [if_neg (by omega)]
    split
    · next h =>
      rw [if_neg (fun q => h q.1)] at this
      exact this
    · next h =>
      split
      · next h2 =>
        rw [if_neg (fun q => absurd q.2 (Int32.not_lt.mpr h2))] at this
        exact this
      · next h2 =>
        rw [if_pos ⟨Decidable.not_not.mp h, Int32.not_le.mp h2⟩] at this
        exact this
set_option maxRecDepth 100000 in
set_option maxHeartbeats 4000000 in
theorem ok_L_tick (Z : Zt) (d : Nat) : okE Z (d + 5) i_L_tick e_L_tick := mk_L_tick fun b M hp => by
  have hL := hp.1
  have hD := hp.2
  refine Gm_run (C := []) (S := [12]) [some (.ref b), none] 100 k_L_tick okE_nil (ex_n rfl) ?_
  simp (disch := first | trivial | assumption | omega) only [run, go, jmp, seek, inS, e0, e1, e2, e3, e4, e5, tsw, e7, e8, e9, e10, e11, e12, splitA, rcv, clook, lget, lset, lset2, lkill, Option.toList, List.nil_append, List.cons_append, wsum, List.map_cons, List.map_nil, List.sum_cons, List.sum_nil, Value.category, Nat.reduceAdd, List.getD_cons_zero, List.getD_cons_succ, ↓reduceIte, if_true, if_false, Bool.false_eq_true, Nat.reduceLeDiff, Nat.reduceEqDiff, true_or, or_true, true_and, and_true, and_self, or_self, not_true, not_false_iff, mR_stI, mN_stI, isO_stI, isA_stI, mI_stI, mR_mW, mN_mW, isO_mW, isA_mW, mI_mW, mW_mW, stI_mW, nI_addL, nI_mulL, nI_subL, nI_ltL, nI_leL, nI_Llt, nI_Lle, nI_eqL, nI_Leq, nI_add, pk_mul, nI_ltI, nI_leI, nI_eq, vpi, nI_clamp, nI_toN, p_L_tick, ld_o hL, ld_og hL, ld_od hL, ld_r0 hL, ld_r1 hL, ld_r2 hL, ld_r3 hL, ld_r4 hL, ld_r5 hL, ld_r6 hL, ld_r7 hL, ld_r8 hL, ld_r9 hL, ld_r10 hL, ld_r11 hL, ld_a1 hL, ld_a2 hL, ld_a3 hL, ld_a4 hL, ld_a5 hL, ld_a6 hL, ld_a7 hL, ld_a8 hL, ld_a9 hL, ld_a11 hL, ld_a13 hL, ld_a14 hL, ← tk0.eq_1]
  have hT : lnT (tk0 (mI M) b) b = lnT (mI M) b := lnT_congr (u2_o (by omega))
  refine lp_L_tick1 Z d hL (tk0_D hD) hT ?_ _ 0 (Nat.zero_add _)
  exact lp_L_tick2 Z d (M := M) hL (tk1_D (tk0_D hD)) (by rw [lnT_congr (tk1_o (by omega) _), hT]) ⟨rfl, rfl⟩ _ 0 (Nat.zero_add _)
