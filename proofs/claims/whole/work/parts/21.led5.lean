/-- one resource of a tenant that goes bankrupt -/
def bk1 (f : Nat → Nat → Int32) (b t r : Nat) : Nat → Nat → Int32 := gbF (u2 (u2 f (b + 3) r (f (b + 3) r - f (b + 9) (t * 4 + r))) (b + 9) (t * 4 + r) 0) b t r (f (b + 8) (t * 4 + r))
def bkP (f : Nat → Nat → Int32) (b t : Nat) : Nat → Nat → Nat → Int32
  | 0 => f
  | r + 1 => bk1 (bkP f b t r) b t r
theorem gbF_o {f : Nat → Nat → Int32} {b t r x y : Nat} {n : Int32} (h1 : x ≠ b + 2) (h2 : x ≠ b + 7) (h3 : x ≠ b + 8) : gbF f b t r n x y = f x y := by
  unfold gbF afF
  rw [u2_ne h1, u2_ne h2, u2_ne h3]
theorem bk1_o {f : Nat → Nat → Int32} {b t r x y : Nat} (h1 : x ≠ b + 2) (h2 : x ≠ b + 7) (h3 : x ≠ b + 8) (h4 : x ≠ b + 3) (h5 : x ≠ b + 9) : bk1 f b t r x y = f x y := by
  unfold bk1
  rw [gbF_o h1 h2 h3, u2_ne h5, u2_ne h4]
theorem bkP_o {f : Nat → Nat → Int32} {b t x y : Nat} (h1 : x ≠ b + 2) (h2 : x ≠ b + 7) (h3 : x ≠ b + 8) (h4 : x ≠ b + 3) (h5 : x ≠ b + 9) : ∀ r, bkP f b t r x y = f x y
  | 0 => rfl
  | r + 1 => by
    unfold bkP
    rw [bk1_o h1 h2 h3 h4 h5, bkP_o h1 h2 h3 h4 h5 r]
theorem raF_ne {c x y : Nat} {t : Int32} (h1 : x ≠ c) (h2 : x ≠ c + 1) : ∀ (r : Nat) (f : Nat → Nat → Int32), raF f c t r x y = f x y
  | 0, f => rfl
  | r + 1, f => by
    unfold raF
    rw [raF_ne h1 h2 r]
    split
    · exact rmF_ne h1 h2
    · rfl
theorem raF_s {c : Nat} {t : Int32} : ∀ (r : Nat) (f : Nat → Nat → Int32), f c 2 = nI (csz f c) → csz f c ≤ 40 → r ≤ csz f c → ∃ s, s ≤ csz f c ∧ raF f c t r c 2 = nI s
  | 0, f, h, h40, hr => ⟨csz f c, Nat.le_refl _, h⟩
  | r + 1, f, h, h40, hr => by
    unfold raF
    split
    · have e : csz (rmF f c r) c = csz f c - 1 := csz_of (rmF_s f c r) (by omega)
      obtain ⟨s, h1, h2⟩ := raF_s (c := c) (t := t) r (rmF f c r) (by rw [e]; exact rmF_s f c r) (by rw [e]; omega) (by rw [e]; omega)
      exact ⟨s, by rw [e] at h1; omega, h2⟩
    · obtain ⟨s, h1, h2⟩ := raF_s (c := c) (t := t) r f h h40 (by omega)
      exact ⟨s, h1, h2⟩
def bkA (f : Nat → Nat → Int32) (b t : Nat) : Nat → Nat → Int32 := raF (bkP f b t 4) (b + 10) (nI t) (csz (bkP f b t 4) (b + 10))
def bkB (f : Nat → Nat → Int32) (b t : Nat) : Nat → Nat → Int32 := raF (bkA f b t) (b + 12) (nI t) (csz (bkA f b t) (b + 12))
def bkC (f : Nat → Nat → Int32) (b t : Nat) : Nat → Nat → Int32 := u2 (u2 (u2 (u2 (u2 (bkB f b t) (b + 5) t 0) (b + 6) t (f b 14)) b 17 (f b 17 + 1)) (b + 14) (lnB f b) (nI t)) b 12 (nI (lnB f b + 1))
def bkF (f : Nat → Nat → Int32) (b t : Nat) : Nat → Nat → Int32 := if lnB f b < 6 then bkC f b t else f
theorem bkP_D {f : Nat → Nat → Int32} {b t r : Nat} (h : LedD f b) : LedD (bkP f b t r) b := LedD_congr h (bkP_o (by omega) (by omega) (by omega) (by omega) (by omega) r) (bkP_o (by omega) (by omega) (by omega) (by omega) (by omega) r) (bkP_o (by omega) (by omega) (by omega) (by omega) (by omega) r) (bkP_o (by omega) (by omega) (by omega) (by omega) (by omega) r)
theorem bkA_D {f : Nat → Nat → Int32} {b t : Nat} (h : LedD f b) : LedD (bkA f b t) b := by
  have h1 := bkP_D (t := t) (r := 4) h
  obtain ⟨s, a, e⟩ := raF_s (t := nI t) (csz (bkP f b t 4) (b + 10)) (bkP f b t 4) h1.1 h1.2.1 (Nat.le_refl _)
  exact LedD_gr h1 (raF_ne (by omega) (by omega) _ _) (raF_ne (by omega) (by omega) _ _) e (by have := h1.2.1; omega) (raF_ne (by omega) (by omega) _ _)
theorem bkB_D {f : Nat → Nat → Int32} {b t : Nat} (h : LedD f b) : LedD (bkB f b t) b := by
  have h1 := bkA_D (t := t) h
  obtain ⟨s, a, e⟩ := raF_s (t := nI t) (csz (bkA f b t) (b + 12)) (bkA f b t) h1.2.2.1 (by have := h1.2.2.2.1; omega) (Nat.le_refl _)
  exact LedD_de h1 (raF_ne (by omega) (by omega) _ _) (raF_ne (by omega) (by omega) _ _) e (by have := h1.2.2.2.1; omega) (raF_ne (by omega) (by omega) _ _)
theorem bkB_0 {f : Nat → Nat → Int32} {b t y : Nat} : bkB f b t b y = f b y := by
  unfold bkB bkA
  rw [raF_ne (by omega) (by omega), raF_ne (by omega) (by omega), bkP_o (by omega) (by omega) (by omega) (by omega) (by omega)]
theorem LedD_b {f g : Nat → Nat → Int32} {b s : Nat} (h : LedD f b) (h1 : g b 12 = nI s) (hs : s ≤ 6) (h2 : g b 13 = f b 13) (h3 : g (b + 10) 2 = f (b + 10) 2) (h4 : g (b + 12) 2 = f (b + 12) 2) : LedD g b := by
  have e2 : csz g (b + 12) = csz f (b + 12) := by unfold csz; rw [h4]
  have e1 : csz g (b + 10) = csz f (b + 10) := by unfold csz; rw [h3]
  have e3 := lnT_congr (b := b) h2
  have e4 : lnB g b = s := by unfold lnB; rw [h1, nI_clamp (by omega)]
  exact ⟨by rw [e1, h3]; exact h.1, by rw [e1]; exact h.2.1, by rw [e2, h4]; exact h.2.2.1, by rw [e2]; exact h.2.2.2.1, by rw [e3, h2]; exact h.2.2.2.2.1, by rw [e3]; exact h.2.2.2.2.2.1, by rw [e4]; exact h1, by rw [e4]; exact hs⟩
theorem bkF_D {f : Nat → Nat → Int32} {b t : Nat} (h : LedD f b) : LedD (bkF f b t) b := by
  unfold bkF
  split
  · next hb =>
    unfold bkC
    refine LedD_b (bkB_D (t := t) h) (s := lnB f b + 1) u2_eq (by omega) ?_ ?_ ?_
    · rw [u2_o (by omega), u2_o (by omega), u2_o (by omega), u2_o (by omega), u2_o (by omega)]
    · rw [u2_o (by omega), u2_o (by omega), u2_o (by omega), u2_o (by omega), u2_o (by omega)]
    · rw [u2_o (by omega), u2_o (by omega), u2_o (by omega), u2_o (by omega), u2_o (by omega)]
  · exact h
theorem bkF_t {f : Nat → Nat → Int32} {b t : Nat} : bkF f b t b 13 = f b 13 := by
  unfold bkF
  split
  · unfold bkC
    rw [u2_o (by omega), u2_o (by omega), u2_o (by omega), u2_o (by omega), u2_o (by omega), bkB_0]
  · rfl
def e_L_bankrupt : Ent := (fun av M => ∃ (b : Nat) (t : Nat), av = [.ref b, .int (nI t)] ∧ t < 2 ^ 31 ∧ (LedOk M b ∧ t < lnT (mI M) b), fun av M r_ M_ => ∀ (b : Nat) (t : Nat), t < 2 ^ 31 → av = [.ref b, .int (nI t)] → r_ = (none) ∧ M_ = (mW M (bkF (mI M) b t)))
theorem pc_L_bankrupt {b : Nat} {t : Nat} {M : Mem} {K : Option Value → Mem → Prop} (hp : LedOk M b ∧ t < lnT (mI M) b) (h_t : t < 2 ^ 31) : pcall e_L_bankrupt [.ref b, .int (nI t)] M K = K (none) (mW M (bkF (mI M) b t)) := propext ⟨fun h => h.2 _ _ (fun b' t' h_t' e => by simp only [List.cons.injEq, Value.ref.injEq, Value.int.injEq, Value.long.injEq, and_true] at e; obtain ⟨q0, q1⟩ := e; obtain rfl := q0; obtain rfl := (nI_eq h_t h_t').mp q1; exact ⟨rfl, rfl⟩), fun h => ⟨⟨b, t, rfl, h_t, hp⟩, fun r_ M_ q => by obtain ⟨rfl, rfl⟩ := q _ _ h_t rfl; exact h⟩⟩
theorem mk_L_bankrupt {Z : Zt} {d : Nat} (h : ∀ (b : Nat) (t : Nat) (M : Mem), t < 2 ^ 31 → (LedOk M b ∧ t < lnT (mI M) b) → Gm Z d s_L_bankrupt [.ref b, .int (nI t)] M (ex (none) (mW M (bkF (mI M) b t)))) : okE Z d i_L_bankrupt e_L_bankrupt := by
  rintro av M ⟨b, t, rfl, h_t, hp⟩
  exact Gm.cons (h b t M h_t hp) (fun r_ M_ q b' t' h_t' e => by simp only [List.cons.injEq, Value.ref.injEq, Value.int.injEq, Value.long.injEq, and_true] at e; obtain ⟨q0, q1⟩ := e; obtain rfl := q0; obtain rfl := (nI_eq h_t h_t').mp q1; exact q)
theorem bk1_eq {f : Nat → Nat → Int32} {b t r : Nat} : gbF (u2 (u2 f (b + 3) r (f (b + 3) r - f (b + 9) (t * 4 + r))) (b + 9) (t * 4 + r) 0) b t r (f (b + 8) (t * 4 + r)) = bk1 f b t r := rfl
set_option maxRecDepth 100000 in
set_option maxHeartbeats 4000000 in
theorem lp_L_bankrupt (Z : Zt) (d : Nat) {b t : Nat} {M : Mem} (hp : LedOk M b) (ht : t < lnT (mI M) b) (hb : lnB (mI M) b < 6) : ∀ n i w3, i + n = 4 → X Z (d + 4) s_L_bankrupt (mN M) (mN M) (ex none (mW M (bkC (mI M) b t))) 20 [some (.ref b), some (.int (nI t)), some (.int (nI i)), w3] [] (mW M (bkP (mI M) b t i)) := by
  have hL := hp.1
  have hD := hp.2
  have h6 := ld_t6 hD
  intro n
  induction n with
  | zero =>
    intro i w3 hi
    obtain rfl : i = 4 := by omega
    have hcg : ClOk (mW M (bkP (mI M) b t 4)) (b + 10) := ld_cg (M := mW M (bkP (mI M) b t 4)) hL (bkP_D hD)
    have hcd : ClOk (mW M (bkA (mI M) b t)) (b + 12) := ld_cd (M := mW M (bkA (mI M) b t)) hL (bkA_D hD)
    have e14 : bkB (mI M) b t b 14 = mI M b 14 := bkB_0
    have e17 : bkB (mI M) b t b 17 = mI M b 17 := bkB_0
    have e12 : bkB (mI M) b t b 12 = nI (lnB (mI M) b) := bkB_0.trans (ld_b hD)
    have n1 : ∀ g : Nat → Nat → Int32, ∀ v w : Int32, u2 (u2 g (b + 5) t v) (b + 6) t w b 17 = g b 17 := fun g v w => by rw [u2_o (by omega), u2_o (by omega)]
    have n2 : ∀ g : Nat → Nat → Int32, ∀ v : Int32, u2 g (b + 5) t v b 14 = g b 14 := fun g v => by rw [u2_o (by omega)]
    have n3 : ∀ g : Nat → Nat → Int32, ∀ v w x : Int32, u2 (u2 (u2 g (b + 5) t v) (b + 6) t w) b 17 x b 12 = g b 12 := fun g v w x => by rw [u2_o (by omega), u2_o (by omega), u2_o (by omega)]
    have n4 : ∀ g : Nat → Nat → Int32, ∀ v w x y : Int32, ∀ k : Nat, u2 (u2 (u2 (u2 g (b + 5) t v) (b + 6) t w) b 17 x) (b + 14) k y b 12 = g b 12 := fun g v w x y k => by rw [u2_o (by omega), u2_o (by omega), u2_o (by omega), u2_o (by omega)]
    refine X_run (C := [(i_C_removeAllOf, e_C_removeAllOf)]) (S := [20]) 100 k_L_bankrupt (okE_cons (ok_C_removeAllOf Z d) okE_nil) ?_
    simp (disch := first | trivial | assumption | omega) only [run, go, jmp, seek, inS, e0, e1, e2, e3, e4, e5, tsw, e7, e8, e9, e10, e11, e12, splitA, rcv, clook, lget, lset, lset2, lkill, Option.toList, List.nil_append, List.cons_append, wsum, List.map_cons, List.map_nil, List.sum_cons, List.sum_nil, Value.category, Nat.reduceAdd, List.getD_cons_zero, List.getD_cons_succ, ↓reduceIte, if_true, if_false, Bool.false_eq_true, Nat.reduceLeDiff, Nat.reduceEqDiff, true_or, or_true, true_and, and_true, and_self, or_self, not_true, not_false_iff, mR_stI, mN_stI, isO_stI, isA_stI, mI_stI, mR_mW, mN_mW, isO_mW, isA_mW, mI_mW, mW_mW, stI_mW, nI_addL, nI_mulL, nI_subL, nI_ltL, nI_leL, nI_Llt, nI_Lle, nI_eqL, nI_Leq, nI_add, pk_mul, nI_ltI, nI_leI, nI_eq, vpi, nI_clamp, nI_toN, p_L_bankrupt, ld_o hL, ld_og hL, ld_od hL, ld_r0 hL, ld_r1 hL, ld_r2 hL, ld_r3 hL, ld_r4 hL, ld_r5 hL, ld_r6 hL, ld_r7 hL, ld_r8 hL, ld_r9 hL, ld_r10 hL, ld_r11 hL, ld_a1 hL, ld_a2 hL, ld_a3 hL, ld_a4 hL, ld_a5 hL, ld_a6 hL, ld_a7 hL, ld_a8 hL, ld_a9 hL, ld_a11 hL, ld_a13 hL, ld_a14 hL, pc_C_removeAllOf hcg, i_C_removeAllOf, ← bkA.eq_1, pc_C_removeAllOf hcd, ← bkB.eq_1, n1, n2, n3, n4, e14, e17, e12]
    exact ⟨rfl, rfl⟩
  | succ n ih =>
    intro i w3 hi
    have hD' : LedD (bkP (mI M) b t i) b := bkP_D hD
    have hg : LedOk (mW M (u2 (u2 (bkP (mI M) b t i) (b + 3) i (bkP (mI M) b t i (b + 3) i - bkP (mI M) b t i (b + 9) (t * 4 + i))) (b + 9) (t * 4 + i) 0)) b ∧ t < lnT (mI (mW M (u2 (u2 (bkP (mI M) b t i) (b + 3) i (bkP (mI M) b t i (b + 3) i - bkP (mI M) b t i (b + 9) (t * 4 + i))) (b + 9) (t * 4 + i) 0))) b ∧ i < 4 := by
      refine ⟨⟨hL, LedD_congr hD' ?_ ?_ ?_ ?_⟩, ?_, by omega⟩
      · rw [mI_mW, u2_o (by omega), u2_o (by omega)]
      · rw [mI_mW, u2_o (by omega), u2_o (by omega)]
      · rw [mI_mW, u2_o (by omega), u2_o (by omega)]
      · rw [mI_mW, u2_o (by omega), u2_o (by omega)]
      · rw [mI_mW, lnT_congr (f := mI M) (by rw [u2_o (by omega), u2_o (by omega), bkP_o (by omega) (by omega) (by omega) (by omega) (by omega)])]
        exact ht
    have n1 : ∀ g : Nat → Nat → Int32, ∀ v w : Int32, u2 (u2 g (b + 3) i v) (b + 9) (t * 4 + i) w (b + 8) (t * 4 + i) = g (b + 8) (t * 4 + i) := fun g v w => by rw [u2_o (by omega), u2_o (by omega)]
    refine X_run (C := [(i_B_slot, e_B_slot), (i_L_giveBack, e_L_giveBack)]) (S := [20]) 100 k_L_bankrupt (okE_cons (ok_B_slot Z (d + 2)) (okE_cons (ok_L_giveBack Z d) okE_nil)) ?_
    simp (disch := first | trivial | assumption | omega) only [run, go, jmp, seek, inS, e0, e1, e2, e3, e4, e5, tsw, e7, e8, e9, e10, e11, e12, splitA, rcv, clook, lget, lset, lset2, lkill, Option.toList, List.nil_append, List.cons_append, wsum, List.map_cons, List.map_nil, List.sum_cons, List.sum_nil, Value.category, Nat.reduceAdd, List.getD_cons_zero, List.getD_cons_succ, ↓reduceIte, if_true, if_false, Bool.false_eq_true, Nat.reduceLeDiff, Nat.reduceEqDiff, true_or, or_true, true_and, and_true, and_self, or_self, not_true, not_false_iff, mR_stI, mN_stI, isO_stI, isA_stI, mI_stI, mR_mW, mN_mW, isO_mW, isA_mW, mI_mW, mW_mW, stI_mW, nI_addL, nI_mulL, nI_subL, nI_ltL, nI_leL, nI_Llt, nI_Lle, nI_eqL, nI_Leq, nI_add, pk_mul, nI_ltI, nI_leI, nI_eq, vpi, nI_clamp, nI_toN, p_L_bankrupt, ld_o hL, ld_og hL, ld_od hL, ld_r0 hL, ld_r1 hL, ld_r2 hL, ld_r3 hL, ld_r4 hL, ld_r5 hL, ld_r6 hL, ld_r7 hL, ld_r8 hL, ld_r9 hL, ld_r10 hL, ld_r11 hL, ld_a1 hL, ld_a2 hL, ld_a3 hL, ld_a4 hL, ld_a5 hL, ld_a6 hL, ld_a7 hL, ld_a8 hL, ld_a9 hL, ld_a11 hL, ld_a13 hL, ld_a14 hL, pc_B_slot, i_B_slot, pc_L_giveBack hg, i_L_giveBack, n1]
    rw [if_neg (by omega)]
    exact ih (i + 1) _ (by omega)
set_option maxRecDepth 100000 in
set_option maxHeartbeats 4000000 in
theorem ok_L_bankrupt (Z : Zt) (d : Nat) : okE Z (d + 4) i_L_bankrupt e_L_bankrupt := mk_L_bankrupt fun b t M ht0 hp => by
  obtain ⟨hp, ht⟩ := hp
  have hL := hp.1
  have hD := hp.2
  have h6 := ld_t6 hD
  have h6b := ld_b6 hD
  by_cases hb : lnB (mI M) b < 6
  · have e : bkF (mI M) b t = bkC (mI M) b t := by unfold bkF; rw [if_pos hb]
    rw [e]
    refine Gm_run (C := [(i_L_hasTenant, e_L_hasTenant)]) (S := [20]) [some (.ref b), some (.int (nI t)), none, none] 100 k_L_bankrupt (okE_cons (ok_L_hasTenant Z (d + 2)) okE_nil) (ex_n rfl) ?_
    simp (disch := first | trivial | assumption | omega) only [run, go, jmp, seek, inS, e0, e1, e2, e3, e4, e5, tsw, e7, e8, e9, e10, e11, e12, splitA, rcv, clook, lget, lset, lset2, lkill, Option.toList, List.nil_append, List.cons_append, wsum, List.map_cons, List.map_nil, List.sum_cons, List.sum_nil, Value.category, Nat.reduceAdd, List.getD_cons_zero, List.getD_cons_succ, ↓reduceIte, if_true, if_false, Bool.false_eq_true, Nat.reduceLeDiff, Nat.reduceEqDiff, true_or, or_true, true_and, and_true, and_self, or_self, not_true, not_false_iff, mR_stI, mN_stI, isO_stI, isA_stI, mI_stI, mR_mW, mN_mW, isO_mW, isA_mW, mI_mW, mW_mW, stI_mW, nI_addL, nI_mulL, nI_subL, nI_ltL, nI_leL, nI_Llt, nI_Lle, nI_eqL, nI_Leq, nI_add, pk_mul, nI_ltI, nI_leI, nI_eq, vpi, nI_clamp, nI_toN, p_L_bankrupt, ld_o hL, ld_og hL, ld_od hL, ld_r0 hL, ld_r1 hL, ld_r2 hL, ld_r3 hL, ld_r4 hL, ld_r5 hL, ld_r6 hL, ld_r7 hL, ld_r8 hL, ld_r9 hL, ld_r10 hL, ld_r11 hL, ld_a1 hL, ld_a2 hL, ld_a3 hL, ld_a4 hL, ld_a5 hL, ld_a6 hL, ld_a7 hL, ld_a8 hL, ld_a9 hL, ld_a11 hL, ld_a13 hL, ld_a14 hL, ld_t hD, ld_b hD, pc_L_hasTenant hp, i_L_hasTenant, bv_0]
    rw [if_neg (by omega), if_pos hb]
    exact lp_L_bankrupt Z d hp ht hb 4 0 _ rfl
  · have e : bkF (mI M) b t = mI M := by unfold bkF; rw [if_neg hb]
    rw [e]
    refine Gm_run (C := [(i_L_hasTenant, e_L_hasTenant)]) (S := [20]) [some (.ref b), some (.int (nI t)), none, none] 100 k_L_bankrupt (okE_cons (ok_L_hasTenant Z (d + 2)) okE_nil) (ex_n rfl) ?_
    simp (disch := first | trivial | assumption | omega) only [run, go, jmp, seek, inS, e0, e1, e2, e3, e4, e5, tsw, e7, e8, e9, e10, e11, e12, splitA, rcv, clook, lget, lset, lset2, lkill, Option.toList, List.nil_append, List.cons_append, wsum, List.map_cons, List.map_nil, List.sum_cons, List.sum_nil, Value.category, Nat.reduceAdd, List.getD_cons_zero, List.getD_cons_succ, ↓reduceIte, if_true, if_false, Bool.false_eq_true, Nat.reduceLeDiff, Nat.reduceEqDiff, true_or, or_true, true_and, and_true, and_self, or_self, not_true, not_false_iff, mR_stI, mN_stI, isO_stI, isA_stI, mI_stI, mR_mW, mN_mW, isO_mW, isA_mW, mI_mW, mW_mW, stI_mW, nI_addL, nI_mulL, nI_subL, nI_ltL, nI_leL, nI_Llt, nI_Lle, nI_eqL, nI_Leq, nI_add, pk_mul, nI_ltI, nI_leI, nI_eq, vpi, nI_clamp, nI_toN, p_L_bankrupt, ld_o hL, ld_og hL, ld_od hL, ld_r0 hL, ld_r1 hL, ld_r2 hL, ld_r3 hL, ld_r4 hL, ld_r5 hL, ld_r6 hL, ld_r7 hL, ld_r8 hL, ld_r9 hL, ld_r10 hL, ld_r11 hL, ld_a1 hL, ld_a2 hL, ld_a3 hL, ld_a4 hL, ld_a5 hL, ld_a6 hL, ld_a7 hL, ld_a8 hL, ld_a9 hL, ld_a11 hL, ld_a13 hL, ld_a14 hL, ld_t hD, ld_b hD, pc_L_hasTenant hp, i_L_hasTenant, bv_0]
    rw [if_neg (by omega), if_neg hb]
    exact ⟨rfl, rfl⟩
