/-! granting, ending, bankruptcy, ticks -/
theorem u2_o {f : Nat → Nat → Int32} {a k : Nat} {v : Int32} {x y : Nat} (h : ¬ (x = a ∧ y = k)) : u2 f a k v x y = f x y := by unfold u2; rw [if_neg h]
theorem LedD_gr {f g : Nat → Nat → Int32} {b s : Nat} (h : LedD f b) (h1 : g b 12 = f b 12) (h2 : g b 13 = f b 13) (h3 : g (b + 10) 2 = nI s) (hs : s ≤ 40) (h4 : g (b + 12) 2 = f (b + 12) 2) : LedD g b := by
  have e : csz g (b + 10) = s := csz_of h3 (by omega)
  have e2 : csz g (b + 12) = csz f (b + 12) := by unfold csz; rw [h4]
  have e3 := lnT_congr (b := b) h2
  have e4 := lnB_congr (b := b) h1
  exact ⟨by rw [e]; exact h3, by rw [e]; exact hs, by rw [e2, h4]; exact h.2.2.1, by rw [e2]; exact h.2.2.2.1, by rw [e3, h2]; exact h.2.2.2.2.1, by rw [e3]; exact h.2.2.2.2.2.1, by rw [e4, h1]; exact h.2.2.2.2.2.2.1, by rw [e4]; exact h.2.2.2.2.2.2.2⟩
theorem LedD_de {f g : Nat → Nat → Int32} {b s : Nat} (h : LedD f b) (h1 : g b 12 = f b 12) (h2 : g b 13 = f b 13) (h3 : g (b + 12) 2 = nI s) (hs : s ≤ 24) (h4 : g (b + 10) 2 = f (b + 10) 2) : LedD g b := by
  have e : csz g (b + 12) = s := csz_of h3 (by omega)
  have e2 : csz g (b + 10) = csz f (b + 10) := by unfold csz; rw [h4]
  have e3 := lnT_congr (b := b) h2
  have e4 := lnB_congr (b := b) h1
  exact ⟨by rw [e2, h4]; exact h.1, by rw [e2]; exact h.2.1, by rw [e]; exact h3, by rw [e]; exact hs, by rw [e3, h2]; exact h.2.2.2.2.1, by rw [e3]; exact h.2.2.2.2.2.1, by rw [e4, h1]; exact h.2.2.2.2.2.2.1, by rw [e4]; exact h.2.2.2.2.2.2.2⟩
theorem rmF_ne {f : Nat → Nat → Int32} {c k x y : Nat} (h1 : x ≠ c) (h2 : x ≠ c + 1) : rmF f c k x y = f x y := by
  unfold rmF rmP
  rw [if_neg (fun q => h1 q.1), if_neg (fun q => h2 q.1)]
theorem arF_ne {f : Nat → Nat → Int32} {c o k x y : Nat} {n : Int32} (h1 : x ≠ c) (h2 : x ≠ c + 1) : arF f c o k n x y = f x y := by
  unfold arF
  rw [u2_ne h1, u2_ne h2, arP_ne h2]
theorem arF_s (f : Nat → Nat → Int32) (c o k : Nat) (n : Int32) : arF f c o k n c 2 = nI (csz f c + 1) := u2_eq
theorem auF_ne {f : Nat → Nat → Int32} {b c k x y : Nat} {s : Int32} (h1 : x ≠ b + 9) (h2 : x ≠ b + 3) : auF f b c k s x y = f x y := by
  unfold auF
  split
  · exact auP_ne h1 h2
  · rfl
/-- a demand becomes a grant -/
def sv1 (f : Nat → Nat → Int32) (b k : Nat) : Nat → Nat → Int32 := arF f (b + 10) (b + 12) k (f b 16)
def sv2 (f : Nat → Nat → Int32) (b k : Nat) : Nat → Nat → Int32 := u2 (sv1 f b k) b 16 (sv1 f b k b 16 + 1)
def sv3 (f : Nat → Nat → Int32) (b k : Nat) : Nat → Nat → Int32 := auF (sv2 f b k) b (b + 12) k 1
def svF (f : Nat → Nat → Int32) (b k : Nat) : Nat → Nat → Int32 := rmF (sv3 f b k) (b + 12) k
theorem sv1_D {f : Nat → Nat → Int32} {b k : Nat} (h : LedD f b) (hc : csz f (b + 10) < 40) : LedD (sv1 f b k) b := LedD_gr h (arF_ne (by omega) (by omega)) (arF_ne (by omega) (by omega)) (arF_s _ _ _ _ _) (by omega) (arF_ne (by omega) (by omega))
theorem sv2_D {f : Nat → Nat → Int32} {b k : Nat} (h : LedD f b) (hc : csz f (b + 10) < 40) : LedD (sv2 f b k) b := LedD_congr (sv1_D (k := k) h hc) (u2_o (by omega)) (u2_o (by omega)) (u2_o (by omega)) (u2_o (by omega))
theorem sv3_D {f : Nat → Nat → Int32} {b k : Nat} (h : LedD f b) (hc : csz f (b + 10) < 40) : LedD (sv3 f b k) b := LedD_congr (sv2_D (k := k) h hc) (auF_ne (by omega) (by omega)) (auF_ne (by omega) (by omega)) (auF_ne (by omega) (by omega)) (auF_ne (by omega) (by omega))
theorem sv2_d (f : Nat → Nat → Int32) (b k : Nat) : sv2 f b k (b + 12) 2 = f (b + 12) 2 := by
  unfold sv2 sv1
  rw [u2_o (by omega), arF_ne (by omega) (by omega)]
theorem sv3_d (f : Nat → Nat → Int32) (b k : Nat) : sv3 f b k (b + 12) 2 = f (b + 12) 2 := by
  unfold sv3
  rw [auF_ne (by omega) (by omega), sv2_d]
theorem sv2_c (f : Nat → Nat → Int32) (b k : Nat) : csz (sv2 f b k) (b + 12) = csz f (b + 12) := by unfold csz; rw [sv2_d]
theorem sv3_c (f : Nat → Nat → Int32) (b k : Nat) : csz (sv3 f b k) (b + 12) = csz f (b + 12) := by unfold csz; rw [sv3_d]
theorem svF_D {f : Nat → Nat → Int32} {b k : Nat} (h : LedD f b) (hc : csz f (b + 10) < 40) : LedD (svF f b k) b := LedD_de (s := csz f (b + 12) - 1) (sv3_D (k := k) h hc) (rmF_ne (by omega) (by omega)) (rmF_ne (by omega) (by omega)) (by unfold svF; rw [rmF_s, sv3_c]) (by have := h.2.2.2.1; omega) (rmF_ne (by omega) (by omega))
def e_L_serve : Ent := (fun av M => ∃ (b : Nat) (k : Nat), av = [.ref b, .int (nI k)] ∧ k < 2 ^ 31 ∧ (LedOk M b ∧ k < csz (mI M) (b + 12) ∧ csz (mI M) (b + 10) < 40), fun av M r_ M_ => ∀ (b : Nat) (k : Nat), k < 2 ^ 31 → av = [.ref b, .int (nI k)] → r_ = (some (.int (mI M (b + 13) (k * 6 + 4)))) ∧ M_ = (mW M (svF (mI M) b k)))
theorem pc_L_serve {b : Nat} {k : Nat} {M : Mem} {K : Option Value → Mem → Prop} (hp : LedOk M b ∧ k < csz (mI M) (b + 12) ∧ csz (mI M) (b + 10) < 40) (h_k : k < 2 ^ 31) : pcall e_L_serve [.ref b, .int (nI k)] M K = K (some (.int (mI M (b + 13) (k * 6 + 4)))) (mW M (svF (mI M) b k)) := propext ⟨fun h => h.2 _ _ (fun b' k' h_k' e => by simp only [List.cons.injEq, Value.ref.injEq, Value.int.injEq, Value.long.injEq, and_true] at e; obtain ⟨q0, q1⟩ := e; obtain rfl := q0; obtain rfl := (nI_eq h_k h_k').mp q1; exact ⟨rfl, rfl⟩), fun h => ⟨⟨b, k, rfl, h_k, hp⟩, fun r_ M_ q => by obtain ⟨rfl, rfl⟩ := q _ _ h_k rfl; exact h⟩⟩
theorem mk_L_serve {Z : Zt} {d : Nat} (h : ∀ (b : Nat) (k : Nat) (M : Mem), k < 2 ^ 31 → (LedOk M b ∧ k < csz (mI M) (b + 12) ∧ csz (mI M) (b + 10) < 40) → Gm Z d s_L_serve [.ref b, .int (nI k)] M (ex (some (.int (mI M (b + 13) (k * 6 + 4)))) (mW M (svF (mI M) b k)))) : okE Z d i_L_serve e_L_serve := by
  rintro av M ⟨b, k, rfl, h_k, hp⟩
  exact Gm.cons (h b k M h_k hp) (fun r_ M_ q b' k' h_k' e => by simp only [List.cons.injEq, Value.ref.injEq, Value.int.injEq, Value.long.injEq, and_true] at e; obtain ⟨q0, q1⟩ := e; obtain rfl := q0; obtain rfl := (nI_eq h_k h_k').mp q1; exact q)
set_option maxRecDepth 100000 in
set_option maxHeartbeats 4000000 in
theorem ok_L_serve (Z : Zt) (d : Nat) : okE Z (d + 4) i_L_serve e_L_serve := mk_L_serve fun b k M hk0 hp => by
  obtain ⟨hp, hk, hc⟩ := hp
  have hL := hp.1
  have hD := hp.2
  have hcd := ld_cd hL hD
  have hcg := ld_cg hL hD
  have hcell := cellF_at (j := 4) hcd hk (by omega)
  rw [Nat.add_assoc] at hcell
  have hA : ClOk M (b + 10) ∧ ClOk M (b + 12) ∧ csz (mI M) (b + 10) < ccap (b + 10) ∧ k < csz (mI M) (b + 12) ∧ b + 10 ≠ b + 12 := ⟨hcg, hcd, by rw [ccap_g hL]; exact hc, hk, by omega⟩
  have hU : LedOk (mW M (sv2 (mI M) b k)) b ∧ (b + 12 = b + 10 ∨ b + 12 = b + 12) ∧ k < csz (mI (mW M (sv2 (mI M) b k))) (b + 12) := ⟨⟨hL, sv2_D hD hc⟩, Or.inr rfl, by show k < csz (sv2 (mI M) b k) (b + 12); rw [sv2_c]; exact hk⟩
  have hR : ClOk (mW M (sv3 (mI M) b k)) (b + 12) ∧ k < csz (mI (mW M (sv3 (mI M) b k))) (b + 12) := ⟨ld_cd (M := mW M (sv3 (mI M) b k)) hL (sv3_D hD hc), by show k < csz (sv3 (mI M) b k) (b + 12); rw [sv3_c]; exact hk⟩
  refine Gm_run (C := [(i_C_cell, e_C_cell), (i_C_addRowOf, e_C_addRowOf), (i_L_addUse, e_L_addUse), (i_C_remove, e_C_remove)]) (S := []) [some (.ref b), some (.int (nI k)), none] 100 k_L_serve (okE_cons (ok_C_cell Z (d + 1)) (okE_cons (ok_C_addRowOf Z d) (okE_cons (ok_L_addUse Z d) (okE_cons (ok_C_remove Z (d + 1)) okE_nil)))) (ex_n rfl) ?_
  simp (disch := first | assumption | omega) only [run, go, jmp, seek, inS, e0, e1, e2, e3, e4, e5, tsw, e7, e8, e9, e10, e11, e12, splitA, rcv, clook, lget, lset, lset2, lkill, Option.toList, List.nil_append, List.cons_append, wsum, List.map_cons, List.map_nil, List.sum_cons, List.sum_nil, Value.category, Nat.reduceAdd, List.getD_cons_zero, List.getD_cons_succ, ↓reduceIte, if_true, if_false, Bool.false_eq_true, Nat.reduceLeDiff, Nat.reduceEqDiff, true_or, or_true, true_and, and_true, and_self, or_self, not_true, not_false_iff, mR_stI, mN_stI, isO_stI, isA_stI, mI_stI, mR_mW, mN_mW, isO_mW, isA_mW, mI_mW, mW_mW, stI_mW, p_L_serve, ld_o hL, ld_og hL, ld_od hL, ld_r0 hL, ld_r1 hL, ld_r2 hL, ld_r3 hL, ld_r4 hL, ld_r5 hL, ld_r6 hL, ld_r7 hL, ld_r8 hL, ld_r9 hL, ld_r10 hL, ld_r11 hL, ld_a1 hL, ld_a2 hL, ld_a3 hL, ld_a4 hL, ld_a5 hL, ld_a6 hL, ld_a7 hL, ld_a8 hL, ld_a9 hL, ld_a11 hL, ld_a13 hL, ld_a14 hL, pc_C_cell hcd, i_C_cell, (show (4 : Int32) = nI 4 from rfl), hcell, pc_C_addRowOf hA, i_C_addRowOf, ← sv1.eq_1, ← sv2.eq_1, pc_L_addUse hU, i_L_addUse, ← sv3.eq_1, pc_C_remove hR, i_C_remove]
  exact ⟨rfl, rfl⟩
def e_L_endGrant : Ent := (fun av M => ∃ (b : Nat) (k : Nat), av = [.ref b, .int (nI k)] ∧ k < 2 ^ 31 ∧ (LedOk M b ∧ k < csz (mI M) (b + 10)), fun av M r_ M_ => ∀ (b : Nat) (k : Nat), k < 2 ^ 31 → av = [.ref b, .int (nI k)] → r_ = (none) ∧ M_ = (mW M (rmF (auF (mI M) b (b + 10) k (-1)) (b + 10) k)))
theorem pc_L_endGrant {b : Nat} {k : Nat} {M : Mem} {K : Option Value → Mem → Prop} (hp : LedOk M b ∧ k < csz (mI M) (b + 10)) (h_k : k < 2 ^ 31) : pcall e_L_endGrant [.ref b, .int (nI k)] M K = K (none) (mW M (rmF (auF (mI M) b (b + 10) k (-1)) (b + 10) k)) := propext ⟨fun h => h.2 _ _ (fun b' k' h_k' e => by simp only [List.cons.injEq, Value.ref.injEq, Value.int.injEq, Value.long.injEq, and_true] at e; obtain ⟨q0, q1⟩ := e; obtain rfl := q0; obtain rfl := (nI_eq h_k h_k').mp q1; exact ⟨rfl, rfl⟩), fun h => ⟨⟨b, k, rfl, h_k, hp⟩, fun r_ M_ q => by obtain ⟨rfl, rfl⟩ := q _ _ h_k rfl; exact h⟩⟩
theorem mk_L_endGrant {Z : Zt} {d : Nat} (h : ∀ (b : Nat) (k : Nat) (M : Mem), k < 2 ^ 31 → (LedOk M b ∧ k < csz (mI M) (b + 10)) → Gm Z d s_L_endGrant [.ref b, .int (nI k)] M (ex (none) (mW M (rmF (auF (mI M) b (b + 10) k (-1)) (b + 10) k)))) : okE Z d i_L_endGrant e_L_endGrant := by
  rintro av M ⟨b, k, rfl, h_k, hp⟩
  exact Gm.cons (h b k M h_k hp) (fun r_ M_ q b' k' h_k' e => by simp only [List.cons.injEq, Value.ref.injEq, Value.int.injEq, Value.long.injEq, and_true] at e; obtain ⟨q0, q1⟩ := e; obtain rfl := q0; obtain rfl := (nI_eq h_k h_k').mp q1; exact q)
set_option maxRecDepth 100000 in
set_option maxHeartbeats 4000000 in
theorem ok_L_endGrant (Z : Zt) (d : Nat) : okE Z (d + 4) i_L_endGrant e_L_endGrant := mk_L_endGrant fun b k M hk0 hp => by
  obtain ⟨hp, hk⟩ := hp
  have hL := hp.1
  have hD := hp.2
  have hU : LedOk M b ∧ (b + 10 = b + 10 ∨ b + 10 = b + 12) ∧ k < csz (mI M) (b + 10) := ⟨hp, Or.inl rfl, hk⟩
  have hD' : LedD (auF (mI M) b (b + 10) k (-1)) b := LedD_congr hD (auF_ne (by omega) (by omega)) (auF_ne (by omega) (by omega)) (auF_ne (by omega) (by omega)) (auF_ne (by omega) (by omega))
  have hR : ClOk (mW M (auF (mI M) b (b + 10) k (-1))) (b + 10) ∧ k < csz (mI (mW M (auF (mI M) b (b + 10) k (-1)))) (b + 10) := ⟨ld_cg (M := mW M (auF (mI M) b (b + 10) k (-1))) hL hD', by
    have e : csz (auF (mI M) b (b + 10) k (-1)) (b + 10) = csz (mI M) (b + 10) := by unfold csz; rw [auF_ne (by omega) (by omega)]
    show k < csz (auF (mI M) b (b + 10) k (-1)) (b + 10)
    rw [e]
    exact hk⟩
  refine Gm_run (C := [(i_L_addUse, e_L_addUse), (i_C_remove, e_C_remove)]) (S := []) [some (.ref b), some (.int (nI k))] 100 k_L_endGrant (okE_cons (ok_L_addUse Z d) (okE_cons (ok_C_remove Z (d + 1)) okE_nil)) (ex_n rfl) ?_
  simp (disch := first | assumption | omega) only [run, go, jmp, seek, inS, e0, e1, e2, e3, e4, e5, tsw, e7, e8, e9, e10, e11, e12, splitA, rcv, clook, lget, lset, lset2, lkill, Option.toList, List.nil_append, List.cons_append, wsum, List.map_cons, List.map_nil, List.sum_cons, List.sum_nil, Value.category, Nat.reduceAdd, List.getD_cons_zero, List.getD_cons_succ, ↓reduceIte, if_true, if_false, Bool.false_eq_true, Nat.reduceLeDiff, Nat.reduceEqDiff, true_or, or_true, true_and, and_true, and_self, or_self, not_true, not_false_iff, mR_stI, mN_stI, isO_stI, isA_stI, mI_stI, mR_mW, mN_mW, isO_mW, isA_mW, mI_mW, mW_mW, stI_mW, p_L_endGrant, ld_o hL, ld_og hL, ld_od hL, ld_r0 hL, ld_r1 hL, ld_r2 hL, ld_r3 hL, ld_r4 hL, ld_r5 hL, ld_r6 hL, ld_r7 hL, ld_r8 hL, ld_r9 hL, ld_r10 hL, ld_r11 hL, ld_a1 hL, ld_a2 hL, ld_a3 hL, ld_a4 hL, ld_a5 hL, ld_a6 hL, ld_a7 hL, ld_a8 hL, ld_a9 hL, ld_a11 hL, ld_a13 hL, ld_a14 hL, pc_L_addUse hU, i_L_addUse, pc_C_remove hR, i_C_remove]
  exact ⟨rfl, rfl⟩
/-- grants as long as there is a next demand and a place; n so far; the tenants into a -/
def saP (b a : Nat) : Nat → (Nat → Nat → Int32) → Nat → (Nat → Nat → Int32) × Nat
  | 0, f, n => (f, n)
  | m + 1, f, n => if csz f (b + 10) < 40 ∧ 0 ≤ ndF f b then saP b a m (u2 (svF f b (ndF f b).toNatClampNeg) a n (f (b + 13) ((ndF f b).toNatClampNeg * 6 + 4))) (n + 1) else (f, n)
theorem ndP_cases (f : Nat → Nat → Int32) (b : Nat) : ∀ t, (ndP f b t).1 = -1 ∨ ∃ k, k < csz f (b + 12) ∧ (ndP f b t).1 = nI k
  | 0 => Or.inl rfl
  | t + 1 => by
    unfold ndP
    split
    · next h =>
      rcases fwR_cases (fun k => cellF f (b + 12) (nI k) 4 = nI t) (csz f (b + 12)) 0 with e | ⟨k, -, h2, -, e⟩
      · have e : fwF f (b + 12) 4 (nI t) = -1 := e
        exact Or.inl e
      · have e : fwF f (b + 12) 4 (nI t) = nI k := e
        exact Or.inr ⟨k, by omega, e⟩
    · exact ndP_cases f b t
theorem ndF_cases (f : Nat → Nat → Int32) (b : Nat) : ndF f b = -1 ∨ ∃ k, k < csz f (b + 12) ∧ ndF f b = nI k := ndP_cases f b _
def e_L_serveAll : Ent := (fun av M => ∃ (b : Nat) (a : Nat), av = [.ref b, .ref a] ∧ (LedOk M b ∧ a < mN M ∧ kd a = (1, 24) ∧ (a < b ∨ b + 14 < a)), fun av M r_ M_ => ∀ (b : Nat) (a : Nat), av = [.ref b, .ref a] → r_ = (some (.int (nI (saP b a 24 (mI M) 0).2))) ∧ M_ = (mW M (saP b a 24 (mI M) 0).1))
theorem pc_L_serveAll {b : Nat} {a : Nat} {M : Mem} {K : Option Value → Mem → Prop} (hp : LedOk M b ∧ a < mN M ∧ kd a = (1, 24) ∧ (a < b ∨ b + 14 < a)) : pcall e_L_serveAll [.ref b, .ref a] M K = K (some (.int (nI (saP b a 24 (mI M) 0).2))) (mW M (saP b a 24 (mI M) 0).1) := propext ⟨fun h => h.2 _ _ (fun b' a' e => by simp only [List.cons.injEq, Value.ref.injEq, Value.int.injEq, Value.long.injEq, and_true] at e; obtain ⟨q0, q1⟩ := e; obtain rfl := q0; obtain rfl := q1; exact ⟨rfl, rfl⟩), fun h => ⟨⟨b, a, rfl, hp⟩, fun r_ M_ q => by obtain ⟨rfl, rfl⟩ := q _ _ rfl; exact h⟩⟩
theorem mk_L_serveAll {Z : Zt} {d : Nat} (h : ∀ (b : Nat) (a : Nat) (M : Mem), (LedOk M b ∧ a < mN M ∧ kd a = (1, 24) ∧ (a < b ∨ b + 14 < a)) → Gm Z d s_L_serveAll [.ref b, .ref a] M (ex (some (.int (nI (saP b a 24 (mI M) 0).2))) (mW M (saP b a 24 (mI M) 0).1))) : okE Z d i_L_serveAll e_L_serveAll := by
  rintro av M ⟨b, a, rfl, hp⟩
  exact Gm.cons (h b a M  hp) (fun r_ M_ q b' a' e => by simp only [List.cons.injEq, Value.ref.injEq, Value.int.injEq, Value.long.injEq, and_true] at e; obtain ⟨q0, q1⟩ := e; obtain rfl := q0; obtain rfl := q1; exact q)
set_option maxRecDepth 100000 in
set_option maxHeartbeats 4000000 in
theorem lp_L_serveAll (Z : Zt) (d : Nat) {b a : Nat} {M : Mem} {R0 : Nat} {g : Nat → Nat → Int32} (hL : LedS M b) (ha : a < mN M) (hk : kd a = (1, 24)) (hab : a < b ∨ b + 14 < a) : ∀ m n f w3, n + m = 24 → LedD f b → saP b a m f n = (g, R0) → X Z (d + 5) s_L_serveAll (mN M) (mN M) (ex (some (.int (nI R0))) (mW M g)) 2 [some (.ref b), some (.ref a), some (.int (nI n)), w3] [] (mW M f) := by
  have hA : ∀ {k}, k < 24 → isA M a (nI k) = True := fun {k} h => eq_true ⟨ha, by rw [hk], by rw [hk]; exact vp_in_nI h (by decide)⟩
  intro m
  induction m with
  | zero =>
    intro n f w3 hn hD hr
    obtain rfl : n = 24 := by omega
    cases hr
    refine X_run (C := []) (S := [2]) 100 k_L_serveAll okE_nil ?_
    simp (disch := first | trivial | assumption | omega) only [run, go, jmp, seek, inS, e0, e1, e2, e3, e4, e5, tsw, e7, e8, e9, e10, e11, e12, splitA, rcv, clook, lget, lset, lset2, lkill, Option.toList, List.nil_append, List.cons_append, wsum, List.map_cons, List.map_nil, List.sum_cons, List.sum_nil, Value.category, Nat.reduceAdd, List.getD_cons_zero, List.getD_cons_succ, ↓reduceIte, if_true, if_false, Bool.false_eq_true, Nat.reduceLeDiff, Nat.reduceEqDiff, true_or, or_true, true_and, and_true, and_self, or_self, not_true, not_false_iff, mR_stI, mN_stI, isO_stI, isA_stI, mI_stI, mR_mW, mN_mW, isO_mW, isA_mW, mI_mW, mW_mW, stI_mW, nI_addL, nI_mulL, nI_subL, nI_ltL, nI_leL, nI_Llt, nI_Lle, nI_eqL, nI_Leq, nI_add, pk_mul, nI_ltI, nI_leI, nI_eq, vpi, nI_clamp, nI_toN, p_L_serveAll, hk, ha]
    exact ⟨rfl, rfl⟩
  | succ m ih =>
    intro n f w3 hn hD hr
    have hp : LedOk (mW M f) b := ⟨hL, hD⟩
    have hcg : ClOk (mW M f) (b + 10) := ld_cg (M := mW M f) hL hD
    have h24 := hD.2.2.2.1
    rw [saP] at hr
    rcases ndF_cases f b with e | ⟨k, hkk, e⟩
    · rw [if_neg (fun q => by rw [e] at q; exact absurd q.2 (by decide))] at hr
      cases hr
      refine X_run (C := [(i_C_isFull, e_C_isFull), (i_L_nextDemand, e_L_nextDemand)]) (S := [2]) 100 k_L_serveAll (okE_cons (ok_C_isFull Z (d + 3)) (okE_cons (ok_L_nextDemand Z d) okE_nil)) ?_
      simp (disch := first | trivial | assumption | omega) only [run, go, jmp, seek, inS, e0, e1, e2, e3, e4, e5, tsw, e7, e8, e9, e10, e11, e12, splitA, rcv, clook, lget, lset, lset2, lkill, Option.toList, List.nil_append, List.cons_append, wsum, List.map_cons, List.map_nil, List.sum_cons, List.sum_nil, Value.category, Nat.reduceAdd, List.getD_cons_zero, List.getD_cons_succ, ↓reduceIte, if_true, if_false, Bool.false_eq_true, Nat.reduceLeDiff, Nat.reduceEqDiff, true_or, or_true, true_and, and_true, and_self, or_self, not_true, not_false_iff, mR_stI, mN_stI, isO_stI, isA_stI, mI_stI, mR_mW, mN_mW, isO_mW, isA_mW, mI_mW, mW_mW, stI_mW, nI_addL, nI_mulL, nI_subL, nI_ltL, nI_leL, nI_Llt, nI_Lle, nI_eqL, nI_Leq, nI_add, pk_mul, nI_ltI, nI_leI, nI_eq, vpi, nI_clamp, nI_toN, p_L_serveAll, hk, ha, ld_o hL, ld_og hL, ld_od hL, ld_r0 hL, ld_r1 hL, ld_r2 hL, ld_r3 hL, ld_r4 hL, ld_r5 hL, ld_r6 hL, ld_r7 hL, ld_r8 hL, ld_r9 hL, ld_r10 hL, ld_r11 hL, ld_a1 hL, ld_a2 hL, ld_a3 hL, ld_a4 hL, ld_a5 hL, ld_a6 hL, ld_a7 hL, ld_a8 hL, ld_a9 hL, ld_a11 hL, ld_a13 hL, ld_a14 hL, pc_C_isFull hcg, i_C_isFull, bv_0, pc_L_nextDemand hp, i_L_nextDemand, e, m1_nn, ite_self]
      rw [if_neg (by omega)]
      exact ⟨rfl, rfl⟩
    · have hk0 : (0 : Int32) ≤ nI k := nI_pos' (by omega)
      have hck : (nI k).toNatClampNeg = k := nI_clamp (by omega)
      rw [e, hck] at hr
      by_cases hf : csz f (b + 10) < 40
      · rw [if_pos ⟨hf, hk0⟩] at hr
        have hS : LedOk (mW M f) b ∧ k < csz (mI (mW M f)) (b + 12) ∧ csz (mI (mW M f)) (b + 10) < 40 := ⟨hp, hkk, hf⟩
        have hfu : ¬ ccap (b + 10) ≤ csz f (b + 10) := by rw [ccap_g hL]; omega
        refine X_run (C := [(i_C_isFull, e_C_isFull), (i_L_nextDemand, e_L_nextDemand), (i_L_serve, e_L_serve)]) (S := [2]) 100 k_L_serveAll (okE_cons (ok_C_isFull Z (d + 3)) (okE_cons (ok_L_nextDemand Z d) (okE_cons (ok_L_serve Z d) okE_nil))) ?_
        simp (disch := first | trivial | assumption | omega) only [run, go, jmp, seek, inS, e0, e1, e2, e3, e4, e5, tsw, e7, e8, e9, e10, e11, e12, splitA, rcv, clook, lget, lset, lset2, lkill, Option.toList, List.nil_append, List.cons_append, wsum, List.map_cons, List.map_nil, List.sum_cons, List.sum_nil, Value.category, Nat.reduceAdd, List.getD_cons_zero, List.getD_cons_succ, ↓reduceIte, if_true, if_false, Bool.false_eq_true, Nat.reduceLeDiff, Nat.reduceEqDiff, true_or, or_true, true_and, and_true, and_self, or_self, not_true, not_false_iff, mR_stI, mN_stI, isO_stI, isA_stI, mI_stI, mR_mW, mN_mW, isO_mW, isA_mW, mI_mW, mW_mW, stI_mW, nI_addL, nI_mulL, nI_subL, nI_ltL, nI_leL, nI_Llt, nI_Lle, nI_eqL, nI_Leq, nI_add, pk_mul, nI_ltI, nI_leI, nI_eq, vpi, nI_clamp, nI_toN, p_L_serveAll, hk, ha, ld_o hL, ld_og hL, ld_od hL, ld_r0 hL, ld_r1 hL, ld_r2 hL, ld_r3 hL, ld_r4 hL, ld_r5 hL, ld_r6 hL, ld_r7 hL, ld_r8 hL, ld_r9 hL, ld_r10 hL, ld_r11 hL, ld_a1 hL, ld_a2 hL, ld_a3 hL, ld_a4 hL, ld_a5 hL, ld_a6 hL, ld_a7 hL, ld_a8 hL, ld_a9 hL, ld_a11 hL, ld_a13 hL, ld_a14 hL, hA, pc_C_isFull hcg, i_C_isFull, hfu, bv_0, pc_L_nextDemand hp, i_L_nextDemand, e, pc_L_serve hS, i_L_serve]
        rw [if_neg (by omega), if_pos (by omega)]
        refine ih (n + 1) _ _ (by omega) ?_ hr
        exact LedD_congr (svF_D (k := k) hD hf) (u2_o (by omega)) (u2_o (by omega)) (u2_o (by omega)) (u2_o (by omega))
      · rw [if_neg (fun q => hf q.1)] at hr
        have hfu : (ccap (b + 10) ≤ csz f (b + 10)) = True := eq_true (by rw [ccap_g hL]; omega)
        cases hr
        refine X_run (C := [(i_C_isFull, e_C_isFull), (i_L_nextDemand, e_L_nextDemand)]) (S := [2]) 100 k_L_serveAll (okE_cons (ok_C_isFull Z (d + 3)) (okE_cons (ok_L_nextDemand Z d) okE_nil)) ?_
        simp (disch := first | trivial | assumption | omega) only [run, go, jmp, seek, inS, e0, e1, e2, e3, e4, e5, tsw, e7, e8, e9, e10, e11, e12, splitA, rcv, clook, lget, lset, lset2, lkill, Option.toList, List.nil_append, List.cons_append, wsum, List.map_cons, List.map_nil, List.sum_cons, List.sum_nil, Value.category, Nat.reduceAdd, List.getD_cons_zero, List.getD_cons_succ, ↓reduceIte, if_true, if_false, Bool.false_eq_true, Nat.reduceLeDiff, Nat.reduceEqDiff, true_or, or_true, true_and, and_true, and_self, or_self, not_true, not_false_iff, mR_stI, mN_stI, isO_stI, isA_stI, mI_stI, mR_mW, mN_mW, isO_mW, isA_mW, mI_mW, mW_mW, stI_mW, nI_addL, nI_mulL, nI_subL, nI_ltL, nI_leL, nI_Llt, nI_Lle, nI_eqL, nI_Leq, nI_add, pk_mul, nI_ltI, nI_leI, nI_eq, vpi, nI_clamp, nI_toN, p_L_serveAll, hk, ha, ld_o hL, ld_og hL, ld_od hL, ld_r0 hL, ld_r1 hL, ld_r2 hL, ld_r3 hL, ld_r4 hL, ld_r5 hL, ld_r6 hL, ld_r7 hL, ld_r8 hL, ld_r9 hL, ld_r10 hL, ld_r11 hL, ld_a1 hL, ld_a2 hL, ld_a3 hL, ld_a4 hL, ld_a5 hL, ld_a6 hL, ld_a7 hL, ld_a8 hL, ld_a9 hL, ld_a11 hL, ld_a13 hL, ld_a14 hL, pc_C_isFull hcg, i_C_isFull, hfu, bv_0, m1_nn]
        rw [if_neg (by omega)]
        exact ⟨rfl, rfl⟩
set_option maxRecDepth 100000 in
set_option maxHeartbeats 4000000 in
theorem ok_L_serveAll (Z : Zt) (d : Nat) : okE Z (d + 5) i_L_serveAll e_L_serveAll := mk_L_serveAll fun b a M hp => by
  obtain ⟨hp, ha, hk, hab⟩ := hp
  refine Gm_run (C := []) (S := [2]) [some (.ref b), some (.ref a), none, none] 100 k_L_serveAll okE_nil (ex_n rfl) ?_
  simp (disch := first | trivial | assumption | omega) only [run, go, jmp, seek, inS, e0, e1, e2, e3, e4, e5, tsw, e7, e8, e9, e10, e11, e12, splitA, rcv, clook, lget, lset, lset2, lkill, Option.toList, List.nil_append, List.cons_append, wsum, List.map_cons, List.map_nil, List.sum_cons, List.sum_nil, Value.category, Nat.reduceAdd, List.getD_cons_zero, List.getD_cons_succ, ↓reduceIte, if_true, if_false, Bool.false_eq_true, Nat.reduceLeDiff, Nat.reduceEqDiff, true_or, or_true, true_and, and_true, and_self, or_self, not_true, not_false_iff, mR_stI, mN_stI, isO_stI, isA_stI, mI_stI, mR_mW, mN_mW, isO_mW, isA_mW, mI_mW, mW_mW, stI_mW, nI_addL, nI_mulL, nI_subL, nI_ltL, nI_leL, nI_Llt, nI_Lle, nI_eqL, nI_Leq, nI_add, pk_mul, nI_ltI, nI_leI, nI_eq, vpi, nI_clamp, nI_toN, p_L_serveAll]
  exact lp_L_serveAll Z d hp.1 ha hk hab 24 0 (mI M) none rfl hp.2 rfl
