/-! ===== the law: its loop and its beginning ===== -/
theorem okC_law (Z : Zt) : ∀ q ∈ C_law, okE Z 10 q.1 q.2 := (okE_cons (ok_B_type Z 8) (okE_cons (ok_M_type Z 8) (okE_cons (ok_B_clearText Z 9) (okE_cons (ok_M_clearText Z 9) (okE_cons (ok_B_fault Z 2) (okE_cons (ok_M_fault Z 6) (okE_cons (ok_B_setResource Z 5) (okE_cons (ok_M_setResource Z 7) (okE_cons (ok_B_setRest Z 5) (okE_cons (ok_M_setRest Z 8) (okE_cons (ok_B_addTenant Z 5) (okE_cons (ok_M_addTenant Z 8) (okE_cons (ok_B_setWeight Z 5) (okE_cons (ok_M_setWeight Z 7) (okE_cons (ok_B_setLimit Z 5) (okE_cons (ok_M_setLimit Z 7) (okE_cons (ok_B_demand Z 2) (okE_cons (ok_M_demand Z 6) (okE_cons (ok_B_withdraw Z 5) (okE_cons (ok_M_withdraw Z 7) (okE_cons (ok_B_grant Z 5) (okE_cons (ok_M_grant Z 4) (okE_cons (ok_B_grantAll Z 4) (okE_cons (ok_M_grantAll Z 4) (okE_cons (ok_B_release Z 5) (okE_cons (ok_M_release Z 7) (okE_cons (ok_B_exchange Z 5) (okE_cons (ok_M_exchange Z 6) (okE_cons (ok_B_borrow Z 5) (okE_cons (ok_M_borrow Z 7) (okE_cons (ok_B_repay Z 5) (okE_cons (ok_M_repay Z 6) (okE_cons (ok_B_pass Z 4) (okE_cons (ok_M_pass Z 5) (okE_cons (ok_B_undo Z 5) (okE_cons (ok_M_undo Z 9) (okE_cons (ok_B_resource Z 7) (okE_cons (ok_M_resource Z 6) (okE_cons (ok_B_tenant Z 6) (okE_cons (ok_M_tenant Z 6) (okE_cons (ok_B_account Z 7) (okE_cons (ok_M_account Z 6) (okE_cons (ok_B_granted Z 5) (okE_cons (ok_M_granted Z 7) (okE_cons (ok_B_demanded Z 7) (okE_cons (ok_M_demanded Z 8) (okE_cons (ok_B_plan Z 3) (okE_cons (ok_M_plan Z 3) (okE_cons (ok_B_worth Z 7) (okE_cons (ok_M_worth Z 5) (okE_cons (ok_B_ruin Z 3) (okE_cons (ok_M_ruin Z 4) (okE_cons (ok_B_count Z 9) (okE_cons (ok_M_count Z 9) (okE_cons (ok_B_digest Z 2) (okE_cons (ok_M_digest Z 2) okE_nil))))))))))))))))))))))))))))))))))))))))))))))))))))))))
def QL (r : Option Value) (_ : Mem) : Prop := r = some (.int 1)
theorem vp5 {k n j : Nat} (h : 5 * k + 5 ≤ n) (hn : n ≤ 2560) (hj : j < 5) : vp_in (nI (5 * k) + nI j) n := by
  rw [nI_add]
  exact vp_in_nI (by omega) (by omega)
theorem zn5 {k n : Nat} (hn : n ≤ 2560) (hk : 5 * k ≤ 4000) : (nI n - nI 5 < nI (5 * k)) ↔ n < 5 * k + 5 := by
  rw [fa_lt', ti_sub (by rw [nI_toInt (by omega), nI_toInt (by omega)]; omega) (by rw [nI_toInt (by omega), nI_toInt (by omega)]; omega), nI_toInt (by omega), nI_toInt (by omega), nI_toInt (by omega)]
  omega
set_option maxRecDepth 100000 in
set_option maxHeartbeats 4000000 in
theorem law_26 {Z : Zt} {Kx : Nat → Kt} {Q : Option Value → Mem → Prop} {k : Nat} {M : Mem} (hzn : zn Z ≤ 2560) (hk : 5 * k + 5 ≤ zn Z) (h : RR k M) (hK : ∀ N, RR (k + 1) N → Kx 18 [some (.ref 1), some (.ref 16), some (.ref 174), some (.int (nI (5 * k) + nI 5))] [] N) : run Z 181 C_law S_law Kx Q 994 t_law_26 [some (.ref 1), some (.ref 16), some (.ref 174), some (.int (nI (5 * k)))] [] M := by
  have hc : k < 900000 := by omega
  have hv : ∀ j, j < 5 → vp_in (nI (5 * k) + nI j) (zn Z) := fun j hj => vp5 hk hzn hj
  rw [g_law_26]
  refine ⟨⟨rfl, vp_in_nI (by omega) (by omega)⟩, ?_⟩
  generalize zx Z (Int32.toNatClampNeg (nI (5 * k))) &&& nI 31 = w
  by_cases q0 : w = nI 0
  · rw [if_pos q0]
    exact lo_0 h hc hv hK
  rw [if_neg q0]
  by_cases q1 : w = nI 1
  · rw [if_pos q1]
    exact lo_1 h hc hv hK
  rw [if_neg q1]
  by_cases q2 : w = nI 2
  · rw [if_pos q2]
    exact lo_2 h hc hv hK
  rw [if_neg q2]
  by_cases q3 : w = nI 3
  · rw [if_pos q3]
    exact lo_3 h hc hv hK
  rw [if_neg q3]
  by_cases q4 : w = nI 4
  · rw [if_pos q4]
    exact lo_4 h hc hv hK
  rw [if_neg q4]
  by_cases q5 : w = nI 5
  · rw [if_pos q5]
    exact lo_5 h hc hv hK
  rw [if_neg q5]
  by_cases q6 : w = nI 6
  · rw [if_pos q6]
    exact lo_6 h hc hv hK
  rw [if_neg q6]
  by_cases q7 : w = nI 7
  · rw [if_pos q7]
    exact lo_7 h hc hv hK
  rw [if_neg q7]
  by_cases q8 : w = nI 8
  · rw [if_pos q8]
    exact lo_8 h hc hv hK
  rw [if_neg q8]
  by_cases q9 : w = nI 9
  · rw [if_pos q9]
    exact lo_9 h hc hv hK
  rw [if_neg q9]
  by_cases q10 : w = nI 10
  · rw [if_pos q10]
    exact lo_10 h hc hv hK
  rw [if_neg q10]
  by_cases q11 : w = nI 11
  · rw [if_pos q11]
    exact lo_11 h hc hv hK
  rw [if_neg q11]
  by_cases q12 : w = nI 12
  · rw [if_pos q12]
    exact lo_12 h hc hv hK
  rw [if_neg q12]
  by_cases q13 : w = nI 13
  · rw [if_pos q13]
    exact lo_13 h hc hv hK
  rw [if_neg q13]
  by_cases q14 : w = nI 14
  · rw [if_pos q14]
    exact lo_14 h hc hv hK
  rw [if_neg q14]
  by_cases q15 : w = nI 15
  · rw [if_pos q15]
    exact lo_15 h hc hv hK
  rw [if_neg q15]
  by_cases q16 : w = nI 16
  · rw [if_pos q16]
    exact lo_16 h hc hv hK
  rw [if_neg q16]
  by_cases q17 : w = nI 17
  · rw [if_pos q17]
    exact lo_17 h hc hv hK
  rw [if_neg q17]
  by_cases q18 : w = nI 18
  · rw [if_pos q18]
    exact lo_18 h hc hv hK
  rw [if_neg q18]
  by_cases q19 : w = nI 19
  · rw [if_pos q19]
    exact lo_19 h hc hv hK
  rw [if_neg q19]
  by_cases q20 : w = nI 20
  · rw [if_pos q20]
    exact lo_20 h hc hv hK
  rw [if_neg q20]
  by_cases q21 : w = nI 21
  · rw [if_pos q21]
    exact lo_21 h hc hv hK
  rw [if_neg q21]
  by_cases q22 : w = nI 22
  · rw [if_pos q22]
    exact lo_22 h hc hv hK
  rw [if_neg q22]
  by_cases q23 : w = nI 23
  · rw [if_pos q23]
    exact lo_23 h hc hv hK
  rw [if_neg q23]
  by_cases q24 : w = nI 24
  · rw [if_pos q24]
    exact lo_24 h hc hv hK
  rw [if_neg q24]
  by_cases q25 : w = nI 25
  · rw [if_pos q25]
    exact lo_25 h hc hv hK
  rw [if_neg q25]
  by_cases q26 : w = nI 26
  · rw [if_pos q26]
    exact lo_26 h hc hv hK
  rw [if_neg q26]
  by_cases q27 : w = nI 27
  · rw [if_pos q27]
    exact lo_27 h hc hv hK
  rw [if_neg q27]
  rw [g_law_951]
  exact hK _ (RR_up h)
set_option maxRecDepth 100000 in
set_option maxHeartbeats 4000000 in
theorem law_go (Z : Zt) (hzn : zn Z ≤ 2560) {n0 : Nat} : ∀ m k M, zn Z < 5 * k + m → 5 * k ≤ 4000 → RR k M → X Z 11 s_law n0 181 QL 18 [some (.ref 1), some (.ref 16), some (.ref 174), some (.int (nI (5 * k)))] [] M
  | m, k, M, hm, hk, h => by
    refine X_runT (d := 10) (C := C_law) (S := S_law) (T := t_law_18) 1000 kt_law (okC_law Z) ?_
    rw [g_law_18]
    refine ⟨rfl, ?_⟩
    by_cases z : zn Z < 5 * k + 5
    · rw [if_pos ((zn5 hzn hk).mpr z), g_law_957]
      exact ⟨Or.inr rfl, rfl⟩
    · rw [if_neg (fun q => z ((zn5 hzn hk).mp q))]
      refine law_26 hzn (by omega) h (fun N hN => ?_)
      have := law_go Z hzn (n0 := n0) (m - 5) (k + 1) N (by omega) (by omega) hN
      rw [nI_add]
      exact this
  termination_by m => m
  decreasing_by omega
theorem okI_L4 : okI s_law (4, 11, 4, 0, 63, 0, [9, 1]) := (show okP s_law t_law_4 from okP_seek 4 t_law_0 kt_law).1
theorem okI_L12 : okI s_law (12, 11, 4, 0, 100, 0, [12, 1]) := (show okP s_law t_law_12 from okP_seek 12 t_law_0 kt_law).1
/-! the first state -/
theorem z_0 : (0 : Int32).toNatClampNeg = 0 := by decide
theorem LedZ_D {f : Nat → Nat → Int32} {b : Nat} (h : LedZ f b) : LedD f b := by
  have h0 : ∀ x y, b ≤ x → x < b + 15 → ¬ (x = b + 6) → ¬ (x = b ∧ y = 15) → f x y = 0 := fun x y h1 h2 h3 h4 => by
    rw [h x y h1 h2, if_neg (fun q => h3 q.1), if_neg h4]
  have e1 : csz f (b + 10) = 0 := by unfold csz; rw [h0 _ _ (by omega) (by omega) (by omega) (by omega), z_0]
  have e2 : csz f (b + 12) = 0 := by unfold csz; rw [h0 _ _ (by omega) (by omega) (by omega) (by omega), z_0]
  have e3 : lnT f b = 0 := by unfold lnT; rw [h0 _ _ (by omega) (by omega) (by omega) (by omega), z_0]
  have e4 : lnB f b = 0 := by unfold lnB; rw [h0 _ _ (by omega) (by omega) (by omega) (by omega), z_0]
  refine ⟨?_, by omega, ?_, by omega, ?_, by omega, ?_, by omega⟩
  · rw [e1, h0 _ _ (by omega) (by omega) (by omega) (by omega), nn_0]
  · rw [e2, h0 _ _ (by omega) (by omega) (by omega) (by omega), nn_0]
  · rw [e3, h0 _ _ (by omega) (by omega) (by omega) (by omega), nn_0]
  · rw [e4, h0 _ _ (by omega) (by omega) (by omega) (by omega), nn_0]
theorem RL_0 {f : Nat → Nat → Int32} {b : Nat} {u : Nat → Int32} (h : LedZ f b) (hu : ∀ y, u y = if y = 452 then 3 else 0) : RL f b u ∧ IV u 0 := by
  have h0 : ∀ x y, b ≤ x → x < b + 15 → ¬ (x = b + 6) → ¬ (x = b ∧ y = 15) → f x y = 0 := fun x y h1 h2 h3 h4 => by
    rw [h x y h1 h2, if_neg (fun q => h3 q.1), if_neg h4]
  have u0 : ∀ y, y ≠ 452 → u y = 0 := fun y hy => by rw [hu, if_neg hy]
  have eT : uT u = 0 := by unfold uT; rw [u0 _ (by omega), z_0]
  have eG : uG u = 0 := by unfold uG; rw [u0 _ (by omega), z_0]
  have eD : uD u = 0 := by unfold uD; rw [u0 _ (by omega), z_0]
  have eB : uB u = 0 := by unfold uB; rw [u0 _ (by omega), z_0]
  have eU : ∀ r t, usU u r t = 0 := fun r t => by
    unfold usU
    rw [eG, usP, nn_0]
  refine ⟨⟨fun r hr => ?_, fun t ht => by omega, ⟨?_, fun k hk => by omega⟩, ⟨?_, fun k hk => by omega⟩, fun k hk => by omega, fun r hr => ⟨?_, fun t ht => by omega⟩, ⟨?_, ?_, ?_, ?_, ?_, ?_⟩, fun t _ ht => ⟨?_, ?_, fun r hr => ⟨?_, ?_, ?_⟩⟩⟩, ⟨⟨?_, by omega⟩, ⟨?_, by omega⟩, ⟨?_, by omega⟩, ⟨?_, by omega⟩⟩, ⟨?_, fun k hk => by omega⟩, fun r hr => ?_, fun t ht => by omega, fun k hk => by omega, fun k hk => by omega, ⟨fun k hk => by omega, fun j k hj => by omega⟩, fun t ht => by omega, ?_⟩
  · rw [h0 _ _ (by omega) (by omega) (by omega) (by omega), h0 _ _ (by omega) (by omega) (by omega) (by omega), u0 _ (by omega), u0 _ (by omega)]
    exact ⟨rfl, rfl⟩
  · rw [h0 _ _ (by omega) (by omega) (by omega) (by omega), u0 _ (by omega)]
  · rw [h0 _ _ (by omega) (by omega) (by omega) (by omega), u0 _ (by omega)]
  · rw [h0 _ _ (by omega) (by omega) (by omega) (by omega), eU]
  · rw [h0 _ _ (by omega) (by omega) (by omega) (by omega), u0 _ (by omega)]
  · rw [h0 _ _ (by omega) (by omega) (by omega) (by omega), u0 _ (by omega)]
  · rw [h0 _ _ (by omega) (by omega) (by omega) (by omega), u0 _ (by omega)]
  · rw [h _ _ (by omega) (by omega), if_neg (by omega), if_pos ⟨rfl, rfl⟩, hu, if_pos rfl]
  · rw [h0 _ _ (by omega) (by omega) (by omega) (by omega), u0 _ (by omega)]
  · rw [h0 _ _ (by omega) (by omega) (by omega) (by omega), u0 _ (by omega)]
  · rw [h0 _ _ (by omega) (by omega) (by omega) (by omega)]
  · rw [h _ _ (by omega) (by omega), if_pos ⟨rfl, ht⟩]
  · rw [h0 _ _ (by omega) (by omega) (by omega) (by omega)]
  · rw [h0 _ _ (by omega) (by omega) (by omega) (by omega)]
  · rw [h0 _ _ (by omega) (by omega) (by omega) (by omega)]
  · rw [eT, u0 _ (by omega), nn_0]
  · rw [eG, u0 _ (by omega), nn_0]
  · rw [eD, u0 _ (by omega), nn_0]
  · rw [eB, u0 _ (by omega), nn_0]
  · rw [eB, eT]
    exact Nat.le_refl _
  · rw [u0 _ (by omega), ti_0]
    omega
  · unfold IT
    rw [eD, u0 446 (by omega), u0 451 (by omega), hu 452, if_pos rfl, ti_0, (show (3 : Int32).toInt = 3 by decide)]
    omega
theorem RR_0 {M1 M2 : Mem} (h1 : BQ M1) (h2 : MkQ (al M1) M2) : RR 0 M2 := by
  obtain ⟨⟨⟨⟨⟨b1, b2, b3⟩, b4, z20, r20⟩, b5, z35, r35⟩, b6, b7, b8, b9, b10⟩, hn1, b11, b12, b13, b14⟩ := h1
  obtain ⟨hn2, m174, k1, k2, k3⟩ := h2
  have kI : ∀ x y, x < 174 → mI M2 x y = mI M1 x y := fun x y hx => by rw [k1 x y (by omega), mI_al, hn1, if_neg (by omega)]
  have kI4 : ∀ y, mI M2 174 y = 0 := fun y => by rw [k1 174 y (by omega), mI_al, hn1, if_pos rfl]
  have kR : ∀ x y, x < 174 → mR M2 x y = mR M1 x y := fun x y hx => by rw [k3 x y hx, mR_al, hn1, if_neg (by omega)]
  have s20 : LedS M2 20 := LedS_of (LedR_cg r20 (fun x y q1 q2 => kR x y (by omega))) LdK_20 (by omega)
  have s35 : LedS M2 35 := LedS_of (LedR_cg r35 (fun x y q1 q2 => kR x y (by omega))) LdK_35 (by omega)
  have hB : BkS M2 := by
    refine ⟨hn2, s20, s35, fun j hj => LedS_of (LedR_cg (b10 j hj).2 (fun x y q1 q2 => kR x y (by omega))) (LdK_h hj) (by omega), by rw [kR _ _ (by omega)]; exact b8, fun i hi => ⟨i, hi, by rw [kR _ _ (by omega)]; exact b9 i hi⟩, fun i k hi hk e => ?_, ⟨?_, ?_, ?_, ?_, ?_, ?_⟩, ⟨?_, ?_⟩, m174⟩
    · rw [kR _ _ (by omega), kR _ _ (by omega), b9 i hi, b9 k hk] at e
      omega
    · rw [kR _ _ (by omega)]; exact b4
    · rw [kR _ _ (by omega)]; exact b5
    · rw [kR _ _ (by omega)]; exact b6
    · rw [kR _ _ (by omega)]; exact b11
    · rw [kR _ _ (by omega)]; exact b12
    · rw [kR _ _ (by omega)]; exact b13
    · rw [kR _ _ (by omega)]; exact b2
    · rw [kR _ _ (by omega)]; exact b3
  have hz20 : LedZ (mI M2) 20 := LedZ_cg z20 (fun x y q1 q2 => kI x y (by omega))
  have hz35 : LedZ (mI M2) 35 := LedZ_cg z35 (fun x y q1 q2 => kI x y (by omega))
  have e50 : mI M2 50 1 = 0 := by rw [kI _ _ (by omega), b7]
  have e17 : mI M2 17 2 = 0 := by rw [kI _ _ (by omega), b1 _ _ (by omega) (by omega)]
  have ehs : hs (mI M2) = 0 := by unfold hs; rw [e50, z_0]
  have emU : mU (mI M2) = 0 := by unfold mU; rw [kI4, z_0]
  have etl : tl (mI M2) = 0 := by unfold tl; rw [e17, z_0]
  have etL : tL (mI M2) = 0 := by unfold tL; rw [kI4, z_0]
  have hu : ∀ y, mI M2 175 y = if y = 452 then 3 else 0 := fun y => by
    rw [k2 175 y (by omega) (by omega)]
    by_cases z : y = 452
    · rw [if_pos ⟨rfl, z⟩, if_pos z]
    · rw [if_neg (fun q => z q.2), if_neg z]
  obtain ⟨hRL, hIV⟩ := RL_0 hz20 hu
  refine ⟨⟨hB, LedZ_D hz20, LedZ_D hz35, ⟨by rw [ehs, e50, nn_0], by omega, fun j hj => LedZ_D (LedZ_cg (b10 j hj).1 (fun x y q1 q2 => kI x y (by omega)))⟩, ⟨by rw [etl, e17, nn_0], by omega⟩⟩, ⟨hRL, hIV, ?_⟩, ⟨by rw [emU, kI4, nn_0], by omega⟩, by rw [e50, kI4], fun i hi => by omega, ⟨by rw [etL, kI4, nn_0], by omega⟩, by rw [e17, kI4], fun y hy => by omega⟩
  rw [hu, if_neg (by omega), ti_0]
  omega
set_option maxRecDepth 100000 in
set_option maxHeartbeats 4000000 in
theorem law_0 (Z : Zt) (hzn : zn Z ≤ 2560) {M : Mem} (hn : mN M = 16) : X Z 11 s_law 16 181 QL 0 [some (.ref 1), none, none, none] [] M := by
  have k16 : kd 16 = (4 + 3, cW 4) := by rfl
  have k174 : kd 174 = (5 + 3, cW 5) := by rfl
  refine X_runT (d := 10) (C := C_law) (S := S_law) (T := t_law_0) 1000 kt_law (okC_law Z) ?_
  rw [g_law_0, hn]
  refine ⟨⟨k16, by omega⟩, ?_⟩
  refine X_mkI (d := 10) (nF := 181) (av := []) (rest := [.ref 16]) okI_L4 (by omega) rfl (of_eq_true (wsum_1 _)) (ok_B_init_ Z 6 (M := al M) (by rw [mN_al, hn]) (fun y => by rw [mI_al, hn, if_pos rfl])) (by omega) (fun r M1 hq hn1 => ?_)
  obtain ⟨rfl, hq1⟩ := hq
  refine X_runT (d := 10) (C := C_law) (S := S_law) (T := t_law_7) 1000 kt_law (okC_law Z) ?_
  show run Z 181 C_law S_law _ QL 1000 t_law_7 [some (.ref 1), none, none, none] [.ref 16] M1
  rw [g_law_7, hn1]
  refine ⟨⟨k174, by omega⟩, ?_⟩
  refine X_mkI (d := 10) (nF := 181) (av := []) (rest := [.ref 174]) okI_L12 (by omega) rfl (of_eq_true (wsum_1 _)) (ok_M_init_ Z 9 (M := al M1) (by rw [mN_al, hn1])) (by omega) (fun r M2 hq hn2 => ?_)
  obtain ⟨rfl, hq2⟩ := hq
  refine X_runT (d := 10) (C := C_law) (S := S_law) (T := t_law_15) 1000 kt_law (okC_law Z) ?_
  show run Z 181 C_law S_law _ QL 1000 t_law_15 [some (.ref 1), some (.ref 16), none, none] [.ref 174] M2
  rw [g_law_15]
  exact law_go Z hzn 3000 0 M2 (by omega) (by omega) (RR_0 hq1 hq2)
