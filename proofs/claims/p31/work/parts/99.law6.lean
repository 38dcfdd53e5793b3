/-! ===== the law: the first state ===== -/
theorem z_0 : (0 : Int32).toNatClampNeg = 0 := by decide
theorem LedZ_D {f : Nat → Nat → Int32} {b : Nat} (h : LedZ f b) : LedD f b := by
  have h0 : ∀ x y, b ≤ x → x < b + 15 → ¬ (x = b + 6) → ¬ (x = b ∧ y = 15) → f x y = 0 := fun x y h1 h2 h3 h4 => by
    rw [h x y h1 h2, if_neg (fun q => h3 q.1), if_neg h4]
  have e1 : csz f (b + 10) = 0 := by unfold csz; rw [h0 _ _ (by omega) (by omega) (by omega) (by omega), z_0]
  have e2 : csz f (b + 12) = 0 := by unfold csz; rw [h0 _ _ (by omega) (by omega) (by omega) (by omega), z_0]
  have e3 : lnT f b = 0 := by unfold lnT; rw [h0 _ _ (by omega) (by omega) (by omega) (by omega), z_0]
  have e4 : lnB f b = 0 := by unfold lnB; rw [h0 _ _ (by omega) (by omega) (by omega) (by omega), z_0]
  refine ⟨?_, by omega, ?_, by omega, ?_, by omega, ?_, by omega⟩
  · rw [e1, h0 _ _ (by omega) (by omega) (by omega) (by omega), nn_0]
  · rw [e2, h0 _ _ (by omega) (by omega) (by omega) (by omega), nn_0]
  · rw [e3, h0 _ _ (by omega) (by omega) (by omega) (by omega), nn_0]
  · rw [e4, h0 _ _ (by omega) (by omega) (by omega) (by omega), nn_0]
theorem RL_0 {f : Nat → Nat → Int32} {b : Nat} {u : Nat → Int32} (h : LedZ f b) (hu : ∀ y, u y = if y = 452 then 3 else 0) : RL f b u ∧ IV u 0 := by
  have h0 : ∀ x y, b ≤ x → x < b + 15 → ¬ (x = b + 6) → ¬ (x = b ∧ y = 15) → f x y = 0 := fun x y h1 h2 h3 h4 => by
    rw [h x y h1 h2, if_neg (fun q => h3 q.1), if_neg h4]
  have u0 : ∀ y, y ≠ 452 → u y = 0 := fun y hy => by rw [hu, if_neg hy]
  have eT : uT u = 0 := by unfold uT; rw [u0 _ (by omega), z_0]
  have eG : uG u = 0 := by unfold uG; rw [u0 _ (by omega), z_0]
  have eD : uD u = 0 := by unfold uD; rw [u0 _ (by omega), z_0]
  have eB : uB u = 0 := by unfold uB; rw [u0 _ (by omega), z_0]
  have eU : ∀ r t, usU u r t = 0 := fun r t => by
    unfold usU
    rw [eG, usP, nn_0]
  refine ⟨⟨fun r hr => ?_, fun t ht => by omega, ⟨?_, fun k hk => by omega⟩, ⟨?_, fun k hk => by omega⟩, fun k hk => by omega, fun r hr => ⟨?_, fun t ht => by omega⟩, ⟨?_, ?_, ?_, ?_, ?_, ?_⟩, fun t _ ht => ⟨?_, ?_, fun r hr => ⟨?_, ?_, ?_⟩⟩⟩, ⟨⟨?_, by omega⟩, ⟨?_, by omega⟩, ⟨?_, by omega⟩, ⟨?_, by omega⟩⟩, ⟨?_, fun k hk => by omega⟩, fun r hr => ?_, fun t ht => by omega, fun k hk => by omega, fun k hk => by omega, ⟨fun k hk => by omega, fun j k hj => by omega⟩, fun t ht => by omega, ?_⟩
  · rw [h0 _ _ (by omega) (by omega) (by omega) (by omega), h0 _ _ (by omega) (by omega) (by omega) (by omega), u0 _ (by omega), u0 _ (by omega)]
    exact ⟨rfl, rfl⟩
  · rw [h0 _ _ (by omega) (by omega) (by omega) (by omega), u0 _ (by omega)]
  · rw [h0 _ _ (by omega) (by omega) (by omega) (by omega), u0 _ (by omega)]
  · rw [h0 _ _ (by omega) (by omega) (by omega) (by omega), eU]
  · rw [h0 _ _ (by omega) (by omega) (by omega) (by omega), u0 _ (by omega)]
  · rw [h0 _ _ (by omega) (by omega) (by omega) (by omega), u0 _ (by omega)]
  · rw [h0 _ _ (by omega) (by omega) (by omega) (by omega), u0 _ (by omega)]
  · rw [h _ _ (by omega) (by omega), if_neg (by omega), if_pos ⟨rfl, rfl⟩, hu, if_pos rfl]
  · rw [h0 _ _ (by omega) (by omega) (by omega) (by omega), u0 _ (by omega)]
  · rw [h0 _ _ (by omega) (by omega) (by omega) (by omega), u0 _ (by omega)]
  · rw [h0 _ _ (by omega) (by omega) (by omega) (by omega)]
  · rw [h _ _ (by omega) (by omega), if_pos ⟨rfl, ht⟩]
  · rw [h0 _ _ (by omega) (by omega) (by omega) (by omega)]
  · rw [h0 _ _ (by omega) (by omega) (by omega) (by omega)]
  · rw [h0 _ _ (by omega) (by omega) (by omega) (by omega)]
  · rw [eT, u0 _ (by omega), nn_0]
  · rw [eG, u0 _ (by omega), nn_0]
  · rw [eD, u0 _ (by omega), nn_0]
  · rw [eB, u0 _ (by omega), nn_0]
  · rw [eB, eT]
    exact Nat.le_refl _
  · rw [u0 _ (by omega), ti_0]
    omega
  · unfold IT
    rw [eD, u0 446 (by omega), u0 451 (by omega), hu 452, if_pos rfl, ti_0, (show (3 : Int32).toInt = 3 by decide)]
    omega
/-- before the k-th tenant comes -/
def LpA (j : Nat) (M : Mem) : Prop := PI_ M ∧ mN M = 177 ∧ kaM M ≤ 0 ∧ aT (mI M 174) = j
theorem un_0 {r : Nat} (h : r < 4) : unV 0 r = 0 := by
  have := un_pk (w := 0) (r := r) (by omega) h
  rw [Nat.zero_div, Nat.zero_mod] at this
  exact this
theorem ow_0 : owV 0 = 0 := by decide
def a46 : Nat → Int32 := fun y => if y = 46 then nI 3 else 0
theorem a46_0 {y : Nat} (h : ¬ y = 46) : a46 y = 0 := if_neg h
theorem U_0 (y : Nat) : Uw a46 (fun _ => 0) (fun _ => 0) y = if y = 452 then 3 else 0 := by
  unfold Uw
  by_cases h1 : y < 44
  · rw [if_pos h1, if_neg (show ¬ y = 452 by omega), a46_0 (by omega)]
  · rw [if_neg h1]
    by_cases h2 : y < 80
    · rw [if_pos h2, if_neg (show ¬ y = 452 by omega)]
      rfl
    · rw [if_neg h2]
      by_cases h3 : y < 320
      · rw [if_pos h3, if_neg (show ¬ y = 452 by omega)]
        by_cases z : (y - 80) % 6 = 0
        · rw [if_pos z]
        · rw [if_neg z]
          by_cases z5 : (y - 80) % 6 = 5
          · rw [if_pos z5, ow_0]
          · rw [if_neg z5, un_0 (by omega)]
      · rw [if_neg h3]
        by_cases h4 : y < 440
        · rw [if_pos h4, if_neg (show ¬ y = 452 by omega)]
          by_cases z : (y - 320) % 5 = 4
          · rw [if_pos z, ow_0]
          · rw [if_neg z, un_0 (by omega)]
        · rw [if_neg h4]
          by_cases h5 : y < 446
          · rw [if_pos h5, if_neg (show ¬ y = 452 by omega), a46_0 (by omega)]
          · rw [if_neg h5]
            by_cases q0 : y = 446
            · rw [if_pos q0, if_neg (show ¬ y = 452 by omega), a46_0 (by omega)]
            rw [if_neg q0]
            by_cases q1 : y = 447
            · rw [if_pos q1, if_neg (show ¬ y = 452 by omega), a46_0 (by omega)]
            rw [if_neg q1]
            by_cases q2 : y = 448
            · rw [if_pos q2, if_neg (show ¬ y = 452 by omega)]
            rw [if_neg q2]
            by_cases q3 : y = 449
            · rw [if_pos q3, if_neg (show ¬ y = 452 by omega)]
            rw [if_neg q3]
            by_cases q4 : y = 450
            · rw [if_pos q4, if_neg (show ¬ y = 452 by omega), a46_0 (by omega)]
            rw [if_neg q4]
            by_cases q5 : y = 451
            · rw [if_pos q5, if_neg (show ¬ y = 452 by omega), a46_0 (by omega)]
            rw [if_neg q5]
            by_cases q6 : y = 452
            · rw [if_pos q6, if_pos q6]
              rfl
            · rw [if_neg q6, if_neg q6, a46_0 (by omega)]
theorem PI_0 {M1 M2 : Mem} (h1 : BQ M1) (hn2 : mN M2 = 177) (kI : ∀ x y, x < 174 → mI M2 x y = mI M1 x y) (kR : ∀ x y, x < 174 → mR M2 x y = mR M1 x y) (ea : mI M2 174 = a46) (eg : mI M2 175 = fun _ => 0) (ey : mI M2 176 = fun _ => 0) : LpA 0 M2 ∧ hs (mI M2) = 0 ∧ wn (mI M2 175) = 0 ∧ wn (mI M2 176) = 0 := by
  obtain ⟨⟨⟨⟨⟨b1, b2, b3⟩, b4, z20, r20⟩, b5, z35, r35⟩, b6, b7, b8, b9, b10⟩, hn1, b11, b12, b13, b14⟩ := h1
  have s20 : LedS M2 20 := LedS_of (LedR_cg r20 (fun x y q1 q2 => kR x y (by omega))) LdK_20 (by omega)
  have s35 : LedS M2 35 := LedS_of (LedR_cg r35 (fun x y q1 q2 => kR x y (by omega))) LdK_35 (by omega)
  have hB : BkS M2 := by
    refine ⟨by omega, s20, s35, fun j hj => LedS_of (LedR_cg (b10 j hj).2 (fun x y q1 q2 => kR x y (by omega))) (LdK_h hj) (by omega), by rw [kR _ _ (by omega)]; exact b8, fun i hi => ⟨i, hi, by rw [kR _ _ (by omega)]; exact b9 i hi⟩, fun i k hi hk e => ?_, ⟨?_, ?_, ?_, ?_, ?_, ?_⟩, ⟨?_, ?_⟩⟩
    · rw [kR _ _ (by omega), kR _ _ (by omega), b9 i hi, b9 k hk] at e
      omega
    · rw [kR _ _ (by omega)]; exact b4
    · rw [kR _ _ (by omega)]; exact b5
    · rw [kR _ _ (by omega)]; exact b6
    · rw [kR _ _ (by omega)]; exact b11
    · rw [kR _ _ (by omega)]; exact b12
    · rw [kR _ _ (by omega)]; exact b13
    · rw [kR _ _ (by omega)]; exact b2
    · rw [kR _ _ (by omega)]; exact b3
  have hz20 : LedZ (mI M2) 20 := LedZ_cg z20 (fun x y q1 q2 => kI x y (by omega))
  have hz35 : LedZ (mI M2) 35 := LedZ_cg z35 (fun x y q1 q2 => kI x y (by omega))
  have e50 : mI M2 50 1 = 0 := by rw [kI _ _ (by omega), b7]
  have e17 : mI M2 17 2 = 0 := by rw [kI _ _ (by omega), b1 _ _ (by omega) (by omega)]
  have ehs : hs (mI M2) = 0 := by unfold hs; rw [e50, z_0]
  have etl : tl (mI M2) = 0 := by unfold tl; rw [e17, z_0]
  have hW : WB M2 := ⟨hB, LedZ_D hz20, LedZ_D hz35, ⟨by rw [ehs, e50, nn_0], by omega, fun j hj => LedZ_D (LedZ_cg (b10 j hj).1 (fun x y q1 q2 => kI x y (by omega)))⟩, ⟨by rw [etl, e17, nn_0], by omega⟩⟩
  have hu : ∀ y, UM M2 y = if y = 452 then 3 else 0 := fun y => by
    unfold UM
    rw [ea, eg, ey]
    exact U_0 y
  obtain ⟨hRL, hIV⟩ := RL_0 hz20 hu
  have hk := ka_le hIV
  have ew : wn (fun _ => (0 : Int32)) = 0 := z_0
  have eT : aT a46 = 0 := z_0
  have hIV2 := IV_ka hIV
  refine ⟨⟨⟨hW, hRL, hIV2, ?_, by omega, ?_⟩, hn2, hk, by rw [ea]; exact eT⟩, ehs, by rw [eg]; exact ew, by rw [ey]; exact ew⟩
  · rw [ea, eg]
    refine ⟨by rw [eT]; omega, rfl, rfl, rfl, ?_, fun j k hj hk => ?_, fun k hk => ?_⟩
    · rw [ew]
      decide
    · rw [ew] at hk
      omega
    · rw [ew] at hk
      omega
  · unfold kaM
    omega
section Fs
variable {M : Mem}
theorem PI_pl (hP : PI_ M) (i : Int32) : PI_ (plM M i) ∧ rowsT (plM M i) = rowsT M ∧ mN (plM M i) = mN M := by
  unfold plM
  by_cases q : i < -1
  · rw [if_pos q]
    exact ⟨hP, rfl, rfl⟩
  · rw [if_neg q]
    have o : ∀ x, 173 < x → plG (mI M) x = mI M x := fun x hx => funext fun y => plG_o (by omega) (by omega)
    have eU : UM (mW M (plG (mI M))) = UM M := by
      unfold UM
      rw [mI_mW, o _ (by omega), o _ (by omega), o _ (by omega)]
    obtain ⟨p1, p2, p3, p4, p5, p6⟩ := hP
    refine ⟨⟨WB_pl p1, ?_, ?_, ?_, p5, ?_⟩, ?_, rfl⟩
    · rw [eU]
      exact RL_fg p2 (fun i y hi => plG_o (by omega) (by omega))
    · unfold kaM
      rw [eU]
      exact p3
    · rw [mI_mW, o _ (by omega), o _ (by omega)]
      exact p4
    · unfold kaM
      rw [eU]
      exact p6
    · unfold rowsT
      rw [mI_mW, o _ (by omega), o _ (by omega), o _ (by omega)]
theorem fs_gr (hP : PI_ M) (hT : aT (mI M 174) = 0) : gtR (mI M) = -1000001 ∧ gtM M = M := by
  have e : ndF (mI M) 20 = -1 := by
    have h : ndF (mI M) 20 = nxW (mI M 174) (mI M 175) (mI M 176) := nd_L hP.2.1 hP.2.2.1 hP.T3
    rw [h]
    unfold nxW
    rw [hT]
    rfl
  obtain ⟨g1, g2, -, -⟩ := co_grant_n e
  exact ⟨g1, g2⟩
theorem fs_vT (hP : PI_ M) (hT : aT (mI M 174) = 0) : ¬ vT (mI M) (nI 0) := by
  have e : lnT (mI M) 20 = aT (mI M 174) := rl_T hP.2.1
  unfold vT
  rw [e, hT]
  decide
theorem fs_dm (hP : PI_ M) (hT : aT (mI M 174) = 0) : dmR (mI M) (nI 0) = -1000000 ∧ dmM M (nI 0) = M := by
  have h := fs_vT hP hT
  unfold dmR dmM
  rw [if_neg h, if_neg h]
  exact ⟨rfl, rfl⟩
theorem fs_wd (hP : PI_ M) (hT : aT (mI M 174) = 0) : wdR (mI M) (nI 0) = -1000000 ∧ wdM M (nI 0) = M := by
  have h := fs_vT hP hT
  unfold wdR wdM
  rw [if_neg h, if_neg (fun q => h q.1)]
  exact ⟨rfl, rfl⟩
theorem fs_ud (h : hs (mI M) = 0) : udR (mI M) = -1000001 ∧ rsM M = M := by
  unfold udR rsM
  rw [if_pos h, if_pos h]
  exact ⟨rfl, rfl⟩
theorem fs_pl (hP : PI_ M) (hw : wn (mI M 176) = 0) : plR (mI M) (-1) = nI 0 := by
  have hL : RL (mI M) 20 (tU (rowsT M)) := hP.2.1
  obtain ⟨n, e, -, hq⟩ := pl_tS hL hP.TI_
  rw [plR_m1, e]
  rcases Nat.eq_zero_or_pos n with z | z
  · rw [z]
  · obtain ⟨k, hk, -⟩ := hq 0 z
    have hk' : k < wn (mI M 176) := hk
    omega
end Fs
