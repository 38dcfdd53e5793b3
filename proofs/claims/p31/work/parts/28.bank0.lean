/-! ===== the bank in use ===== -/
def WB (M : Mem) : Prop := BkS M ∧ LedD (mI M) 20 ∧ LedD (mI M) 35 ∧ HisD (mI M) ∧ TxD (mI M)
theorem nw_o {M : Mem} (h : BkS M) : isO M 20 2 = True := bk_O h rfl (by omega)
theorem nw_og {M : Mem} (h : BkS M) : isO M 30 0 = True := bk_O h rfl (by omega)
theorem nw_od {M : Mem} (h : BkS M) : isO M 32 0 = True := bk_O h rfl (by omega)
theorem nw_ot {M : Mem} (h : BkS M) : isO M 35 2 = True := bk_O h rfl (by omega)
theorem nw_r0 {M : Mem} (h : BkS M) : mR M 20 0 = 21 := ld_r0 (bk_now h)
theorem nw_r1 {M : Mem} (h : BkS M) : mR M 20 1 = 22 := ld_r1 (bk_now h)
theorem nw_r2 {M : Mem} (h : BkS M) : mR M 20 2 = 23 := ld_r2 (bk_now h)
theorem nw_r3 {M : Mem} (h : BkS M) : mR M 20 3 = 24 := ld_r3 (bk_now h)
theorem nw_r4 {M : Mem} (h : BkS M) : mR M 20 4 = 25 := ld_r4 (bk_now h)
theorem nw_r5 {M : Mem} (h : BkS M) : mR M 20 5 = 26 := ld_r5 (bk_now h)
theorem nw_r6 {M : Mem} (h : BkS M) : mR M 20 6 = 27 := ld_r6 (bk_now h)
theorem nw_r7 {M : Mem} (h : BkS M) : mR M 20 7 = 28 := ld_r7 (bk_now h)
theorem nw_r8 {M : Mem} (h : BkS M) : mR M 20 8 = 29 := ld_r8 (bk_now h)
theorem nw_r9 {M : Mem} (h : BkS M) : mR M 20 9 = 30 := ld_r9 (bk_now h)
theorem nw_r10 {M : Mem} (h : BkS M) : mR M 20 10 = 32 := ld_r10 (bk_now h)
theorem nw_r11 {M : Mem} (h : BkS M) : mR M 20 11 = 34 := ld_r11 (bk_now h)
theorem nw_a1 {M : Mem} (h : BkS M) {k : Nat} (hk : k < 4) : isA M 21 (nI k) = True := bk_A h (n := 4) rfl (by omega) hk (by omega)
theorem nw_a2 {M : Mem} (h : BkS M) {k : Nat} (hk : k < 4) : isA M 22 (nI k) = True := bk_A h (n := 4) rfl (by omega) hk (by omega)
theorem nw_a3 {M : Mem} (h : BkS M) {k : Nat} (hk : k < 4) : isA M 23 (nI k) = True := bk_A h (n := 4) rfl (by omega) hk (by omega)
theorem nw_a4 {M : Mem} (h : BkS M) {k : Nat} (hk : k < 6) : isA M 24 (nI k) = True := bk_A h (n := 6) rfl (by omega) hk (by omega)
theorem nw_a5 {M : Mem} (h : BkS M) {k : Nat} (hk : k < 6) : isA M 25 (nI k) = True := bk_A h (n := 6) rfl (by omega) hk (by omega)
theorem nw_a6 {M : Mem} (h : BkS M) {k : Nat} (hk : k < 6) : isA M 26 (nI k) = True := bk_A h (n := 6) rfl (by omega) hk (by omega)
theorem nw_a7 {M : Mem} (h : BkS M) {k : Nat} (hk : k < 24) : isA M 27 (nI k) = True := bk_A h (n := 24) rfl (by omega) hk (by omega)
theorem nw_a8 {M : Mem} (h : BkS M) {k : Nat} (hk : k < 24) : isA M 28 (nI k) = True := bk_A h (n := 24) rfl (by omega) hk (by omega)
theorem nw_a9 {M : Mem} (h : BkS M) {k : Nat} (hk : k < 24) : isA M 29 (nI k) = True := bk_A h (n := 24) rfl (by omega) hk (by omega)
theorem nw_a14 {M : Mem} (h : BkS M) {k : Nat} (hk : k < 6) : isA M 34 (nI k) = True := bk_A h (n := 6) rfl (by omega) hk (by omega)
theorem nw_as {M : Mem} (h : BkS M) {k : Nat} (hk : k < 24) : isA M 172 (nI k) = True := bk_A h (n := 24) rfl (by omega) hk (by omega)
theorem nw_at {M : Mem} (h : BkS M) {k : Nat} (hk : k < 6) : isA M 173 (nI k) = True := bk_A h (n := 6) rfl (by omega) hk (by omega)
theorem I_nI {v : Int32} (h : 0 ≤ v) : ∃ k, v = nI k ∧ k < 2 ^ 31 ∧ v.toNatClampNeg = k := by
  have h2 := v.toInt_lt
  have h0 : 0 ≤ v.toInt := by
    have := Int32.le_iff_toInt_le.mp h
    exact this
  refine ⟨v.toInt.toNat, ?_, by omega, ?_⟩
  · apply Int32.toInt_inj.mp
    rw [nI_toInt (by omega)]
    omega
  · rfl
theorem I_lt {v : Int32} {n : Nat} (h : 0 ≤ v) (h2 : v < nI n) (hn : n < 2 ^ 31) : ∃ k, v = nI k ∧ k < n := by
  obtain ⟨k, hk, hk2, -⟩ := I_nI h
  subst hk
  exact ⟨k, rfl, (nI_ltI hk2 hn).mp h2⟩
theorem kp_w (M : Mem) : ∃ f r, kpM M = mW (mRW M r) f := by
  unfold kpM kpM1
  split
  · exact ⟨_, mR M, rfl⟩
  · exact ⟨_, _, rfl⟩
theorem kpM1_B {M : Mem} (h : BkS M) : BkS (kpM1 M) := by
  unfold kpM1
  split
  · exact h
  · exact bk_rot h
theorem kpM1_i {M : Mem} {x y : Nat} (h : x ≠ 50) : mI (kpM1 M) x y = mI M x y := by
  unfold kpM1
  split
  · rfl
  · exact u2_ne h
theorem kpS1_le {M : Mem} (h : HisD (mI M)) : kpS1 M < 8 := by
  unfold kpS1
  split <;> omega
theorem kp_i {M : Mem} (hB : BkS M) (hH : HisD (mI M)) {x y : Nat} (h : x < 50 ∨ 171 < x) : mI (kpM M) x y = mI M x y := by
  obtain ⟨j, hj, e⟩ := bk_st (kpM1_B hB) (kpS1_le hH)
  show u2 (cfF (mI (kpM1 M)) (mR (kpM1 M) 51 (kpS1 M)) 20) 50 1 (nI (kpS1 M + 1)) x y = mI M x y
  rw [u2_ne (by omega), e, cfF_out (by omega), kpM1_i (by omega)]
theorem kp_B {M : Mem} (hB : BkS M) : BkS (kpM M) := kpM1_B hB
theorem LedD_cg {f g : Nat → Nat → Int32} {b : Nat} (h : LedD f b) (h1 : ∀ k, g b k = f b k) (h2 : ∀ k, g (b + 10) k = f (b + 10) k) (h3 : ∀ k, g (b + 12) k = f (b + 12) k) : LedD g b := LedD_congr h (h1 12) (h1 13) (h2 2) (h3 2)
theorem kp_W {M : Mem} (h : WB M) : WB (kpM M) := by
  obtain ⟨hB, hD, hD2, hH, hT⟩ := h
  have hB1 := kpM1_B hB
  obtain ⟨j, hj, e⟩ := bk_st hB1 (kpS1_le hH)
  have k := fun x y h => kp_i hB hH (x := x) (y := y) h
  have h50 : mI (kpM M) 50 1 = nI (kpS1 M + 1) := u2_eq (f := cfF (mI (kpM1 M)) (mR (kpM1 M) 51 (kpS1 M)) 20) (a := 50) (k := 1)
  have hle := kpS1_le hH
  have hhs : hs (mI (kpM M)) = kpS1 M + 1 := by unfold hs; rw [h50, nI_toN (by omega)]
  refine ⟨hB1, LedD_cg hD (fun y => k _ y (by omega)) (fun y => k _ y (by omega)) (fun y => k _ y (by omega)), LedD_cg hD2 (fun y => k _ y (by omega)) (fun y => k _ y (by omega)) (fun y => k _ y (by omega)), ⟨by rw [hhs, h50], by omega, fun i hi => ?_⟩, ?_⟩
  · have q : LedD (cfF (mI (kpM1 M)) (mR (kpM1 M) 51 (kpS1 M)) 20) (52 + 15 * i) := by
      rw [e]
      have q1 : ∀ b, b ≠ 50 → LedD (mI M) b → b + 10 ≠ 50 → b + 12 ≠ 50 → LedD (mI (kpM1 M)) b := fun b h1 h h2 h3 => LedD_cg h (fun y => kpM1_i h1) (fun y => kpM1_i h2) (fun y => kpM1_i h3)
      by_cases z : i = j
      · rw [z]
        exact cfF_D (q1 20 (by omega) hD (by omega) (by omega))
      · exact LedD_cg (q1 _ (by omega) (hH.2.2 i hi) (by omega) (by omega)) (fun y => cfF_out (by omega)) (fun y => cfF_out (by omega)) (fun y => cfF_out (by omega))
    exact LedD_cg q (fun y => u2_ne (by omega)) (fun y => u2_ne (by omega)) (fun y => u2_ne (by omega))
  · unfold TxD tl
    rw [k 17 2 (by omega)]
    exact hT
