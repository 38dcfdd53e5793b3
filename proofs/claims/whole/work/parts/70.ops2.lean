/-! ===== a new tenant; exchange, borrow, repay ===== -/
theorem sm_0 : ∀ n, sm (fun _ => 0) n = 0
  | 0 => rfl
  | n + 1 => by
    rw [sm, sm_0 n]
    rfl
theorem us_0 {u : Nat → Int32} {r T : Nat} (hT : T < 2 ^ 31) (h : ∀ k, k < uG u → ¬ u (80 + 6 * k + 5) = nI T) : usU u r (nI T) = 0 := by
  rw [usU_sm, sm_cg (h := fun _ => 0) _ (fun k hk => ?_)]
  · exact sm_0 _
  · unfold usT
    rw [if_neg (nI_neN hT), if_neg (h k hk), nn_0]
section At
variable {f : Nat → Nat → Int32} {b c : Nat} {u : Nat → Int32} {n : Int32}
theorem at_o {t y : Nat} {n : Int32} (h : y < 8 + 12 * t ∨ 8 + 12 * t + 12 ≤ y) (h2 : y ≠ 447) : uatG u n y = atP u (uT u) n 12 y := by
  unfold uatG
  exact up_ne h2
theorem uat_o {y : Nat} (h : y < 8 + 12 * uT u ∨ 8 + 12 * uT u + 12 ≤ y) (h2 : y ≠ 447) : uatG u n y = u y := by
  unfold uatG atP
  rw [up_ne h2, if_neg (by omega)]
theorem uat_i {k : Nat} (hk : k < 12) (hT : uT u < 6) : uatG u n (8 + 12 * uT u + k) = if k = 0 then n else if k = 2 then -1000003 else if k = 3 then nI 1 else nI 0 := by
  unfold uatG atP
  rw [up_ne (by omega), if_pos (by omega)]
  by_cases z : k = 0
  · rw [if_pos (by omega), if_pos z]
  · rw [if_neg (by omega), if_neg z]
    by_cases z2 : k = 2
    · rw [if_pos (by omega), if_pos z2]
    · rw [if_neg (by omega), if_neg z2]
      by_cases z3 : k = 3
      · rw [if_pos (by omega), if_pos z3]
      · rw [if_neg (by omega), if_neg z3]
theorem uat_T (hT : uT u < 6) : uT (uatG u n) = uT u + 1 := by
  exact tN_of (show uatG u n 447 = nI (uT u + 1) from up_at _ _ _) (by omega)
theorem uat_0 (hT : uT u < 6) : uatG u n (8 + 12 * uT u) = n := by
  unfold uatG atP
  rw [up_ne (by omega), if_pos (by omega), if_pos rfl]
theorem uat_n (hT : uT u < 6) : uG (uatG u n) = uG u ∧ uD (uatG u n) = uD u ∧ uB (uatG u n) = uB u := by
  refine ⟨?_, ?_, ?_⟩
  · unfold uG
    rw [uat_o (by omega) (by omega)]
  · unfold uD
    rw [uat_o (by omega) (by omega)]
  · unfold uB
    rw [uat_o (by omega) (by omega)]
theorem RL_at (h : RL f b u) (hi : IV u c) (hT : uT u < 6) : RL (u2 (u2 f (b + 4) (uT u) n) b 13 (nI (uT u + 1))) b (uatG u n) := by
  have m2 := hi.1.2.1.2
  have m3 := hi.1.2.2.1.2
  have m4 := hi.1.2.2.2.2
  obtain ⟨e2, e3, e4⟩ := uat_n (n := n) hT
  have eT := uat_T (n := n) hT
  obtain ⟨h1, h2, h3, h4, h5, h6, h7, h8⟩ := h
  have hx : ∀ x y, ¬ (x = b ∧ y = 13) → ¬ (x = b + 4 ∧ y = uT u) → u2 (u2 f (b + 4) (uT u) n) b 13 (nI (uT u + 1)) x y = f x y := fun x y q1 q2 => by rw [u2_nn q1, u2_nn q2]
  have eus : ∀ r t, r < 4 → usU (uatG u n) r t = usU u r t := fun r t hr => us_cg hr (uat_o (by omega) (by omega)) (fun k j hk hj => uat_o (by omega) (by omega))
  refine ⟨fun r hr => ?_, fun t ht => ?_, ⟨?_, fun k hk => ⟨?_, fun j hj => ?_⟩⟩, ⟨?_, fun k hk j hj => ?_⟩, fun k hk => ?_, fun r hr => ⟨?_, fun t ht => ?_⟩, ⟨?_, ?_, ?_, ?_, ?_, ?_⟩, fun t ht ht2 => ?_⟩
  · rw [hx _ _ (by omega) (by omega), hx _ _ (by omega) (by omega), uat_o (by omega) (by omega), uat_o (by omega) (by omega)]
    exact h1 r hr
  · rw [eT] at ht
    by_cases z : t = uT u
    · subst z
      rw [hx (b + 5) _ (by omega) (by omega), hx (b + 6) _ (by omega) (by omega), u2_nn (by omega), u2_eq, uat_0 hT, uat_i (by omega) hT, uat_i (by omega) hT]
      have q := h8 (uT u) (Nat.le_refl _) hT
      refine ⟨rfl, q.1, q.2.1, fun r hr => ?_⟩
      rw [hx _ _ (by omega) (by omega), hx _ _ (by omega) (by omega), uat_i (by omega) hT, uat_i (by omega) hT, if_neg (by omega), if_neg (by omega), if_neg (by omega), if_neg (by omega), if_neg (by omega), if_neg (by omega)]
      exact ⟨(q.2.2 r hr).1, (q.2.2 r hr).2.1⟩
    · rw [hx _ _ (by omega) (by omega), hx _ _ (by omega) (by omega), hx _ _ (by omega) (by omega), uat_o (by omega) (by omega), uat_o (by omega) (by omega), uat_o (by omega) (by omega)]
      have q := h2 t (by omega)
      refine ⟨q.1, q.2.1, q.2.2.1, fun r hr => ?_⟩
      rw [hx _ _ (by omega) (by omega), hx _ _ (by omega) (by omega), uat_o (by omega) (by omega), uat_o (by omega) (by omega)]
      exact q.2.2.2 r hr
  · rw [hx _ _ (by omega) (by omega), uat_o (by omega) (by omega)]
    exact h3.1
  · rw [e2] at hk
    rw [hx _ _ (by omega) (by omega), uat_o (by omega) (by omega)]
    exact (h3.2 k hk).1
  · rw [e2] at hk
    rw [hx _ _ (by omega) (by omega), uat_o (by omega) (by omega)]
    exact (h3.2 k hk).2 j hj
  · rw [hx _ _ (by omega) (by omega), uat_o (by omega) (by omega)]
    exact h4.1
  · rw [e3] at hk
    rw [hx _ _ (by omega) (by omega), uat_o (by omega) (by omega)]
    exact h4.2 k hk j hj
  · rw [e4] at hk
    rw [hx _ _ (by omega) (by omega), uat_o (by omega) (by omega)]
    exact h5 k hk
  · rw [hx _ _ (by omega) (by omega), eus _ _ hr]
    exact (h6 r hr).1
  · rw [eT] at ht
    rw [hx _ _ (by omega) (by omega), eus _ _ hr]
    by_cases z : t = uT u
    · subst z
      rw [us_0 (by omega) (fun k hk e => ?_)]
      · exact ((h8 (uT u) (Nat.le_refl _) hT).2.2 r hr).2.2
      · obtain ⟨q, hq, e5⟩ := (hi.2.2.2.2.1 k hk).2.2
        rw [e5, nI_eq (by omega) (by omega)] at e
        omega
    · exact (h6 r hr).2 t (by omega)
  · rw [hx _ _ (by omega) (by omega), uat_o (by omega) (by omega)]
    exact h7.1
  · rw [u2_eq]
    unfold uatG
    rw [up_at]
  · rw [hx _ _ (by omega) (by omega), uat_o (by omega) (by omega)]
    exact h7.2.2.1
  · rw [hx _ _ (by omega) (by omega), uat_o (by omega) (by omega)]
    exact h7.2.2.2.1
  · rw [hx _ _ (by omega) (by omega), uat_o (by omega) (by omega)]
    exact h7.2.2.2.2.1
  · rw [hx _ _ (by omega) (by omega), uat_o (by omega) (by omega)]
    exact h7.2.2.2.2.2
  · rw [eT] at ht
    rw [hx _ _ (by omega) (by omega), hx _ _ (by omega) (by omega)]
    have q := h8 t (by omega) ht2
    refine ⟨q.1, q.2.1, fun r hr => ?_⟩
    rw [hx _ _ (by omega) (by omega), hx _ _ (by omega) (by omega), hx _ _ (by omega) (by omega)]
    exact q.2.2 r hr
theorem IV_at (hi : IV u c) (hT : uT u < 6) (h1 : 1 ≤ n.toInt) (h2 : n.toInt ≤ 9) : IV (uatG u n) c := by
  have m2 := hi.1.2.1.2
  have m3 := hi.1.2.2.1.2
  have m4 := hi.1.2.2.2.2
  obtain ⟨e2, e3, e4⟩ := uat_n (n := n) hT
  have eT := uat_T (n := n) hT
  obtain ⟨i1, i2, i3, i4, i5, i6, i7, i8, i9⟩ := hi
  refine ⟨MdD_t (s := uT u + 1) i1 (by unfold uatG; exact up_at _ _ _) (by omega) (uat_o (by omega) (by omega)) (uat_o (by omega) (by omega)) (uat_o (by omega) (by omega)), ⟨?_, fun k hk => ?_⟩, fun r hr => ?_, fun t ht => ?_, fun k hk => ?_, fun k hk => ?_, ⟨fun k hk => ?_, fun j k hj hk => ?_⟩, fun t ht => ?_, ?_⟩
  · rw [eT, e4]
    have q := i2.1
    unfold slU at q ⊢
    have e : fcnt (fun t => uatG u n (8 + 12 * t + 3) = nI 1) (uT u + 1) ≤ fcnt (fun t => uatG u n (8 + 12 * t + 3) = nI 1) (uT u) + 1 := by
      rw [fcnt]
      by_cases z : uatG u n (8 + 12 * uT u + 3) = nI 1
      · rw [if_pos z]
        exact Nat.le_refl _
      · rw [if_neg z]
        exact Nat.le_succ _
    have e5 : fcnt (fun t => uatG u n (8 + 12 * t + 3) = nI 1) (uT u) = fcnt (fun t => u (8 + 12 * t + 3) = nI 1) (uT u) := fcnt_cg _ (fun k hk => by rw [uat_o (by omega) (by omega)])
    omega
  · rw [e4] at hk
    rw [uat_o (by omega) (by omega)]
    exact i2.2 k hk
  · rw [uat_o (by omega) (by omega)]
    exact i3 r hr
  · rw [eT] at ht
    by_cases z : t = uT u
    · subst z
      rw [uat_0 hT, uat_i (by omega) hT, uat_o (y := 446) (by omega) (by omega)]
      refine ⟨⟨h1, h2⟩, ?_, fun r hr => ?_⟩
      · rw [if_neg (by omega), if_pos rfl, ti_N]
        have := i9.1
        omega
      · rw [uat_i (by omega) hT, uat_i (by omega) hT, if_neg (by omega), if_neg (by omega), if_neg (by omega), if_neg (by omega), if_neg (by omega), if_neg (by omega), nn_0, ti_0]
        omega
    · rw [uat_o (by omega) (by omega), uat_o (by omega) (by omega), uat_o (y := 446) (by omega) (by omega)]
      have q := i4 t (by omega)
      refine ⟨q.1, q.2.1, fun r hr => ?_⟩
      rw [uat_o (by omega) (by omega), uat_o (by omega) (by omega)]
      exact q.2.2 r hr
  · rw [e2] at hk
    rw [eT, uat_o (by omega) (by omega), uat_o (by omega) (by omega)]
    obtain ⟨q1, q2, q, q3, q4⟩ := i5 k hk
    refine ⟨q1, fun r hr => ?_, q, by omega, q4⟩
    rw [uat_o (by omega) (by omega)]
    exact q2 r hr
  · rw [e3] at hk
    rw [eT, uat_o (by omega) (by omega)]
    obtain ⟨q2, q, q3, q4⟩ := i6 k hk
    refine ⟨fun r hr => ?_, q, by omega, q4⟩
    rw [uat_o (by omega) (by omega)]
    exact q2 r hr
  · rw [e4] at hk
    rw [eT, uat_o (by omega) (by omega)]
    obtain ⟨q, q3, q4⟩ := i7.1 k hk
    exact ⟨q, by omega, q4⟩
  · rw [e4] at hj hk
    rw [uat_o (by omega) (by omega), uat_o (by omega) (by omega)]
    exact i7.2 j k hj hk
  · rw [eT] at ht
    rw [e4]
    by_cases z : t = uT u
    · subst z
      refine Or.inr ⟨by rw [uat_i (by omega) hT]; rfl, fun k hk e => ?_⟩
      rw [uat_o (by omega) (by omega)] at e
      obtain ⟨q, q3, q4⟩ := i7.1 k hk
      rw [q4, nI_eq (by omega) (by omega)] at e
      omega
    · rw [uat_o (by omega) (by omega)]
      rcases i8 t (by omega) with ⟨q, k, hk, e⟩ | ⟨q, e⟩
      · exact Or.inl ⟨q, k, hk, by rw [uat_o (by omega) (by omega)]; exact e⟩
      · exact Or.inr ⟨q, fun k hk => by rw [uat_o (by omega) (by omega)]; exact e k hk⟩
  · unfold IT at i9 ⊢
    rw [e3, uat_o (by omega) (by omega), uat_o (by omega) (by omega), uat_o (by omega) (by omega)]
    exact i9
end At
section St
variable {c : Nat} {M : Mem}
theorem st_addTenant (h : RR c M) (n : Int32) : atR (mI M) n = uatR (mI (atM M n) 175) n ∧ RR (c + 1) (mW (atM M n) (uatM (mI (atM M n)) n)) := by
  have hX := h.2.1
  have hk := kp_X h
  have m1 := hX.2.1.1.1.2
  unfold atR uatR atM uatM
  rw [rl_T hX.1, nn_1, nn_9]
  by_cases q : 1 ≤ n ∧ n ≤ 9
  · have q2 := q
    rw [fa_le', fa_le', ti_1, ti_9] at q2
    by_cases z : uT (mI M 175) < 6
    · have e5 : mI (mW (kpM M) (u2 (u2 (mI (kpM M)) 24 (uT (mI M 175)) n) 20 13 (nI (uT (mI M 175) + 1)))) 175 = mI M 175 := c_175 h (fun y => by rw [u2_ne (by omega), u2_ne (by omega)])
      simp only [if_pos q, if_pos z, if_pos (And.intro q z), e5, if_neg (show ¬ uT (mI M 175) = 6 by omega), if_pos (And.intro q (show ¬ uT (mI M 175) = 6 by omega))]
      exact ⟨trivial, kp_RR h (fun x y z => by rw [u2_ne (by omega), u2_ne (by omega)]) ⟨RL_at hk.1 hk.2.1 z, IV_at hk.2.1 z q2.1 q2.2⟩ (uat_o (by omega) (by omega))⟩
    · simp only [if_pos q, if_neg z, if_neg (fun y : (1 ≤ n ∧ n ≤ 9) ∧ uT (mI M 175) < 6 => z y.2), if_pos (show uT (mI M 175) = 6 by omega), if_neg (fun y : (1 ≤ n ∧ n ≤ 9) ∧ ¬ uT (mI M 175) = 6 => z (by omega))]
      exact ⟨trivial, RR_up h⟩
  · simp only [if_neg q, if_neg (fun y : (1 ≤ n ∧ n ≤ 9) ∧ uT (mI M 175) < 6 => q y.1), if_neg (fun y : (1 ≤ n ∧ n ≤ 9) ∧ ¬ uT (mI M 175) = 6 => q y.1)]
    exact ⟨trivial, RR_up h⟩
theorem u_lo {u : Nat → Int32} {c t : Nat} (hi : IV u c) (ht : t < uT u) : ∀ n, n ≤ 4 → 0 ≤ (loU u t n).toInt ∧ (loU u t n).toInt ≤ 9999 * n
  | 0, _ => by rw [loU, nn_0, ti_0]; omega
  | n + 1, hn => by
    have ih := u_lo hi ht n (by omega)
    have q := (hi.2.2.2.1 t ht).2.2 n (by omega)
    rw [loU, ti_add (by omega) (by omega)]
    omega
theorem st_borrow (h : RR c M) (t r n : Int32) : boR (mI M) t r n = uoR (mI (boM M t r n) 175) t r n ∧ RR (c + 1) (mW (boM M t r n) (uoM (mI (boM M t r n)) t r n)) := by
  have hX := h.2.1
  have hk := kp_X h
  unfold boR uoR boM uoM boC uoC vT uV
  rw [rl_T hX.1, nn_1, nn_999]
  by_cases q : (0 ≤ t ∧ t < nI (uT (mI M 175))) ∧ vR r ∧ 1 ≤ n ∧ n ≤ 999
  · obtain ⟨k, e, hk6, ek⟩ := uVk hX.2.1.1 q.1
    obtain ⟨j, e2, hj4, ej⟩ := vRk q.2.1
    have m1 := hX.2.1.1.1.2
    have q2 := q.2.2
    rw [fa_le', fa_le', ti_1, ti_999] at q2
    simp only [if_pos q]
    rw [ek, ej]
    have a0 := hX.1.2.1 k hk6
    have a2 : mI M 28 (k * 4 + j) = mI M 175 (8 + 12 * k + (8 + j)) := (a0.2.2.2 j hj4).2
    have a3 : mI M 27 (k * 4 + j) = mI M 175 (8 + 12 * k + (4 + j)) := (a0.2.2.2 j hj4).1
    have a4 : mI M 22 j = mI M 175 (4 + j) := (hX.1.1 j hj4).2
    have a5 : mI M 24 k = mI M 175 (8 + 12 * k) := a0.1
    have a6 := rl_lo hX.1 hk6 4 (Nat.le_refl _)
    have hbd := (hX.2.1.2.2.2.1 k hk6).2.2 j hj4
    unfold boQ uoQ boN uoN boS uoS
    rw [a2, a3, a4, a5, a6, nn_10, nn_9999]
    have eb : isB (mI M) 20 (nI k) = (mI M 175 (8 + 12 * k + 3) = nI 0) := propext (rl_isB hX.1 hX.2.1 hk6)
    by_cases z : mI M 175 (8 + 12 * k + 3) = nI 0 ∨ mI M 175 (4 + j) < n ∨ ¬ loU (mI M 175) k 4 + n ≤ 10 * mI M 175 (8 + 12 * k)
    · have z' : isB (mI M) 20 (nI k) ∨ mI M 175 (4 + j) < n ∨ ¬ loU (mI M 175) k 4 + n ≤ 10 * mI M 175 (8 + 12 * k) := by rw [eb]; exact z
      simp only [if_pos z', if_pos z, if_pos (Or.inl z'), if_pos (Or.inl z), if_pos q]
      exact ⟨trivial, RR_up h⟩
    · have z' : ¬ (isB (mI M) 20 (nI k) ∨ mI M 175 (4 + j) < n ∨ ¬ loU (mI M 175) k 4 + n ≤ 10 * mI M 175 (8 + 12 * k)) := by rw [eb]; exact z
      by_cases z2 : mI M 175 (8 + 12 * k + (4 + j)) + n ≤ 9999
      · have g1 : ∀ x y, x < 50 → mI (kpM M) x y = mI M x y := fun x y hx => kp_i h.1.1 h.1.2.2.2.1 (by omega)
        rw [g1 22 j (by omega), g1 27 _ (by omega), g1 28 _ (by omega), a2, a3, a4]
        have e5 : mI (mW (kpM M) (u2 (u2 (u2 (mI (kpM M)) 22 j (mI M 175 (4 + j) - n)) 27 (k * 4 + j) (mI M 175 (8 + 12 * k + (4 + j)) + n)) 28 (k * 4 + j) (mI M 175 (8 + 12 * k + (8 + j)) + n))) 175 = mI M 175 := c_175 h (fun y => by rw [u2_ne (by omega), u2_ne (by omega), u2_ne (by omega)])
        have z3 : ¬ ((mI M 175 (8 + 12 * k + 3) = nI 0 ∨ mI M 175 (4 + j) < n ∨ ¬ loU (mI M 175) k 4 + n ≤ 10 * mI M 175 (8 + 12 * k)) ∨ ¬ mI M 175 (8 + 12 * k + (4 + j)) + n ≤ 9999) := fun y => y.elim z (fun y => y z2)
        have z3' : ¬ ((isB (mI M) 20 (nI k) ∨ mI M 175 (4 + j) < n ∨ ¬ loU (mI M 175) k 4 + n ≤ 10 * mI M 175 (8 + 12 * k)) ∨ ¬ mI M 175 (8 + 12 * k + (4 + j)) + n ≤ 9999) := fun y => y.elim z' (fun y => y z2)
        rw [if_neg z', if_pos z2, if_neg z3', e5, if_pos q, if_neg z, if_pos z2, if_pos q, if_neg z3]
        refine ⟨rfl, ?_⟩
        unfold uoG
        rw [fa_le', ti_9999, ti_add (by omega) (by omega)] at z2
        have s1 := RL_fund (v := mI M 175 (4 + j) - n) hk.1 hk.2.1.1 hj4
        have d1 : MdD (upF (mI M 175) (4 + j) (mI M 175 (4 + j) - n)) := MdD_up hk.2.1.1 (by omega)
        have s2 := RL_acc (i := 7) (t := k) (r := j) (v := mI M 175 (8 + 12 * k + (4 + j)) + n) s1 d1 (by rw [uT_up (by omega)]; exact hk6) hj4 (by omega)
        have s3 := RL_acc (i := 8) (t := k) (r := j) (v := mI M 175 (8 + 12 * k + (8 + j)) + n) s2 (MdD_up d1 (by omega)) (by rw [uT_up (by omega), uT_up (by omega)]; exact hk6) hj4 (by omega)
        have i1 := IV_f (v := mI M 175 (4 + j) - n) hk.2.1 hj4
        have i2 := IV_ac (t := k) (r := j) (v1 := mI M 175 (8 + 12 * k + (4 + j)) + n) (v2 := mI M 175 (8 + 12 * k + (8 + j)) + n) i1 (by rw [uT_up (by omega)]; exact hk6) hj4 (by rw [ti_add (by omega) (by omega), ti_add (by omega) (by omega)]; omega)
        exact kp_RR h (fun x y z => by rw [u2_ne (by omega), u2_ne (by omega), u2_ne (by omega)]) ⟨s3, i2⟩ (by rw [up_ne (by omega), up_ne (by omega), up_ne (by omega)])
      · rw [if_neg z', if_neg z2, if_pos (Or.inr z2), if_pos q, if_neg z, if_neg z2, if_pos q, if_pos (Or.inr z2)]
        exact ⟨rfl, RR_up h⟩
  · simp only [if_neg q]
    exact ⟨trivial, RR_up h⟩
theorem st_repay (h : RR c M) (t r n : Int32) : rpR (mI M) t r n = upR (mI (rpM M t r n) 175) t r n ∧ RR (c + 1) (mW (rpM M t r n) (upM (mI (rpM M t r n)) t r n)) := by
  have hX := h.2.1
  have hk := kp_X h
  unfold rpR upR rpM upM boC uoC vT uV
  rw [rl_T hX.1, nn_1, nn_999]
  by_cases q : (0 ≤ t ∧ t < nI (uT (mI M 175))) ∧ vR r ∧ 1 ≤ n ∧ n ≤ 999
  · obtain ⟨k, e, hk6, ek⟩ := uVk hX.2.1.1 q.1
    obtain ⟨j, e2, hj4, ej⟩ := vRk q.2.1
    have m1 := hX.2.1.1.1.2
    have q2 := q.2.2
    rw [fa_le', fa_le', ti_1, ti_999] at q2
    simp only [if_pos q]
    rw [ek, ej]
    have a0 := hX.1.2.1 k hk6
    have a1 : mI M 29 (k * 4 + j) = usU (mI M 175) j (nI k) := (hX.1.2.2.2.2.2.1 j hj4).2 k hk6
    have a2 : mI M 28 (k * 4 + j) = mI M 175 (8 + 12 * k + (8 + j)) := (a0.2.2.2 j hj4).2
    have a3 : mI M 27 (k * 4 + j) = mI M 175 (8 + 12 * k + (4 + j)) := (a0.2.2.2 j hj4).1
    have hbd := (hX.2.1.2.2.2.1 k hk6).2.2 j hj4
    have hus := us_bd hX.2.1 hj4 (nI k)
    unfold rpQ upQ rpN upN rpS upS frU
    rw [a1, a2, a3]
    by_cases z : mI M 175 (8 + 12 * k + (8 + j)) < n ∨ ¬ n ≤ mI M 175 (8 + 12 * k + (4 + j)) - usU (mI M 175) j (nI k)
    · rw [if_pos z, if_pos z, if_pos q, if_pos z, if_pos q, if_pos z]
      exact ⟨rfl, RR_up h⟩
    · have hg : ∀ x y, ¬ (19 < x ∧ x < 35) → gbF (mI (kpM M)) 20 k j n x y = mI (kpM M) x y := fun x y z => by
        unfold gbF afF
        rw [u2_ne (by omega), u2_ne (by omega), u2_ne (by omega)]
      have e5 : mI (mW (kpM M) (gbF (mI (kpM M)) 20 k j n)) 175 = mI M 175 := c_175 h (fun y => hg _ _ (by omega))
      rw [if_neg z, if_neg z, e5, if_pos q, if_neg z, if_pos q, if_neg z, Int32.sub_eq_add_neg]
      refine ⟨rfl, ?_⟩
      unfold upG
      rw [fa_lt', fa_le', ti_sub (by omega) (by omega)] at z
      have s1 := RL_gb (n := n) hk.1 hk.2.1.1 hk6 hj4
      rw [up_comm (by omega)] at s1
      have en : (-n).toInt = -n.toInt := ti_neg (by omega)
      have i2 := IV_ac (t := k) (r := j) (v1 := mI M 175 (8 + 12 * k + (4 + j)) + -n) (v2 := mI M 175 (8 + 12 * k + (8 + j)) + -n) hk.2.1 hk6 hj4 (by rw [ti_add (by omega) (by omega), ti_add (by omega) (by omega)]; omega)
      exact kp_RR h hg ⟨s1, IV_f i2 hj4⟩ (by unfold cfU; rw [up_ne (by omega), up_ne (by omega), up_ne (by omega)])
  · simp only [if_neg q]
    exact ⟨trivial, RR_up h⟩
end St
