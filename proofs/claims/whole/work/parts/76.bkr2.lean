/-! ===== bankruptcy, whole ===== -/
section Bk
variable {f : Nat → Nat → Int32} {b c c' t : Nat} {u : Nat → Int32}
theorem bnB_g {y : Nat} (hi : MdD u) (h : y < 320 ∨ 440 ≤ y) (h2 : y ≠ 449) : bnB u t y = bnA u t y := rdU_o h h2 _ _ (bnA_D hi)
theorem bnB_cell {y : Nat} (hi : MdD u) (h : y < 80 ∨ 440 ≤ y ∧ y ≠ 448 ∧ y ≠ 449) : bnB u t y = u y := bnB_o hi (by omega) (by omega) (by omega)
/-- what the model's row holds -/
theorem bn_tab {y : Nat} (hi : MdD u) (ht : t < 6) (hb : uB u < 6) (h : 80 ≤ y) (h2 : y < 440 ∨ y = 448 ∨ y = 449) : bnU u t y = bnB u t y := by
  have e := bnU_ub (t := t) hi ht
  unfold bnU
  rw [gb3_o (by omega) (by omega) (by omega) (by omega) (by omega), gb2_o (by omega), gbP_x ht (by omega) (by omega) 4 (by omega)]
theorem bn_mid {y : Nat} (hi : MdD u) (ht : t < 6) (hb : uB u < 6) (h : 4 ≤ y ∧ y < 8 ∨ 8 + 12 * t + 4 ≤ y ∧ y < 8 + 12 * t + 12) : bnU u t y = gbP (bnB u t) t 4 y := by
  have e := bnU_ub (t := t) hi ht
  unfold bnU
  rw [gb3_o (by omega) (by omega) (by omega) (by omega) (by omega), gb2_o (by omega)]
theorem bn_oth {y : Nat} (hi : MdD u) (ht : t < 6) (hb : uB u < 6) (h : y < 4 ∨ (8 ≤ y ∧ y < 80 ∧ (y < 8 + 12 * t + 1 ∨ 8 + 12 * t + 12 ≤ y)) ∨ y = 446 ∨ y = 447 ∨ y = 451 ∨ y = 452 ∨ (440 ≤ y ∧ y < 446 ∧ y ≠ 440 + uB u)) : bnU u t y = u y := by
  have e := bnU_ub (t := t) hi ht
  unfold bnU
  rw [gb3_o (by omega) (by omega) (by omega) (by omega) (by omega), gb2_o (by omega), gbP_x ht (by omega) (by omega) 4 (by omega), bnB_cell hi (by omega)]
theorem bn_1 (hi : MdD u) (ht : t < 6) (hb : uB u < 6) : bnU u t (8 + 12 * t + 1) = 0 := by
  have e := bnU_ub (t := t) hi ht
  unfold bnU
  rw [gb3_o (by omega) (by omega) (by omega) (by omega) (by omega)]
  unfold gb2
  rw [up_at, add_neg0]
theorem bn_2 (hi : MdD u) (ht : t < 6) (hb : uB u < 6) : bnU u t (8 + 12 * t + 2) = u 446 := by
  have e := bnU_ub (t := t) hi ht
  unfold bnU gb3
  rw [e, up_ne (by omega), up_ne (by omega), up_ne (by omega), up_at, gb2_o (by omega), gbP_x ht (by omega) (by omega) 4 (by omega), bnB_cell hi (by omega)]
theorem bn_453 (hi : MdD u) (ht : t < 6) : bnU u t 453 = u 453 + 1 := by
  unfold bnU gb3
  rw [up_at, gb2_o (by omega), gbP_x ht (by omega) (by omega) 4 (by omega), bnB_cell hi (by omega), nn_1]
theorem bn_fund {r : Nat} (hi : MdD u) (ht : t < 6) (hb : uB u < 6) (hr : r < 4) : bnU u t (4 + r) = lsU (nI 999) (u (4 + r) + u (8 + 12 * t + (8 + r))) := by
  rw [bn_mid hi ht hb (by omega), gbP_f ht hr 4 (by omega), if_pos hr, bnB_cell hi (by omega), bnB_cell hi (by omega)]
theorem bn_lim {r : Nat} (hi : MdD u) (ht : t < 6) (hb : uB u < 6) (hr : r < 4) : bnU u t (8 + 12 * t + (4 + r)) = u (8 + 12 * t + (4 + r)) + -u (8 + 12 * t + (8 + r)) := by
  rw [bn_mid hi ht hb (by omega), gbP_m ht hr 4 (by omega), if_pos hr, bnB_cell hi (by omega), bnB_cell hi (by omega)]
theorem bn_loan {r : Nat} (hi : MdD u) (ht : t < 6) (hb : uB u < 6) (hr : r < 4) : bnU u t (8 + 12 * t + (8 + r)) = 0 := by
  rw [bn_mid hi ht hb (by omega), gbP_l ht hr 4 (by omega), if_pos hr]
theorem bn_us {r : Nat} {q : Int32} (hi : MdD u) (ht : t < 6) (hb : uB u < 6) (hr : r < 4) : usU (bnU u t) r q = usU (bnA u t) r q := by
  have m2 := (bnA_D (t := t) hi).2.1.2
  exact us_cg hr (by rw [bn_tab hi ht hb (by omega) (by omega), bnB_g hi (by omega) (by omega)]) (fun k j hk hj => by rw [bn_tab hi ht hb (by omega) (by omega), bnB_g hi (by omega) (by omega)])
theorem bn_nT (hi : MdD u) (ht : t < 6) (hb : uB u < 6) : uT (bnU u t) = uT u := by unfold uT; rw [bn_oth hi ht hb (by omega)]
theorem bn_nB (hi : MdD u) (ht : t < 6) (hb : uB u < 6) : uB (bnU u t) = uB u + 1 := tN_of (bnU_450 hi ht) (by omega)
theorem bn_nG (hi : MdD u) (ht : t < 6) (hb : uB u < 6) : uG (bnU u t) = uG (bnA u t) := by unfold uG; rw [bn_tab hi ht hb (by omega) (by omega), bnB_g hi (by omega) (by omega)]
theorem bn_nD (hi : MdD u) (ht : t < 6) (hb : uB u < 6) : uD (bnU u t) = uD (bnB u t) := by unfold uD; rw [bn_tab hi ht hb (by omega) (by omega)]
/-- what the ledger holds -/
theorem bkB_x {x y : Nat} (h1 : x ≠ b + 10) (h2 : x ≠ b + 11) (h3 : x ≠ b + 12) (h4 : x ≠ b + 13) : bkB f b t x y = bkP f b t 4 x y := by
  unfold bkB bkA
  rw [raF_ne (by omega) (by omega), raF_ne (by omega) (by omega)]
theorem bkC_x {x y : Nat} (h1 : x ≠ b + 5) (h2 : x ≠ b + 6) (h3 : x ≠ b + 14) (h4 : ¬ (x = b ∧ (y = 12 ∨ y = 17))) : bkC f b t x y = bkB f b t x y := by
  unfold bkC
  rw [u2_nn (by omega), u2_ne (by omega), u2_nn (by omega), u2_ne (by omega), u2_ne (by omega)]
theorem bkC_o2 {x y : Nat} (h1 : x = b + 1 ∨ x = b + 4 ∨ (x = b ∧ y ≠ 12 ∧ y ≠ 17)) : bkC f b t x y = f x y := by
  rw [bkC_x (by omega) (by omega) (by omega) (by omega), bkB_x (by omega) (by omega) (by omega) (by omega), bkP_o (by omega) (by omega) (by omega) (by omega) (by omega)]
theorem RL_bk (h : RL f b u) (hi : IV u c) (ht : t < uT u) (hs : u (8 + 12 * t + 3) = nI 1) : RL (bkF f b t) b (bnU u t) := by
  have hM := hi.1
  have m1 := hM.1.2
  have m2 := hM.2.1.2
  have m3 := hM.2.2.1.2
  have hb := slU_pos ht hs hi.2.1 m1
  have ht6 : t < 6 := by omega
  have eB := rl_B h
  have eT := bn_nT hM ht6 hb
  have eBn := bn_nB hM ht6 hb
  have m2' := (bnA_D (t := t) hM).2.1.2
  have m3' := (bnB_D (t := t) hM).2.2.1.2
  unfold bkF
  rw [eB, if_pos hb]
  obtain ⟨h1, h2, h3, h4, h5, h6, h7, h8⟩ := h
  -- the tables
  have tg1 : TG (bkP f b t 4) (b + 10) u := TG_cg h3 m2 (bkP_o (by omega) (by omega) (by omega) (by omega) (by omega) 4) (fun y => bkP_o (by omega) (by omega) (by omega) (by omega) (by omega) 4) (fun _ _ _ => rfl)
  have tg2 : TG (bkA f b t) (b + 10) (bnA u t) := by
    have := TG_ra ht6 (uG u) _ _ tg1 hM (Nat.le_refl _)
    unfold bkA
    rw [tg_n tg1]
    exact this
  have tg3 : TG (bkC f b t) (b + 10) (bnU u t) := TG_cg tg2 m2' (by rw [bkC_x (by omega) (by omega) (by omega) (by omega)]; exact raF_ne (by omega) (by omega) _ _) (fun y => by rw [bkC_x (by omega) (by omega) (by omega) (by omega)]; exact raF_ne (by omega) (by omega) _ _) (fun y q1 q2 => by rw [bn_tab hM ht6 hb (by omega) (by omega), bnB_g hM (by omega) (by omega)])
  have td1 : TD (bkA f b t) (b + 12) (bnA u t) := TD_cg h4 m3 (by unfold bkA; rw [raF_ne (by omega) (by omega), bkP_o (by omega) (by omega) (by omega) (by omega) (by omega)]) (fun y => by unfold bkA; rw [raF_ne (by omega) (by omega), bkP_o (by omega) (by omega) (by omega) (by omega) (by omega)]) (fun y q1 q2 => rgU_o (by omega) (by omega) _ _ hM)
  have td2 : TD (bkB f b t) (b + 12) (bnB u t) := by
    have := TD_ra ht6 (uD (bnA u t)) _ _ td1 (bnA_D hM) (Nat.le_refl _)
    unfold bkB
    rw [td_n td1]
    exact this
  have td3 : TD (bkC f b t) (b + 12) (bnU u t) := TD_cg td2 m3' (bkC_x (by omega) (by omega) (by omega) (by omega)) (fun y => bkC_x (by omega) (by omega) (by omega) (by omega)) (fun y q1 q2 => bn_tab hM ht6 hb (by omega) (by omega))
  have hP : ∀ i y, i = 2 ∨ i = 3 ∨ i = 7 ∨ i = 8 ∨ i = 9 → bkC f b t (b + i) y = bkP f b t 4 (b + i) y := fun i y hi => by rw [bkC_x (by omega) (by omega) (by omega) (by omega), bkB_x (by omega) (by omega) (by omega) (by omega)]
  have c5 : ∀ y, bkC f b t (b + 5) y = if y = t then 0 else f (b + 5) y := fun y => by
    unfold bkC
    rw [u2_ne (by omega), u2_ne (by omega), u2_ne (by omega), u2_ne (by omega), u2_at]
    by_cases z : y = t
    · rw [if_pos ⟨rfl, z⟩, if_pos z]
    · rw [if_neg (fun q => z q.2), if_neg z, bkB_x (by omega) (by omega) (by omega) (by omega), bkP_o (by omega) (by omega) (by omega) (by omega) (by omega)]
  have c6 : ∀ y, bkC f b t (b + 6) y = if y = t then f b 14 else f (b + 6) y := fun y => by
    unfold bkC
    rw [u2_ne (by omega), u2_ne (by omega), u2_ne (by omega), u2_at]
    by_cases z : y = t
    · rw [if_pos ⟨rfl, z⟩, if_pos z]
    · rw [if_neg (fun q => z q.2), if_neg z, u2_ne (by omega), bkB_x (by omega) (by omega) (by omega) (by omega), bkP_o (by omega) (by omega) (by omega) (by omega) (by omega)]
  have c14 : ∀ y, bkC f b t (b + 14) y = if y = uB u then nI t else f (b + 14) y := fun y => by
    unfold bkC
    rw [u2_ne (by omega), eB, u2_at]
    by_cases z : y = uB u
    · rw [if_pos ⟨rfl, z⟩, if_pos z]
    · rw [if_neg (fun q => z q.2), if_neg z, u2_ne (by omega), u2_ne (by omega), u2_ne (by omega), bkB_x (by omega) (by omega) (by omega) (by omega), bkP_o (by omega) (by omega) (by omega) (by omega) (by omega)]
  refine ⟨fun r hr => ?_, fun t' ht' => ?_, tg3, td3, fun k hk => ?_, fun r hr => ⟨?_, fun t' ht' => ?_⟩, ⟨?_, ?_, ?_, ?_, ?_, ?_⟩, fun t' ht' ht2 => ?_⟩
  · rw [bkC_o2 (by omega), hP 2 _ (by omega), bkP_2, if_pos hr, min_ls, bn_oth hM ht6 hb (by omega), bn_fund hM ht6 hb hr, (h1 r hr).2, ((h2 t ht).2.2.2 r hr).2]
    exact ⟨(h1 r hr).1, rfl⟩
  · rw [eT] at ht'
    rw [bkC_o2 (by omega), c5, c6]
    by_cases z : t' = t
    · subst z
      rw [if_pos rfl, if_pos rfl, bn_oth (y := 8 + 12 * t') hM ht6 hb (by omega), bn_1 hM ht6 hb, bn_2 hM ht6 hb]
      refine ⟨(h2 t' ht).1, rfl, h7.2.2.1, fun r hr => ?_⟩
      have q := (h2 t' ht).2.2.2 r hr
      rw [hP 7 _ (by omega), hP 8 _ (by omega), bkP_7, bkP_8, if_pos (by omega), if_pos (by omega), q.1, q.2, bn_lim hM ht6 hb hr, bn_loan hM ht6 hb hr, Int32.sub_eq_add_neg]
      exact ⟨rfl, rfl⟩
    · rw [if_neg z, if_neg z, bn_oth hM ht6 hb (by omega), bn_oth hM ht6 hb (by omega), bn_oth hM ht6 hb (by omega)]
      have q := h2 t' ht'
      refine ⟨q.1, q.2.1, q.2.2.1, fun r hr => ?_⟩
      rw [hP 7 _ (by omega), hP 8 _ (by omega), bkP_7, bkP_8, if_neg (by omega), if_neg (by omega), bn_oth hM ht6 hb (by omega), bn_oth hM ht6 hb (by omega)]
      exact q.2.2.2 r hr
  · rw [eBn] at hk
    rw [c14]
    by_cases z : k = uB u
    · rw [if_pos z, z, bnU_q hM ht6 hb]
    · rw [if_neg z, bn_oth hM ht6 hb (by omega)]
      exact h5 k (by omega)
  · have e := us_bn hM ht6 hr
    rw [hP 3 _ (by omega), bkP_3, if_pos hr, bn_us hM ht6 hb hr, e.2.2, (h6 r hr).1, (h6 r hr).2 t ht]
  · rw [eT] at ht'
    have e := us_bn hM ht6 hr
    rw [hP 9 _ (by omega), bkP_9, bn_us hM ht6 hb hr]
    by_cases z : t' = t
    · rw [z, if_pos (by omega), e.2.1]
    · rw [if_neg (by omega), e.1 t' (by omega) z]
      exact (h6 r hr).2 t' ht'
  · unfold bkC
    rw [u2_eq, eB, bnU_450 hM ht6]
  · rw [bkC_o2 (by omega), bn_oth hM ht6 hb (by omega)]
    exact h7.2.1
  · rw [bkC_o2 (by omega), bn_oth hM ht6 hb (by omega)]
    exact h7.2.2.1
  · rw [bkC_o2 (by omega), bn_oth hM ht6 hb (by omega)]
    exact h7.2.2.2.1
  · rw [bkC_o2 (by omega), bn_oth hM ht6 hb (by omega)]
    exact h7.2.2.2.2.1
  · unfold bkC
    rw [u2_ne2 (by omega), u2_ne (by omega), u2_eq, bn_453 hM ht6, h7.2.2.2.2.2]
  · rw [eT] at ht'
    rw [c5, c6, if_neg (by omega), if_neg (by omega)]
    have q := h8 t' ht' ht2
    refine ⟨q.1, q.2.1, fun r hr => ?_⟩
    rw [hP 7 _ (by omega), hP 8 _ (by omega), hP 9 _ (by omega), bkP_7, bkP_8, bkP_9, if_neg (by omega), if_neg (by omega), if_neg (by omega)]
    exact q.2.2 r hr
theorem IV_bk (hi : IV u c) (ht : t < uT u) (hs : u (8 + 12 * t + 3) = nI 1) : IV (bnU u t) c := by
  have hM := hi.1
  have m1 := hM.1.2
  have m4 := hM.2.2.2.2
  have hb := slU_pos ht hs hi.2.1 m1
  have ht6 : t < 6 := by omega
  have eT := bn_nT hM ht6 hb
  have eBn := bn_nB hM ht6 hb
  have eGn := bn_nG hM ht6 hb
  have eDn := bn_nD hM ht6 hb
  have mA := bnA_D (t := t) hM
  have mB := bnB_D (t := t) hM
  have g1 : IG (bnA u t) := IG_rg _ _ hi.2.2.2.2.1 hM
  have d0 : ID (bnA u t) := fun k hk => by
    have e : uD (bnA u t) = uD u := by unfold uD bnA; rw [rgU_o (by omega) (by omega) _ _ hM]
    have m3 := hM.2.2.1.2
    rw [e] at hk
    have e2 : ∀ y, 320 ≤ y → y < 440 → bnA u t y = u y := fun y q1 q2 => rgU_o (by omega) (by omega) _ _ hM
    rw [show uT (bnA u t) = uT u from rg_T hM, e2 _ (by omega) (by omega)]
    obtain ⟨q2, q3⟩ := hi.2.2.2.2.2.1 k hk
    exact ⟨fun r hr => by rw [e2 _ (by omega) (by omega)]; exact q2 r hr, q3⟩
  have eDA : uD (bnA u t) = uD u := by unfold uD bnA; rw [rgU_o (by omega) (by omega) _ _ hM]
  obtain ⟨d1, d2⟩ := ID_rd (t := t) (uD (bnA u t)) (bnA u t) d0 mA
  have d1' : ID (bnB u t) := d1
  have d2' : uD (bnB u t) ≤ uD u := by rw [← eDA]; exact d2
  have hT := hi.2.2.2.2.2.2.2.2
  have eTB : uT (bnB u t) = uT u := by unfold uT; rw [bnB_cell hM (by omega)]
  have eTA : uT (bnA u t) = uT u := rg_T hM
  refine ⟨bnU_D hM ht6 hb, bnU_Sq hM hi.2.1 ht hs, fun r hr => ?_, fun t' ht' => ?_, fun k hk => ?_, fun k hk => ?_, ⟨fun k hk => ?_, fun j k hj hk => ?_⟩, fun t' ht' => ?_, ?_⟩
  · rw [bn_oth hM ht6 hb (by omega)]
    exact hi.2.2.1 r hr
  · rw [eT] at ht'
    have q := hi.2.2.2.1 t' ht'
    rw [bn_oth (y := 8 + 12 * t') hM ht6 hb (by omega), bn_oth (y := 446) hM ht6 hb (by omega)]
    refine ⟨q.1, ?_, fun r hr => ?_⟩
    · by_cases z : t' = t
      · rw [z, bn_2 hM ht6 hb]
        exact Int.le_refl _
      · rw [bn_oth hM ht6 hb (by omega)]
        exact q.2.1
    · by_cases z : t' = t
      · subst z
        have q3 := q.2.2 r hr
        rw [bn_loan hM ht6 hb hr, bn_lim hM ht6 hb hr, ti_0, ti_add (by rw [ti_neg (by omega)]; omega) (by rw [ti_neg (by omega)]; omega), ti_neg (by omega)]
        omega
      · rw [bn_oth hM ht6 hb (by omega), bn_oth hM ht6 hb (by omega)]
        exact q.2.2 r hr
  · rw [eGn] at hk
    have m2' := mA.2.1.2
    have e2 : ∀ y, 80 ≤ y → y < 320 → bnU u t y = bnA u t y := fun y q1 q2 => by rw [bn_tab hM ht6 hb (by omega) (by omega), bnB_g hM (by omega) (by omega)]
    obtain ⟨q1, q2, q3⟩ := g1 k hk
    rw [eTA] at q3
    rw [eT, e2 _ (by omega) (by omega), e2 _ (by omega) (by omega)]
    exact ⟨q1, fun r hr => by rw [e2 _ (by omega) (by omega)]; exact q2 r hr, q3⟩
  · rw [eDn] at hk
    have m3' := mB.2.2.1.2
    have e2 : ∀ y, 320 ≤ y → y < 440 → bnU u t y = bnB u t y := fun y q1 q2 => bn_tab hM ht6 hb (by omega) (by omega)
    obtain ⟨q2, q3⟩ := d1' k hk
    rw [eTB] at q3
    rw [eT, e2 _ (by omega) (by omega)]
    exact ⟨fun r hr => by rw [e2 _ (by omega) (by omega)]; exact q2 r hr, q3⟩
  · rw [eBn] at hk
    rw [eT]
    by_cases z : k = uB u
    · rw [z, bnU_q hM ht6 hb]
      exact ⟨t, ht, rfl⟩
    · rw [bn_oth hM ht6 hb (by omega)]
      exact hi.2.2.2.2.2.2.1.1 k (by omega)
  · rw [eBn] at hj hk
    have hno : ∀ k, k < uB u → ¬ u (440 + k) = nI t := by
      rcases hi.2.2.2.2.2.2.2.1 t ht with ⟨q, -⟩ | ⟨-, q⟩
      · exact absurd (q.symm.trans hs) n0n1
      · exact q
    by_cases z : j = uB u
    · by_cases z2 : k = uB u
      · intro _
        omega
      · rw [z, bnU_q hM ht6 hb, bn_oth hM ht6 hb (by omega)]
        intro e
        exact absurd e.symm (hno k (by omega))
    · by_cases z2 : k = uB u
      · rw [z2, bnU_q hM ht6 hb, bn_oth hM ht6 hb (by omega)]
        intro e
        exact absurd e (hno j (by omega))
      · rw [bn_oth hM ht6 hb (by omega), bn_oth hM ht6 hb (by omega)]
        exact hi.2.2.2.2.2.2.1.2 j k (by omega) (by omega)
  · rw [eT] at ht'
    rw [eBn]
    by_cases z : t' = t
    · rw [z, bnU_st hM ht6 hb]
      exact Or.inl ⟨rfl, uB u, by omega, bnU_q hM ht6 hb⟩
    · rw [bn_oth hM ht6 hb (by omega)]
      rcases hi.2.2.2.2.2.2.2.1 t' ht' with ⟨q, k, hk, e⟩ | ⟨q, e⟩
      · exact Or.inl ⟨q, k, by omega, by rw [bn_oth hM ht6 hb (by omega)]; exact e⟩
      · refine Or.inr ⟨q, fun k hk => ?_⟩
        by_cases z2 : k = uB u
        · rw [z2, bnU_q hM ht6 hb, nI_eq (by omega) (by omega)]
          omega
        · rw [bn_oth hM ht6 hb (by omega)]
          exact e k (by omega)
  · unfold IT at hT ⊢
    rw [eDn, bn_oth hM ht6 hb (by omega), bn_oth hM ht6 hb (by omega), bn_oth hM ht6 hb (by omega)]
    omega
end Bk
