theorem sm_0 : ∀ n, sm (fun _ => 0) n = 0
  | 0 => rfl
  | n + 1 => by
    rw [sm, sm_0 n]
    rfl
theorem us_0 {u : Nat → Int32} {r T : Nat} (hT : T < 2 ^ 31) (h : ∀ k, k < uG u → ¬ u (80 + 6 * k + 5) = nI T) : usU u r (nI T) = 0 := by
  rw [usU_sm, sm_cg (h := fun _ => 0) _ (fun k hk => ?_)]
  · exact sm_0 _
  · unfold usT
    rw [if_neg (nI_neN hT), if_neg (h k hk), nn_0]
section At
variable {f : Nat → Nat → Int32} {b c : Nat} {u : Nat → Int32} {n : Int32}
theorem at_o {t y : Nat} {n : Int32} (h : y < 8 + 12 * t ∨ 8 + 12 * t + 12 ≤ y) (h2 : y ≠ 447) : uatG u n y = atP u (uT u) n 12 y := by
  unfold uatG
  exact up_ne h2
theorem uat_o {y : Nat} (h : y < 8 + 12 * uT u ∨ 8 + 12 * uT u + 12 ≤ y) (h2 : y ≠ 447) : uatG u n y = u y := by
  unfold uatG atP
  rw [up_ne h2, if_neg (by omega)]
theorem uat_i {k : Nat} (hk : k < 12) (hT : uT u < 6) : uatG u n (8 + 12 * uT u + k) = if k = 0 then n else if k = 2 then -1000003 else if k = 3 then nI 1 else nI 0 := by
  unfold uatG atP
  rw [up_ne (by omega), if_pos (by omega)]
  by_cases z : k = 0
  · rw [if_pos (by omega), if_pos z]
  · rw [if_neg (by omega), if_neg z]
    by_cases z2 : k = 2
    · rw [if_pos (by omega), if_pos z2]
    · rw [if_neg (by omega), if_neg z2]
      by_cases z3 : k = 3
      · rw [if_pos (by omega), if_pos z3]
      · rw [if_neg (by omega), if_neg z3]
theorem uat_T (hT : uT u < 6) : uT (uatG u n) = uT u + 1 := by
  exact tN_of (show uatG u n 447 = nI (uT u + 1) from up_at _ _ _) (by omega)
theorem uat_0 (hT : uT u < 6) : uatG u n (8 + 12 * uT u) = n := by
  unfold uatG atP
  rw [up_ne (by omega), if_pos (by omega), if_pos rfl]
theorem uat_n (hT : uT u < 6) : uG (uatG u n) = uG u ∧ uD (uatG u n) = uD u ∧ uB (uatG u n) = uB u := by
  refine ⟨?_, ?_, ?_⟩
  · unfold uG
    rw [uat_o (by omega) (by omega)]
  · unfold uD
    rw [uat_o (by omega) (by omega)]
  · unfold uB
    rw [uat_o (by omega) (by omega)]
theorem RL_at (h : RL f b u) (hi : IV u c) (hT : uT u < 6) : RL (u2 (u2 f (b + 4) (uT u) n) b 13 (nI (uT u + 1))) b (uatG u n) := by
  have m2 := hi.1.2.1.2
  have m3 := hi.1.2.2.1.2
  have m4 := hi.1.2.2.2.2
  obtain ⟨e2, e3, e4⟩ := uat_n (n := n) hT
  have eT := uat_T (n := n) hT
  obtain ⟨h1, h2, h3, h4, h5, h6, h7, h8⟩ := h
  have hx : ∀ x y, ¬ (x = b ∧ y = 13) → ¬ (x = b + 4 ∧ y = uT u) → u2 (u2 f (b + 4) (uT u) n) b 13 (nI (uT u + 1)) x y = f x y := fun x y q1 q2 => by rw [u2_nn q1, u2_nn q2]
  have eus : ∀ r t, r < 4 → usU (uatG u n) r t = usU u r t := fun r t hr => us_cg hr (uat_o (by omega) (by omega)) (fun k j hk hj => uat_o (by omega) (by omega))
  refine ⟨fun r hr => ?_, fun t ht => ?_, ⟨?_, fun k hk => ⟨?_, fun j hj => ?_⟩⟩, ⟨?_, fun k hk j hj => ?_⟩, fun k hk => ?_, fun r hr => ⟨?_, fun t ht => ?_⟩, ⟨?_, ?_, ?_, ?_, ?_, ?_⟩, fun t ht ht2 => ?_⟩
  · rw [hx _ _ (by omega) (by omega), hx _ _ (by omega) (by omega), uat_o (by omega) (by omega), uat_o (by omega) (by omega)]
    exact h1 r hr
  · rw [eT] at ht
    by_cases z : t = uT u
    · subst z
      rw [hx (b + 5) _ (by omega) (by omega), hx (b + 6) _ (by omega) (by omega), u2_nn (by omega), u2_eq, uat_0 hT, uat_i (by omega) hT, uat_i (by omega) hT]
      have q := h8 (uT u) (Nat.le_refl _) hT
      refine ⟨rfl, q.1, q.2.1, fun r hr => ?_⟩
      rw [hx _ _ (by omega) (by omega), hx _ _ (by omega) (by omega), uat_i (by omega) hT, uat_i (by omega) hT, if_neg (by omega), if_neg (by omega), if_neg (by omega), if_neg (by omega), if_neg (by omega), if_neg (by omega)]
      exact ⟨(q.2.2 r hr).1, (q.2.2 r hr).2.1⟩
    · rw [hx _ _ (by omega) (by omega), hx _ _ (by omega) (by omega), hx _ _ (by omega) (by omega), uat_o (by omega) (by omega), uat_o (by omega) (by omega), uat_o (by omega) (by omega)]
      have q := h2 t (by omega)
      refine ⟨q.1, q.2.1, q.2.2.1, fun r hr => ?_⟩
      rw [hx _ _ (by omega) (by omega), hx _ _ (by omega) (by omega), uat_o (by omega) (by omega), uat_o (by omega) (by omega)]
      exact q.2.2.2 r hr
  · rw [hx _ _ (by omega) (by omega), uat_o (by omega) (by omega)]
    exact h3.1
  · rw [e2] at hk
    rw [hx _ _ (by omega) (by omega), uat_o (by omega) (by omega)]
    exact (h3.2 k hk).1
  · rw [e2] at hk
    rw [hx _ _ (by omega) (by omega), uat_o (by omega) (by omega)]
    exact (h3.2 k hk).2 j hj
  · rw [hx _ _ (by omega) (by omega), uat_o (by omega) (by omega)]
    exact h4.1
  · rw [e3] at hk
    rw [hx _ _ (by omega) (by omega), uat_o (by omega) (by omega)]
    exact h4.2 k hk j hj
  · rw [e4] at hk
    rw [hx _ _ (by omega) (by omega), uat_o (by omega) (by omega)]
    exact h5 k hk
  · rw [hx _ _ (by omega) (by omega), eus _ _ hr]
    exact (h6 r hr).1
  · rw [eT] at ht
    rw [hx _ _ (by omega) (by omega), eus _ _ hr]
    by_cases z : t = uT u
    · subst z
      rw [us_0 (by omega) (fun k hk e => ?_)]
      · exact ((h8 (uT u) (Nat.le_refl _) hT).2.2 r hr).2.2
      · obtain ⟨q, hq, e5⟩ := (hi.2.2.2.2.1 k hk).2.2
        rw [e5, nI_eq (by omega) (by omega)] at e
        omega
    · exact (h6 r hr).2 t (by omega)
  · rw [hx _ _ (by omega) (by omega), uat_o (by omega) (by omega)]
    exact h7.1
  · rw [u2_eq]
    unfold uatG
    rw [up_at]
  · rw [hx _ _ (by omega) (by omega), uat_o (by omega) (by omega)]
    exact h7.2.2.1
  · rw [hx _ _ (by omega) (by omega), uat_o (by omega) (by omega)]
    exact h7.2.2.2.1
  · rw [hx _ _ (by omega) (by omega), uat_o (by omega) (by omega)]
    exact h7.2.2.2.2.1
  · rw [hx _ _ (by omega) (by omega), uat_o (by omega) (by omega)]
    exact h7.2.2.2.2.2
  · rw [eT] at ht
    rw [hx _ _ (by omega) (by omega), hx _ _ (by omega) (by omega)]
    have q := h8 t (by omega) ht2
    refine ⟨q.1, q.2.1, fun r hr => ?_⟩
    rw [hx _ _ (by omega) (by omega), hx _ _ (by omega) (by omega), hx _ _ (by omega) (by omega)]
    exact q.2.2 r hr
theorem IV_at (hi : IV u c) (hT : uT u < 6) (h1 : 1 ≤ n.toInt) (h2 : n.toInt ≤ 9) : IV (uatG u n) c := by
  have m2 := hi.1.2.1.2
  have m3 := hi.1.2.2.1.2
  have m4 := hi.1.2.2.2.2
  obtain ⟨e2, e3, e4⟩ := uat_n (n := n) hT
  have eT := uat_T (n := n) hT
  obtain ⟨i1, i2, i3, i4, i5, i6, i7, i8, i9⟩ := hi
  refine ⟨MdD_t (s := uT u + 1) i1 (by unfold uatG; exact up_at _ _ _) (by omega) (uat_o (by omega) (by omega)) (uat_o (by omega) (by omega)) (uat_o (by omega) (by omega)), ⟨?_, fun k hk => ?_⟩, fun r hr => ?_, fun t ht => ?_, fun k hk => ?_, fun k hk => ?_, ⟨fun k hk => ?_, fun j k hj hk => ?_⟩, fun t ht => ?_, ?_⟩
  · rw [eT, e4]
    have q := i2.1
    unfold slU at q ⊢
    have e : fcnt (fun t => uatG u n (8 + 12 * t + 3) = nI 1) (uT u + 1) ≤ fcnt (fun t => uatG u n (8 + 12 * t + 3) = nI 1) (uT u) + 1 := by
      rw [fcnt]
      by_cases z : uatG u n (8 + 12 * uT u + 3) = nI 1
      · rw [if_pos z]
        exact Nat.le_refl _
      · rw [if_neg z]
        exact Nat.le_succ _
    have e5 : fcnt (fun t => uatG u n (8 + 12 * t + 3) = nI 1) (uT u) = fcnt (fun t => u (8 + 12 * t + 3) = nI 1) (uT u) := fcnt_cg _ (fun k hk => by rw [uat_o (by omega) (by omega)])
    omega
  · rw [e4] at hk
    rw [uat_o (by omega) (by omega)]
    exact i2.2 k hk
  · rw [uat_o (by omega) (by omega)]
    exact i3 r hr
  · rw [eT] at ht
    by_cases z : t = uT u
    · subst z
      rw [uat_0 hT, uat_i (by omega) hT, uat_o (y := 446) (by omega) (by omega)]
      refine ⟨⟨h1, h2⟩, ?_, fun r hr => ?_⟩
      · rw [if_neg (by omega), if_pos rfl, ti_N]
        have := i9.1
        omega
      · rw [uat_i (by omega) hT, uat_i (by omega) hT, if_neg (by omega), if_neg (by omega), if_neg (by omega), if_neg (by omega), if_neg (by omega), if_neg (by omega), nn_0, ti_0]
        omega
    · rw [uat_o (by omega) (by omega), uat_o (by omega) (by omega), uat_o (y := 446) (by omega) (by omega)]
      have q := i4 t (by omega)
      refine ⟨q.1, q.2.1, fun r hr => ?_⟩
      rw [uat_o (by omega) (by omega), uat_o (by omega) (by omega)]
      exact q.2.2 r hr
  · rw [e2] at hk
    rw [eT, uat_o (by omega) (by omega), uat_o (by omega) (by omega)]
    obtain ⟨q1, q2, q, q3, q4⟩ := i5 k hk
    refine ⟨q1, fun r hr => ?_, q, by omega, q4⟩
    rw [uat_o (by omega) (by omega)]
    exact q2 r hr
  · rw [e3] at hk
    rw [eT, uat_o (by omega) (by omega)]
    obtain ⟨q2, q, q3, q4⟩ := i6 k hk
    refine ⟨fun r hr => ?_, q, by omega, q4⟩
    rw [uat_o (by omega) (by omega)]
    exact q2 r hr
  · rw [e4] at hk
    rw [eT, uat_o (by omega) (by omega)]
    obtain ⟨q, q3, q4⟩ := i7.1 k hk
    exact ⟨q, by omega, q4⟩
  · rw [e4] at hj hk
    rw [uat_o (by omega) (by omega), uat_o (by omega) (by omega)]
    exact i7.2 j k hj hk
  · rw [eT] at ht
    rw [e4]
    by_cases z : t = uT u
    · subst z
      refine Or.inr ⟨by rw [uat_i (by omega) hT]; rfl, fun k hk e => ?_⟩
      rw [uat_o (by omega) (by omega)] at e
      obtain ⟨q, q3, q4⟩ := i7.1 k hk
      rw [q4, nI_eq (by omega) (by omega)] at e
      omega
    · rw [uat_o (by omega) (by omega)]
      rcases i8 t (by omega) with ⟨q, k, hk, e⟩ | ⟨q, e⟩
      · exact Or.inl ⟨q, k, hk, by rw [uat_o (by omega) (by omega)]; exact e⟩
      · exact Or.inr ⟨q, fun k hk => by rw [uat_o (by omega) (by omega)]; exact e k hk⟩
  · unfold IT at i9 ⊢
    rw [e3, uat_o (by omega) (by omega), uat_o (by omega) (by omega), uat_o (by omega) (by omega)]
    exact i9
end At
section St
variable {c : Nat} {M : Mem}
theorem u_lo {u : Nat → Int32} {c t : Nat} (hi : IV u c) (ht : t < uT u) : ∀ n, n ≤ 4 → 0 ≤ (loU u t n).toInt ∧ (loU u t n).toInt ≤ 9999 * n
  | 0, _ => by rw [loU, nn_0, ti_0]; omega
  | n + 1, hn => by
    have ih := u_lo hi ht n (by omega)
    have q := (hi.2.2.2.1 t ht).2.2 n (by omega)
    rw [loU, ti_add (by omega) (by omega)]
    omega
end St
