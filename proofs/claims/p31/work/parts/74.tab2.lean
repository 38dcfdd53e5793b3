section Gr
variable {f : Nat → Nat → Int32} {b c : Nat} {u : Nat → Int32}
theorem gr2_lo {k y : Nat} (hg : uG u < 40) (h : y < 80 + 6 * uG u ∨ 320 ≤ y) (h1 : y ≠ 448) (h2 : y ≠ 451) : gr2 u k y = u y := by
  unfold gr2
  rw [up_ne h2, up_ne h1, up_ne (by omega), gr1_o (by omega)]
theorem gr2_0 {k : Nat} (hg : uG u < 40) : gr2 u k (80 + 6 * uG u) = u 451 := by
  unfold gr2 gr1
  rw [up_ne (by omega), up_ne (by omega), up_ne (by omega), if_pos rfl]
theorem gr2_r {k j : Nat} (hg : uG u < 40) (hj : j < 5) : gr2 u k (80 + 6 * uG u + (1 + j)) = u (320 + 5 * k + j) := by
  unfold gr2
  rw [up_ne (by omega), up_ne (by omega)]
  by_cases z : j = 4
  · subst z
    rw [show 80 + 6 * uG u + (1 + 4) = 80 + 6 * uG u + 5 by omega, up_at]
  · rw [up_ne (by omega)]
    unfold gr1
    rw [if_neg (by omega), if_pos (by omega), show 80 + 6 * uG u + (1 + j) - (80 + 6 * uG u + 1) = j by omega]
theorem gr2_n {k : Nat} (hg : uG u < 40) : uG (gr2 u k) = uG u + 1 := by
  refine tN_of (s := uG u + 1) ?_ (by omega)
  unfold gr2
  rw [up_ne (by omega), up_at]
theorem gr2_sw {k : Nat} (hg : uG u < 40) : SW_ (gr2 u k) u := fun y hy => gr2_o hg (by omega) (by omega) (by omega)
theorem us_gr {k r : Nat} {t : Int32} (hg : uG u < 40) (hr : r < 4) : usU (gr2 u k) r t = usU u r t + usT (gr2 u k) r t (uG u) := by
  rw [usU_sm, usU_sm, gr2_n hg, sm]
  congr 1
  refine sm_cg _ (fun j hj => ?_)
  unfold usT
  rw [gr2_lo hg (by omega) (by omega) (by omega), gr2_lo hg (by omega) (by omega) (by omega)]
theorem RL_gr2 {k : Nat} (h : RL f b u) (hi : IV u c) (hk : k < uD u) (hg : uG u < 40) : RL (sv3 f b k) b (gr2 u k) := by
  have hD := hi.1.2.2.1.2
  have hT6 := hi.1.1.2
  have eL := rl_T h
  have eG := rl_G h
  have eT : uT (gr2 u k) = uT u := by unfold uT; rw [gr2_o hg (by omega) (by omega) (by omega)]
  obtain ⟨q, hq, eo, -, ef⟩ := rl_ow h hi hk
  have x2 : ∀ x y, x ≠ b + 10 → x ≠ b + 11 → ¬ (x = b ∧ y = 16) → sv2 f b k x y = f x y := fun x y h1 h2 h3 => by
    unfold sv2
    rw [u2_nn h3]
    exact arF_ne (by omega) (by omega)
  have x3 : ∀ x y, x ≠ b + 3 → x ≠ b + 9 → sv3 f b k x y = sv2 f b k x y := fun x y h1 h2 => auF_ne (by omega) (by omega)
  have eL2 : lnT (sv2 f b k) b = lnT f b := by unfold lnT; rw [x2 _ _ (by omega) (by omega) (by omega)]
  have row : ∀ y, sv3 f b k (b + 11) y = if y = uG u * 6 + 5 then f b 16 else if uG u * 6 ≤ y ∧ y < uG u * 6 + 5 then f (b + 13) (k * 6 + (y - uG u * 6)) else f (b + 11) y := fun y => by
    rw [x3 _ _ (by omega) (by omega)]
    unfold sv2 sv1 arF
    rw [u2_ne (by omega), u2_ne (by omega), eG, u2_at]
    by_cases z : y = uG u * 6 + 5
    · rw [if_pos ⟨rfl, z⟩, if_pos z]
    · rw [if_neg (by omega), if_neg z]
      unfold arP
      rw [eG]
      by_cases z2 : uG u * 6 ≤ y ∧ y < uG u * 6 + 5
      · rw [if_pos ⟨rfl, z2⟩, if_pos z2]
      · rw [if_neg (fun q => z2 q.2), if_neg z2]
  refine RL_tab h hi.1 (gr2_sw hg) (gr2_o hg (by omega) (by omega) (by omega)) (fun i y q => ?_) (fun y q => ?_) ?_ ⟨?_, fun j hj => ?_⟩ (TD_cg h.2.2.2.1 hD ?_ (fun y => ?_) (fun y q1 q2 => gr2_o hg (by omega) (by omega) (by omega))) (fun r hr => ?_) (fun t r h1 h2 h3 => ?_)
  · rw [x3 _ _ (by omega) (by omega), x2 _ _ (by omega) (by omega) (by omega)]
  · rw [x3 _ _ (by omega) (by omega), x2 _ _ (by omega) (by omega) (by omega)]
  · rw [x3 _ _ (by omega) (by omega)]
    have e1 : sv2 f b k b 16 = f b 16 + 1 := by
      unfold sv2
      rw [u2_eq]
      unfold sv1
      rw [arF_ne (by omega) (by omega)]
    have e2 : gr2 u k 451 = u 451 + nI 1 := by
      unfold gr2
      rw [up_at]
    rw [e1, e2, nn_1, h.2.2.2.2.2.2.1.2.2.2.2.1]
  · rw [x3 _ _ (by omega) (by omega)]
    have e2 : gr2 u k 448 = nI (uG u + 1) := by
      unfold gr2
      rw [up_ne (by omega), up_at]
    unfold sv2
    rw [u2_ne (by omega)]
    unfold sv1
    rw [arF_s, eG, e2]
  · rw [gr2_n hg] at hj
    rw [show b + 10 + 1 = b + 11 from rfl, row]
    by_cases z : j = uG u
    · subst z
      rw [if_pos rfl, gr2_0 hg]
      refine ⟨h.2.2.2.2.2.2.1.2.2.2.2.1, fun m hm => ?_⟩
      rw [row, if_neg (by omega), if_pos (by omega), show uG u * 6 + m - uG u * 6 = m by omega, gr2_r hg hm]
      exact rl_dd h hk hm
    · rw [if_neg (by omega), if_neg (by omega), gr2_lo hg (by omega) (by omega) (by omega)]
      refine ⟨(h.2.2.1.2 j (by omega)).1, fun m hm => ?_⟩
      rw [row, if_neg (by omega), if_neg (by omega), gr2_lo hg (by omega) (by omega) (by omega)]
      exact rl_gg h (by omega) hm
  · rw [x3 _ _ (by omega) (by omega), x2 _ _ (by omega) (by omega) (by omega)]
  · rw [x3 _ _ (by omega) (by omega), x2 _ _ (by omega) (by omega) (by omega)]
  · have ef2 : sv2 f b k (b + 12 + 1) (k * 6 + 4) = nI q := (x2 (b + 13) _ (by omega) (by omega) (by omega)).trans ef
    have av := au_v (f := sv2 f b k) (b := b) (s := 1) ef2 (by omega) (by omega) hr
    have eg : sv2 f b k (b + 12 + 1) (k * 6 + r) = u (320 + 5 * k + r) := (x2 (b + 13) _ (by omega) (by omega) (by omega)).trans (rl_dd h hk (by omega))
    have av1 : sv3 f b k (b + 3) r = _ := av.1
    have av2 : ∀ t, sv3 f b k (b + 9) (t * 4 + r) = _ := av.2
    rw [av1, eg, Int32.one_mul, x2 _ _ (by omega) (by omega) (by omega), (h.2.2.2.2.2.1 r hr).1, us_gr hg hr, usT_N, gr2_r hg (by omega)]
    refine ⟨rfl, fun t ht => ?_⟩
    rw [eT] at ht
    have eo2 : gr2 u k (80 + 6 * uG u + 5) = nI q := by
      rw [show 80 + 6 * uG u + 5 = 80 + 6 * uG u + (1 + 4) by omega, gr2_r hg (by omega), eo]
    rw [av2 t, eg, Int32.one_mul, x2 _ _ (by omega) (by omega) (by omega), (h.2.2.2.2.2.1 r hr).2 t ht, us_gr hg hr, usT_t eo2 (by omega) (by omega), gr2_r hg (by omega)]
    by_cases z : t = q
    · rw [if_pos z, if_pos z]
    · rw [if_neg z, if_neg z, Int32.add_zero]
  · have ef2 : sv2 f b k (b + 12 + 1) (k * 6 + 4) = nI q := (x2 (b + 13) _ (by omega) (by omega) (by omega)).trans ef
    have av := (au_v (f := sv2 f b k) (b := b) (s := 1) ef2 (by omega) (by omega) h3).2 t
    rw [if_neg (by omega), x2 _ _ (by omega) (by omega) (by omega)] at av
    exact av
theorem IV_gr2 {k : Nat} (hi : IV u c) (hk : k < uD u) (hg : uG u < 40) (hc : c < 1000000) : IV (gr2 u k) (c + 1) := by
  have hT6 := hi.1.1.2
  have eT : uT (gr2 u k) = uT u := by unfold uT; rw [gr2_o hg (by omega) (by omega) (by omega)]
  have eD : uD (gr2 u k) = uD u := by unfold uD; rw [gr2_d hg]
  have hD := hi.1.2.2.1.2
  obtain ⟨d1, q, hq, eo⟩ := hi.2.2.2.2.2.1 k hk
  have hT := hi.2.2.2.2.2.2.2.2
  refine IV_tab hi (gr2_D hi.1 hg) (gr2_sw hg) (fun j hj => ?_) (fun j hj => ?_) ?_
  · rw [gr2_n hg] at hj
    rw [eT]
    by_cases z : j = uG u
    · subst z
      rw [gr2_0 hg]
      refine ⟨hT.2.2.1, fun r hr => ?_, q, hq, ?_⟩
      · rw [gr2_r hg (by omega)]
        exact d1 r hr
      · rw [show 80 + 6 * uG u + 5 = 80 + 6 * uG u + (1 + 4) by omega, gr2_r hg (by omega), eo]
    · rw [gr2_lo hg (by omega) (by omega) (by omega), gr2_lo hg (by omega) (by omega) (by omega)]
      obtain ⟨q1, q2, q3⟩ := hi.2.2.2.2.1 j (by omega)
      refine ⟨q1, fun r hr => ?_, q3⟩
      rw [gr2_lo hg (by omega) (by omega) (by omega)]
      exact q2 r hr
  · rw [eD] at hj
    rw [eT, gr2_lo hg (by omega) (by omega) (by omega)]
    obtain ⟨q2, q3⟩ := hi.2.2.2.2.2.1 j hj
    refine ⟨fun r hr => ?_, q3⟩
    rw [gr2_lo hg (by omega) (by omega) (by omega)]
    exact q2 r hr
  · unfold IT at hT ⊢
    have e2 : gr2 u k 451 = u 451 + nI 1 := by
      unfold gr2
      rw [up_at]
    rw [eD, e2, gr2_lo hg (by omega) (by omega) (by omega), gr2_lo hg (by omega) (by omega) (by omega), nn_1, ti_add (by rw [ti_1]; omega) (by rw [ti_1]; omega), ti_1]
    omega
theorem RL_sv {k : Nat} (h : RL f b u) (hi : IV u c) (hk : k < uD u) (hg : uG u < 40) : RL (svF f b k) b (grU u k) := RL_ld (RL_gr2 h hi hk hg) (gr2_D hi.1 hg)
theorem IV_sv {k : Nat} (hi : IV u c) (hk : k < uD u) (hg : uG u < 40) (hc : c < 1000000) : IV (grU u k) c := by
  have eD : uD (gr2 u k) = uD u := by unfold uD; rw [gr2_d hg]
  exact IV_ld (IV_gr2 hi hk hg hc) (by rw [eD]; exact hk)
theorem pa_ga : ∀ m (u s : Nat → Int32) n, (paU m u s n).1 = (gaU m u n).1 ∧ (paU m u s n).2.2 = (gaU m u n).2
  | 0, _, _, _ => ⟨rfl, rfl⟩
  | m + 1, u, s, n => by
    unfold paU gaU
    by_cases z : ¬ nxU u = -1000003 ∧ uG u < 40
    · rw [if_pos z, if_pos z]
      exact pa_ga m _ _ _
    · rw [if_neg z, if_neg z]
      exact ⟨rfl, rfl⟩
theorem pa_stop {u s : Nat → Int32} {n : Nat} (z : ¬ (¬ nxU u = -1000003 ∧ uG u < 40)) : ∀ j, paU j u s n = (u, s, n)
  | 0 => rfl
  | j + 1 => by
    unfold paU
    rw [if_neg z]
theorem sa_pa {a : Nat} (ha : a < b ∨ b + 14 < a) (hc : c < 1000000) : ∀ m j (f : Nat → Nat → Int32) (u s : Nat → Int32) n, RL f b u → IV u c → uD u ≤ m → uD u ≤ j → (∀ i, i < n → f a i = s i) → RL (saP b a m f n).1 b (paU j u s n).1 ∧ IV (paU j u s n).1 c ∧ (saP b a m f n).2 = (paU j u s n).2.2 ∧ (paU j u s n).1 446 = u 446 ∧ ∀ i, i < (paU j u s n).2.2 → (saP b a m f n).1 a i = (paU j u s n).2.1 i
  | 0, j, f, u, s, n, h, hi, h1, h2, h3 => by
    rw [pa_stop (fun q => q.1 (nxU_0 (by omega)))]
    exact ⟨h, hi, rfl, rfl, h3⟩
  | m + 1, j, f, u, s, n, h, hi, h1, h2, h3 => by
    have hD := hi.1.2.2.1.2
    have eG := rl_G h
    unfold saP
    rcases rl_nd h hi with ⟨e1, e2⟩ | ⟨k, hk, e1, e2⟩
    · rw [if_neg (fun q => by rw [e1] at q; exact m1_ge q.2), pa_stop (fun q => q.1 e2)]
      exact ⟨h, hi, rfl, rfl, h3⟩
    · by_cases z : uG u < 40
      · obtain ⟨j', rfl⟩ : ∃ j', j = j' + 1 := ⟨j - 1, by omega⟩
        rw [if_pos ⟨by rw [eG]; exact z, by rw [e1]; exact nI_ge0 (by omega)⟩, e1, nI_clamp (by omega)]
        unfold paU
        rw [if_pos ⟨by rw [e2]; exact nI_neN (by omega), z⟩, e2, nI_clamp (by omega)]
        have hs := RL_sv h hi hk z
        have hv := IV_sv hi hk z hc
        have eD := grU_uD (k := k) hi.1 z
        have ih := sa_pa ha hc m j' (u2 (svF f b k) a n (f (b + 13) (k * 6 + 4))) (grU u k) (upF s n (u (320 + 5 * k + 4))) (n + 1) (RL_fg hs (fun i y hi => u2_ne (by omega))) hv (by omega) (by omega) (fun i hi' => by
          by_cases zi : i = n
          · rw [zi, u2_eq, up_at]
            exact rl_dd h hk (by omega)
          · rw [u2_ne2 zi, up_ne zi, svF_o (by omega)]
            exact h3 i (by omega))
        refine ⟨ih.1, ih.2.1, ih.2.2.1, ih.2.2.2.1.trans ?_, ih.2.2.2.2⟩
        exact grU_o hi.1 z (by omega) (by omega) (by omega) (by omega)
      · rw [if_neg (fun q => by rw [eG] at q; exact z q.1), pa_stop (fun q => z q.2)]
        exact ⟨h, hi, rfl, rfl, h3⟩
theorem pl_pa (s : Nat → Int32) (h : RL f 20 u) (hi : IV u c) (hc : c < 1000000) : plK f = paK u s ∧ ∀ i, i < paK u s → plG f 172 i = paS u s i := by
  have hD := hi.1.2.2.1.2
  have := sa_pa (b := 35) (a := 172) (c := c) (by omega) hc 24 (uD u) (cfF f 35 20) u s 0 (RL_cp h hi.1) hi hD (Nat.le_refl _) (fun i hi => absurd hi (Nat.not_lt_zero i))
  exact ⟨this.2.2.1, this.2.2.2.2⟩
end Gr
