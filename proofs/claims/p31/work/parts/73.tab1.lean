def shR (k j : Nat) : Nat := if j < k then j else j + 1
theorem shR_lt {k j n : Nat} (h : j < n - 1) : shR k j < n := by
  unfold shR
  by_cases z : j < k
  · rw [if_pos z]
    omega
  · rw [if_neg z]
    omega
section Tb
variable {f g : Nat → Nat → Int32} {b c d c' : Nat} {u w : Nat → Int32}
theorem ld_row {k j m : Nat} (hj : j < uD u - 1) (hm : m < 5) (hD : uD u ≤ 24) : ldU u k (320 + 5 * j + m) = u (320 + 5 * shR k j + m) := by
  unfold ldU ldP shR
  rw [if_neg (by omega)]
  by_cases z : j < k
  · rw [if_neg (by omega), if_pos z]
  · rw [if_pos (by omega), if_neg z, show 320 + 5 * j + m + 5 = 320 + 5 * (j + 1) + m by omega]
theorem lg_row {k j m : Nat} (hj : j < uG u - 1) (hm : m < 6) (hD : uG u ≤ 40) : lgU u k (80 + 6 * j + m) = u (80 + 6 * shR k j + m) := by
  unfold lgU lgP shR
  rw [if_neg (by omega)]
  by_cases z : j < k
  · rw [if_neg (by omega), if_pos z]
  · rw [if_pos (by omega), if_neg z, show 80 + 6 * j + m + 6 = 80 + 6 * (j + 1) + m by omega]
theorem rm_row {k j m : Nat} (hj : j < csz f d - 1) (hm : m < 6) : rmF f d k (d + 1) (j * 6 + m) = f (d + 1) (shR k j * 6 + m) := by
  unfold rmF rmP shR
  rw [if_neg (by omega)]
  by_cases z : j < k
  · rw [if_neg (by omega), if_pos z]
  · rw [if_pos (by omega), if_neg z, show j * 6 + m + 6 = (j + 1) * 6 + m by omega]
theorem ld_n {k : Nat} (hD : uD u ≤ 24) : uD (ldU u k) = uD u - 1 := tN_of (ldP_c u k _) (by omega)
theorem lg_n {k : Nat} (hD : uG u ≤ 40) : uG (lgU u k) = uG u - 1 := tN_of (lgP_c u k _) (by omega)
theorem TD_rm {k : Nat} (h : TD f d u) (hD : uD u ≤ 24) : TD (rmF f d k) d (ldU u k) := by
  have e := td_n h
  refine ⟨?_, fun j hj m hm => ?_⟩
  · rw [rmF_s, e]
    exact (ldP_c u k _).symm
  · rw [ld_n hD] at hj
    rw [rm_row (by omega) (by omega), ld_row hj hm hD]
    exact h.2 _ (shR_lt hj) m hm
theorem TG_rm {k : Nat} (h : TG f d u) (hD : uG u ≤ 40) : TG (rmF f d k) d (lgU u k) := by
  have e := tg_n h
  refine ⟨?_, fun j hj => ⟨?_, fun m hm => ?_⟩⟩
  · rw [rmF_s, e]
    exact (lgP_c u k _).symm
  · rw [lg_n hD] at hj
    have := lg_row (k := k) (m := 0) hj (by omega) hD
    rw [Nat.add_zero, Nat.add_zero] at this
    rw [rm_row (by omega) (by omega), this]
    exact (h.2 _ (shR_lt hj)).1
  · rw [lg_n hD] at hj
    rw [rm_row (by omega) (by omega), lg_row hj (by omega) hD]
    exact (h.2 _ (shR_lt hj)).2 m hm
theorem TG_cg (h : TG f d u) (hD : uG u ≤ 40) (h0 : g d 2 = f d 2) (h1 : ∀ y, g (d + 1) y = f (d + 1) y) (hw : ∀ y, 80 ≤ y → y < 320 ∨ y = 448 → w y = u y) : TG g d w := by
  have e : uG w = uG u := by unfold uG; rw [hw _ (by omega) (by omega)]
  refine ⟨by rw [h0, hw _ (by omega) (by omega)]; exact h.1, fun k hk => ?_⟩
  rw [e] at hk
  rw [h1, hw _ (by omega) (by omega)]
  refine ⟨(h.2 k hk).1, fun j hj => ?_⟩
  rw [h1, hw _ (by omega) (by omega)]
  exact (h.2 k hk).2 j hj
theorem TD_cg (h : TD f d u) (hD : uD u ≤ 24) (h0 : g d 2 = f d 2) (h1 : ∀ y, g (d + 1) y = f (d + 1) y) (hw : ∀ y, 320 ≤ y → y < 440 ∨ y = 449 → w y = u y) : TD g d w := by
  have e : uD w = uD u := by unfold uD; rw [hw _ (by omega) (by omega)]
  refine ⟨by rw [h0, hw _ (by omega) (by omega)]; exact h.1, fun k hk j hj => ?_⟩
  rw [e] at hk
  rw [h1, hw _ (by omega) (by omega)]
  exact h.2 k hk j hj
theorem us_lg {k r : Nat} {t : Int32} (hk : k < uG u) (hr : r < 4) (hD : uG u ≤ 40) : usU (lgU u k) r t + usT u r t k = usU u r t := by
  rw [usU_sm, usU_sm, lg_n hD]
  have := sm_rm (g := usT u r t) (k := k) (uG u - 1) (by omega)
  rw [show uG u - 1 + 1 = uG u by omega] at this
  rw [← this]
  congr 1
  refine sm_cg _ (fun j hj => ?_)
  unfold usT
  rw [lg_row hj (by omega) hD, lg_row hj (by omega) hD]
  unfold shR
  by_cases z : j < k
  · rw [if_pos z, if_pos z]
  · rw [if_neg z, if_neg z]
theorem IG_lg {k : Nat} (hi : IG u) (hD : uG u ≤ 40) (hT : uT (lgU u k) = uT u) : IG (lgU u k) := fun j hj => by
  rw [lg_n hD] at hj
  obtain ⟨q1, q2, q, q3, q4⟩ := hi _ (shR_lt (k := k) hj)
  have := lg_row (k := k) (m := 0) hj (by omega) hD
  rw [Nat.add_zero, Nat.add_zero] at this
  rw [this, lg_row hj (by omega) hD, hT]
  exact ⟨q1, fun r hr => by rw [lg_row hj (by omega) hD]; exact q2 r hr, q, q3, q4⟩
theorem ID_ld {k : Nat} (hi : ID u) (hD : uD u ≤ 24) (hT : uT (ldU u k) = uT u) : ID (ldU u k) := fun j hj => by
  rw [ld_n hD] at hj
  obtain ⟨q2, q, q3, q4⟩ := hi _ (shR_lt (k := k) hj)
  rw [ld_row hj (by omega) hD, hT]
  exact ⟨fun r hr => by rw [ld_row hj (by omega) hD]; exact q2 r hr, q, q3, q4⟩
def SW_ (w u : Nat → Int32) : Prop := ∀ y, y < 80 ∨ 440 ≤ y ∧ y ≠ 448 ∧ y ≠ 449 ∧ y ≠ 451 ∧ y < 453 → w y = u y
theorem RL_tab (h : RL f b u) (hi : MdD u) (hw : SW_ w u) (h53 : w 453 = u 453) (hf : ∀ i y, i = 1 ∨ i = 2 ∨ (4 ≤ i ∧ i ≤ 8) ∨ i = 14 → g (b + i) y = f (b + i) y) (h0 : ∀ y, y ≠ 16 → g b y = f b y) (h16 : g b 16 = w 451) (hg : TG g (b + 10) w) (hd : TD g (b + 12) w) (hu : RU g b w) (hn : ∀ t r, uT u ≤ t → t < 6 → r < 4 → g (b + 9) (t * 4 + r) = f (b + 9) (t * 4 + r)) : RL g b w := by
  have m1 := hi.1.2
  have m4 := hi.2.2.2.2
  have eT : uT w = uT u := by unfold uT; rw [hw _ (by omega)]
  have eB : uB w = uB u := by unfold uB; rw [hw _ (by omega)]
  obtain ⟨h1, h2, h3, h4, h5, h6, h7, h8⟩ := h
  refine ⟨fun r hr => ?_, fun t ht => ?_, hg, hd, fun k hk => ?_, hu, ?_, fun t ht ht2 => ?_⟩
  · rw [hf 1 _ (by omega), hf 2 _ (by omega), hw _ (by omega), hw _ (by omega)]
    exact h1 r hr
  · rw [eT] at ht
    rw [hf 4 _ (by omega), hf 5 _ (by omega), hf 6 _ (by omega), hw _ (by omega), hw _ (by omega), hw _ (by omega)]
    refine ⟨(h2 t ht).1, (h2 t ht).2.1, (h2 t ht).2.2.1, fun r hr => ?_⟩
    rw [hf 7 _ (by omega), hf 8 _ (by omega), hw _ (by omega), hw _ (by omega)]
    exact (h2 t ht).2.2.2 r hr
  · rw [eB] at hk
    rw [hf 14 _ (by omega), hw _ (by omega)]
    exact h5 k hk
  · unfold RS
    rw [h0 _ (by omega), h0 _ (by omega), h0 _ (by omega), h0 _ (by omega), h0 17 (by omega), hw _ (by omega), hw _ (by omega), hw _ (by omega), hw 452 (by omega), h53]
    exact ⟨h7.1, h7.2.1, h7.2.2.1, h7.2.2.2.1, h16, h7.2.2.2.2.2⟩
  · rw [eT] at ht
    rw [hf 5 _ (by omega), hf 6 _ (by omega)]
    refine ⟨(h8 t ht ht2).1, (h8 t ht ht2).2.1, fun r hr => ?_⟩
    rw [hf 7 _ (by omega), hf 8 _ (by omega), hn t r ht ht2 hr]
    exact (h8 t ht ht2).2.2 r hr
theorem IV_tab (hi : IV u c) (hM : MdD w) (hw : SW_ w u) (hg : IG w) (hd : ID w) (ht : IT w c') : IV w c' := by
  have m1 := hi.1.1.2
  have m4 := hi.1.2.2.2.2
  have eT : uT w = uT u := by unfold uT; rw [hw _ (by omega)]
  have eB : uB w = uB u := by unfold uB; rw [hw _ (by omega)]
  obtain ⟨i1, i2, i3, i4, i5, i6, i7, i8, i9⟩ := hi
  refine ⟨hM, SqOk_cg i2 (hw _ (by omega)) (hw _ (by omega)) (fun t ht => hw _ (by omega)) (fun k hk => hw _ (by omega)) m4, fun r hr => ?_, fun t ht => ?_, hg, hd, ⟨fun k hk => ?_, fun j k hj hk => ?_⟩, fun t ht => ?_, ht⟩
  · rw [hw _ (by omega)]
    exact i3 r hr
  · rw [eT] at ht
    rw [hw _ (by omega), hw _ (by omega), hw 446 (by omega)]
    refine ⟨(i4 t ht).1, (i4 t ht).2.1, fun r hr => ?_⟩
    rw [hw _ (by omega), hw _ (by omega)]
    exact (i4 t ht).2.2 r hr
  · rw [eB] at hk
    rw [eT, hw _ (by omega)]
    exact i7.1 k hk
  · rw [eB] at hj hk
    rw [hw _ (by omega), hw _ (by omega)]
    exact i7.2 j k hj hk
  · rw [eT] at ht
    rw [hw _ (by omega), eB]
    rcases i8 t ht with ⟨q, k, hk, e⟩ | ⟨q, e⟩
    · exact Or.inl ⟨q, k, hk, by rw [hw _ (by omega)]; exact e⟩
    · exact Or.inr ⟨q, fun k hk => by rw [hw _ (by omega)]; exact e k hk⟩
theorem ld_sw {k : Nat} (hD : uD u ≤ 24) : SW_ (ldU u k) u := fun y hy => ldU_o (by omega) (by omega) hD
theorem lg_sw {k : Nat} (hD : uG u ≤ 40) : SW_ (lgU u k) u := fun y hy => lgU_o (by omega) (by omega) hD
/-- a demand leaves -/
theorem RL_ld {k : Nat} (h : RL f b u) (hi : MdD u) : RL (rmF f (b + 12) k) b (ldU u k) := by
  have hD := hi.2.2.1.2
  have hG := hi.2.1.2
  refine RL_tab h hi (ld_sw hD) (ldU_o (by omega) (by omega) hD) (fun i y q => rmF_ne (by omega) (by omega)) (fun y q => rmF_ne (by omega) (by omega)) ?_ (TG_cg h.2.2.1 hG (rmF_ne (by omega) (by omega)) (fun y => rmF_ne (by omega) (by omega)) (fun y q1 q2 => ldU_o (by omega) (by omega) hD)) (TD_rm h.2.2.2.1 hD) (fun r hr => ?_) (fun t r _ _ _ => rmF_ne (by omega) (by omega))
  · rw [rmF_ne (by omega) (by omega), ldU_o (by omega) (by omega) hD]
    exact h.2.2.2.2.2.2.1.2.2.2.2.1
  · have eu : ∀ t, usU (ldU u k) r t = usU u r t := fun t => us_cg hr (ldU_o (by omega) (by omega) hD) (fun q j hq hj => ldU_o (by omega) (by omega) hD)
    have eT : uT (ldU u k) = uT u := by unfold uT; rw [ldU_o (by omega) (by omega) hD]
    rw [eu, rmF_ne (by omega) (by omega)]
    refine ⟨(h.2.2.2.2.2.1 r hr).1, fun t ht => ?_⟩
    rw [eT] at ht
    rw [eu, rmF_ne (by omega) (by omega)]
    exact (h.2.2.2.2.2.1 r hr).2 t ht
theorem IV_ld {k : Nat} (hi : IV u c) (hk : k < uD u) : IV (ldU u k) (c - 1) := by
  have hD := hi.1.2.2.1.2
  have hG := hi.1.2.1.2
  have eT : uT (ldU u k) = uT u := by unfold uT; rw [ldU_o (by omega) (by omega) hD]
  have eG : uG (ldU u k) = uG u := by unfold uG; rw [ldU_o (by omega) (by omega) hD]
  refine IV_tab hi (ldU_D hi.1) (ld_sw hD) (fun j hj => ?_) (ID_ld hi.2.2.2.2.2.1 hD eT) ?_
  · rw [eG] at hj
    rw [eT, ldU_o (by omega) (by omega) hD, ldU_o (by omega) (by omega) hD]
    obtain ⟨q1, q2, q3⟩ := hi.2.2.2.2.1 j hj
    exact ⟨q1, fun r hr => by rw [ldU_o (by omega) (by omega) hD]; exact q2 r hr, q3⟩
  · have q := hi.2.2.2.2.2.2.2.2
    unfold IT at q ⊢
    rw [ld_n hD, ldU_o (by omega) (by omega) hD, ldU_o (by omega) (by omega) hD, ldU_o (by omega) (by omega) hD]
    omega
/-- a grant ends -/
theorem au_v {k q r : Nat} {s : Int32} (ho : f (d + 1) (k * 6 + 4) = nI q) (hq : q < lnT f b) (hl : lnT f b ≤ 6) (hr : r < 4) : auF f b d k s (b + 3) r = f (b + 3) r + s * f (d + 1) (k * 6 + r) ∧ ∀ t, auF f b d k s (b + 9) (t * 4 + r) = if t = q then f (b + 9) (t * 4 + r) + s * f (d + 1) (k * 6 + r) else f (b + 9) (t * 4 + r) := by
  unfold auF
  rw [ho, if_pos ⟨nI_ge0 (by omega), (nI_ltI (by omega) (by omega)).mpr hq⟩, nI_clamp (by omega)]
  refine ⟨?_, fun t => ?_⟩
  · unfold auP
    rw [if_neg (by omega), if_pos ⟨rfl, hr⟩]
  · unfold auP
    by_cases z : t = q
    · rw [if_pos (by omega), if_pos z, z, show q * 4 + r - q * 4 = r by omega]
    · rw [if_neg (by omega), if_neg (by omega), if_neg z]
theorem usT_N (r k : Nat) : usT u r (-1000003) k = u (80 + 6 * k + (1 + r)) := by
  unfold usT
  rw [if_pos rfl]
theorem usT_t {r k q t : Nat} (ho : u (80 + 6 * k + 5) = nI q) (hq : q < 6) (ht : t < 6) : usT u r (nI t) k = if t = q then u (80 + 6 * k + (1 + r)) else 0 := by
  unfold usT
  rw [if_neg (nI_neN (by omega)), ho]
  by_cases z : t = q
  · rw [if_pos z, z, if_pos rfl]
  · rw [if_neg z, if_neg (fun e => z ((nI_eq (by omega) (by omega)).mp e).symm), nn_0]
theorem m1_mul (x : Int32) : (-1 : Int32) * x = -x := by
  rw [Int32.neg_mul, Int32.one_mul]
theorem sub_of {x y z : Int32} (h : x + y = z) : z + -y = x := by
  rw [← h, Int32.add_assoc, ← Int32.sub_eq_add_neg, Int32.sub_self, Int32.add_zero]
theorem RL_lg {k : Nat} (h : RL f b u) (hi : IV u c) (hk : k < uG u) : RL (rmF (auF f b (b + 10) k (-1)) (b + 10) k) b (lgU u k) := by
  have hD := hi.1.2.2.1.2
  have hG := hi.1.2.1.2
  have hT6 := hi.1.1.2
  have eT : uT (lgU u k) = uT u := by unfold uT; rw [lgU_o (by omega) (by omega) hG]
  obtain ⟨q, hq, eo⟩ := (hi.2.2.2.2.1 k hk).2.2
  have ef : f (b + 10 + 1) (k * 6 + 4) = nI q := (rl_gg h hk (j := 4) (by omega)).trans eo
  have eL := rl_T h
  have hx : ∀ x y, x ≠ b + 3 → x ≠ b + 9 → x ≠ b + 10 → x ≠ b + 11 → rmF (auF f b (b + 10) k (-1)) (b + 10) k x y = f x y := fun x y h1 h2 h3 h4 => by rw [rmF_ne (by omega) (by omega), auF_ne (by omega) (by omega)]
  refine RL_tab h hi.1 (lg_sw hG) (lgU_o (by omega) (by omega) hG) (fun i y q => hx _ _ (by omega) (by omega) (by omega) (by omega)) (fun y q => hx _ _ (by omega) (by omega) (by omega) (by omega)) ?_ (TG_rm (TG_cg (w := u) h.2.2.1 hG (auF_ne (by omega) (by omega)) (fun y => auF_ne (by omega) (by omega)) (fun _ _ _ => rfl)) hG) (TD_cg h.2.2.2.1 hD (hx _ _ (by omega) (by omega) (by omega) (by omega)) (fun y => hx _ _ (by omega) (by omega) (by omega) (by omega)) (fun y q1 q2 => lgU_o (by omega) (by omega) hG)) (fun r hr => ?_) (fun t r h1 h2 h3 => ?_)
  · rw [hx _ _ (by omega) (by omega) (by omega) (by omega), lgU_o (by omega) (by omega) hG]
    exact h.2.2.2.2.2.2.1.2.2.2.2.1
  · have av := au_v (b := b) (s := -1) ef (by omega) (by omega) hr
    have eg : f (b + 10 + 1) (k * 6 + r) = u (80 + 6 * k + (1 + r)) := rl_gg h hk (by omega)
    rw [rmF_ne (by omega) (by omega), av.1, eg, m1_mul, (h.2.2.2.2.2.1 r hr).1]
    refine ⟨?_, fun t ht => ?_⟩
    · have e := us_lg (t := -1000003) hk hr hG
      rw [usT_N] at e
      exact sub_of e
    · rw [eT] at ht
      rw [rmF_ne (by omega) (by omega), av.2 t, eg, m1_mul, (h.2.2.2.2.2.1 r hr).2 t ht]
      have e := us_lg (t := nI t) hk hr hG
      rw [usT_t eo (by omega) (by omega)] at e
      by_cases z : t = q
      · rw [if_pos z] at e ⊢
        exact sub_of e
      · rw [if_neg z, Int32.add_zero] at e
        rw [if_neg z, e]
  · have av := (au_v (b := b) (s := -1) ef (by omega) (by omega) h3).2 t
    rw [if_neg (by omega)] at av
    rw [rmF_ne (by omega) (by omega), av]
theorem IV_lg {k : Nat} (hi : IV u c) (hk : k < uG u) (hc : c ≤ c') : IV (lgU u k) c' := by
  have hD := hi.1.2.2.1.2
  have hG := hi.1.2.1.2
  have eT : uT (lgU u k) = uT u := by unfold uT; rw [lgU_o (by omega) (by omega) hG]
  have eD : uD (lgU u k) = uD u := by unfold uD; rw [lgU_o (by omega) (by omega) hG]
  refine IV_tab hi (lgU_D hi.1) (lg_sw hG) (IG_lg hi.2.2.2.2.1 hG eT) (fun j hj => ?_) ?_
  · rw [eD] at hj
    rw [eT, lgU_o (by omega) (by omega) hG]
    obtain ⟨q2, q3⟩ := hi.2.2.2.2.2.1 j hj
    exact ⟨fun r hr => by rw [lgU_o (by omega) (by omega) hG]; exact q2 r hr, q3⟩
  · have q := hi.2.2.2.2.2.2.2.2
    unfold IT at q ⊢
    rw [eD, lgU_o (by omega) (by omega) hG, lgU_o (by omega) (by omega) hG, lgU_o (by omega) (by omega) hG]
    omega
end Tb
