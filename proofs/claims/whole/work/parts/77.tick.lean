/-! ===== a tick, on both sides ===== -/
def pA_ (u : Nat → Int32) (t : Nat) : Int32 := u (8 + 12 * t + 1) + (if u (8 + 12 * t + 3) = nI 1 then nI 5 * u (8 + 12 * t) - duU u t 4 else nI 0)
def pB_ (u : Nat → Int32) (t : Nat) : Int32 := pA_ u t + (if u (8 + 12 * t + 3) = nI 1 ∧ nI 0 < -pA_ u t then inU (-pA_ u t) else nI 0)
def SP (w u : Nat → Int32) : Prop := ∀ y, (∀ t, t < 6 → y ≠ 8 + 12 * t + 1) → w y = u y
def ABP (u : Nat → Int32) : Nat → Nat → Int32
  | 0 => u
  | n + 1 => upF (ABP u n) (8 + 12 * n + 1) (pB_ u n)
section Tk
variable {f : Nat → Nat → Int32} {b c : Nat} {u w : Nat → Int32}
theorem SP.tr {v : Nat → Int32} (h : SP v w) (h2 : SP w u) : SP v u := fun y hy => (h y hy).trans (h2 y hy)
theorem SP_up {t : Nat} {v : Int32} (ht : t < 6) : SP (upF u (8 + 12 * t + 1) v) u := fun y hy => up_ne (hy t ht)
theorem SP.us (h : SP w u) {r : Nat} {t : Int32} (hr : r < 4) : usU w r t = usU u r t := us_cg hr (h _ (fun t _ => by omega)) (fun k j hk hj => h _ (fun t _ => by omega))
theorem SP.pr (h : SP w u) {r : Nat} (hr : r < 4) : prU w r = prU u r := by
  unfold prU
  rw [h.us hr, h r (fun t _ => by omega)]
theorem SP.du (h : SP w u) {t : Nat} (ht : t < 6) : ∀ n, n ≤ 4 → duU w t n = duU u t n
  | 0, _ => rfl
  | n + 1, hn => by rw [duU, duU, h.du ht n (by omega), h.pr (by omega), h _ (fun t' _ => by omega)]
theorem SP.s3 (h : SP w u) {t : Nat} (ht : t < 6) : w (8 + 12 * t + 3) = u (8 + 12 * t + 3) := h _ (fun t' _ => by omega)
theorem SP.s0 (h : SP w u) {t : Nat} (ht : t < 6) : w (8 + 12 * t) = u (8 + 12 * t) := h _ (fun t' _ => by omega)
theorem SP.s2 (h : SP w u) {t : Nat} (ht : t < 6) : w (8 + 12 * t + 2) = u (8 + 12 * t + 2) := h _ (fun t' _ => by omega)
theorem tA_sp : ∀ n, n ≤ 6 → SP (tAP u n) u
  | 0, _ => fun _ _ => rfl
  | n + 1, hn => (SP_up (by omega)).tr (tA_sp n (by omega))
theorem tA_p {t : Nat} (ht : t < 6) : ∀ n, n ≤ 6 → tAP u n (8 + 12 * t + 1) = if t < n then pA_ u t else u (8 + 12 * t + 1)
  | 0, _ => by rw [if_neg (by omega)]; rfl
  | n + 1, hn => by
    have hs := tA_sp (u := u) n (by omega)
    have ih := tA_p ht n (by omega)
    rw [tAP]
    unfold tAU
    by_cases z : t = n
    · subst z
      rw [if_neg (by omega)] at ih
      rw [up_at, if_pos (show t < t + 1 by omega), ih, hs.s3 ht, hs.s0 ht, hs.du ht 4 (by omega)]
      rfl
    · rw [up_ne (by omega), ih]
      by_cases z2 : t < n
      · rw [if_pos z2, if_pos (show t < n + 1 by omega)]
      · rw [if_neg z2, if_neg (show ¬ t < n + 1 by omega)]
theorem tB_sp : ∀ n, n ≤ 6 → SP (tBP u n) u
  | 0, _ => fun _ _ => rfl
  | n + 1, hn => (SP_up (by omega)).tr (tB_sp n (by omega))
theorem tB_p {t : Nat} (ht : t < 6) : ∀ n, n ≤ 6 → tBP u n (8 + 12 * t + 1) = if t < n then u (8 + 12 * t + 1) + (if u (8 + 12 * t + 3) = nI 1 ∧ nI 0 < -u (8 + 12 * t + 1) then inU (-u (8 + 12 * t + 1)) else nI 0) else u (8 + 12 * t + 1)
  | 0, _ => by rw [if_neg (by omega)]; rfl
  | n + 1, hn => by
    have hs := tB_sp (u := u) n (by omega)
    have ih := tB_p ht n (by omega)
    rw [tBP]
    unfold tBU
    by_cases z : t = n
    · subst z
      rw [if_neg (by omega)] at ih
      rw [up_at, if_pos (show t < t + 1 by omega), ih, hs.s3 ht]
    · rw [up_ne (by omega), ih]
      by_cases z2 : t < n
      · rw [if_pos z2, if_pos (show t < n + 1 by omega)]
      · rw [if_neg z2, if_neg (show ¬ t < n + 1 by omega)]
theorem AB_sp : ∀ n, n ≤ 6 → SP (ABP u n) u
  | 0, _ => fun _ _ => rfl
  | n + 1, hn => (SP_up (by omega)).tr (AB_sp n (by omega))
theorem AB_p {t : Nat} (ht : t < 6) : ∀ n, n ≤ 6 → ABP u n (8 + 12 * t + 1) = if t < n then pB_ u t else u (8 + 12 * t + 1)
  | 0, _ => by rw [if_neg (by omega)]; rfl
  | n + 1, hn => by
    have ih := AB_p ht n (by omega)
    rw [ABP]
    by_cases z : t = n
    · subst z
      rw [up_at, if_pos (by omega)]
    · rw [up_ne (by omega), ih]
      by_cases z2 : t < n
      · rw [if_pos z2, if_pos (show t < n + 1 by omega)]
      · rw [if_neg z2, if_neg (show ¬ t < n + 1 by omega)]
theorem tB_AB {n : Nat} (hn : n ≤ 6) : tBP (tAP u n) n = ABP u n := by
  funext y
  by_cases z : ∃ t, t < 6 ∧ y = 8 + 12 * t + 1
  · obtain ⟨t, ht, rfl⟩ := z
    rw [tB_p ht n hn, AB_p ht n hn, tA_p ht n hn, (tA_sp n hn).s3 ht]
    by_cases z2 : t < n
    · rw [if_pos z2, if_pos z2, if_pos z2]
      rfl
    · rw [if_neg z2, if_neg z2, if_neg z2]
  · have h : ∀ t, t < 6 → y ≠ 8 + 12 * t + 1 := fun t ht e => z ⟨t, ht, e⟩
    rw [tB_sp n hn y h, tA_sp n hn y h, AB_sp n hn y h]
theorem u2_u2 {a k : Nat} {v v' : Int32} : u2 (u2 f a k v) a k v' = u2 f a k v' := by
  funext x y
  rw [u2_at, u2_at, u2_at]
  by_cases z : x = a ∧ y = k
  · rw [if_pos z, if_pos z]
  · rw [if_neg z, if_neg z, if_neg z]
theorem it_in (x : Int32) : x - itF (-x) = x + (if 0 < -x then inU (-x) else 0) := by
  unfold itF inU
  rw [Int32.sub_eq_add_neg, nn_9, nn_10]
  by_cases z : 0 < -x
  · rw [if_pos z, if_neg (by rw [fa_lt'] at z; rw [fa_le']; omega)]
  · rw [if_neg z, if_pos (by rw [fa_lt'] at z; rw [fa_le']; omega), Int32.neg_zero]
theorem RL_t1 (h : RL f b u) (hi : IV u c) : ∀ n, n ≤ uT u → RL (tk1 f b n) b (ABP u n) ∧ IV (ABP u n) c
  | 0, _ => ⟨h, hi⟩
  | n + 1, hn => by
    have m1 := hi.1.1.2
    obtain ⟨ih, iv⟩ := RL_t1 h hi n (by omega)
    have hs := AB_sp (u := u) n (by omega)
    have eT : uT (ABP u n) = uT u := by unfold uT; rw [hs _ (fun t _ => by omega)]
    have hn' : n < uT (ABP u n) := by omega
    have e1 := rl_isS ih iv hn'
    have e2 := rl_rn ih iv hn' 4 (by omega)
    have e3 := ih.2.1 n hn'
    have ep := AB_p (u := u) (t := n) (by omega) n (by omega)
    rw [if_neg (by omega)] at ep
    rw [hs.s3 (by omega)] at e1
    rw [hs.du (by omega) 4 (by omega)] at e2
    rw [tk1, ABP]
    unfold tk1S
    by_cases z : u (8 + 12 * n + 3) = nI 1
    · rw [if_pos (e1.mpr z)]
      unfold tkB tkA
      have ev : tk1 f b n (b + 5) n + (5 * tk1 f b n (b + 4) n - rnP (tk1 f b n) b n 4) = pA_ u n := by
        unfold pA_
        rw [e3.1, e3.2.1, e2, ep, hs.s0 (by omega), if_pos z, nn_5]
      rw [u2_eq, ev, u2_u2, it_in]
      have e5 : pA_ u n + (if 0 < -pA_ u n then inU (-pA_ u n) else 0) = pB_ u n := by
        unfold pB_
        rw [nn_0]
        by_cases z2 : 0 < -pA_ u n
        · rw [if_pos z2, if_pos ⟨z, z2⟩]
        · rw [if_neg z2, if_neg (fun q => z2 q.2)]
      rw [e5]
      exact ⟨RL_ten (i := 5) ih iv.1 hn' (by omega), IV_pt iv hn'⟩
    · rw [if_neg (fun q => z (e1.mp q))]
      have e5 : pB_ u n = ABP u n (8 + 12 * n + 1) := by
        unfold pB_ pA_
        rw [if_neg z, if_neg (fun q => z q.1), nn_0, Int32.add_zero, Int32.add_zero, ep]
      rw [e5, up_self]
      exact ⟨ih, iv⟩
theorem RL_t2 (h : RL f b u) (hi : IV u c) : ∀ n, n ≤ uT u → RL (tk2 f b n) b (tCP u n) ∧ IV (tCP u n) c ∧ uT (tCP u n) = uT u ∧ tCP u n 446 = u 446 ∧ tCP u n 452 = u 452 ∧ ∀ t, t < uT u → (tCP u n (8 + 12 * t + 3) = u (8 + 12 * t + 3) ∧ tCP u n (8 + 12 * t + 2) = u (8 + 12 * t + 2)) ∨ (t < n ∧ tCP u n (8 + 12 * t + 3) = nI 0 ∧ tCP u n (8 + 12 * t + 2) = u 446)
  | 0, _ => ⟨h, hi, rfl, rfl, rfl, fun _ _ => Or.inl ⟨rfl, rfl⟩⟩
  | n + 1, hn => by
    have m1 := hi.1.1.2
    obtain ⟨ih, iv, eT, e446, e452, hv⟩ := RL_t2 h hi n (by omega)
    have hn' : n < uT (tCP u n) := by omega
    have e1 := rl_isS ih iv hn'
    have e3 := ih.2.1 n hn'
    rw [tk2, tCP]
    unfold tk2S tCU
    have ec : (isS (tk2 f b n) b (nI n) ∧ 50 * tk2 f b n (b + 4) n < -tk2 f b n (b + 5) n) ↔ (tCP u n (8 + 12 * n + 3) = nI 1 ∧ nI 50 * tCP u n (8 + 12 * n) < -tCP u n (8 + 12 * n + 1)) := by
      rw [e1, e3.1, e3.2.1, nn_50]
    by_cases z : tCP u n (8 + 12 * n + 3) = nI 1 ∧ nI 50 * tCP u n (8 + 12 * n) < -tCP u n (8 + 12 * n + 1)
    · rw [if_pos z, if_pos (ec.mpr z)]
      have hb := slU_pos hn' z.1 iv.2.1 iv.1.1.2
      refine ⟨RL_bk ih iv hn' z.1, IV_bk iv hn' z.1, (bn_nT iv.1 (by omega) hb).trans eT, (bn_oth iv.1 (by omega) hb (by omega)).trans e446, (bn_oth iv.1 (by omega) hb (by omega)).trans e452, fun t ht => ?_⟩
      by_cases z2 : t = n
      · subst z2
        exact Or.inr ⟨by omega, bnU_st iv.1 (by omega) hb, (bn_2 iv.1 (by omega) hb).trans e446⟩
      · rw [bn_oth iv.1 (by omega) hb (by omega), bn_oth iv.1 (by omega) hb (by omega)]
        rcases hv t ht with q | ⟨q1, q2⟩
        · exact Or.inl q
        · exact Or.inr ⟨by omega, q2⟩
    · rw [if_neg z, if_neg (fun q => z (ec.mp q))]
      refine ⟨ih, iv, eT, e446, e452, fun t ht => ?_⟩
      rcases hv t ht with q | ⟨q1, q2⟩
      · exact Or.inl q
      · exact Or.inr ⟨by omega, q2⟩
theorem RL_rd (h : RL f b u) (hi : IV u c) : RL (rdF f b) b (tDU u) := by
  have hM := hi.1
  have m1 := hM.1.2
  have m2 := hM.2.1.2
  have m3 := hM.2.2.1.2
  have m4 := hM.2.2.2.2
  have eB := rl_B h
  have eTT := rl_T h
  obtain ⟨h1, h2, h3, h4, h5, h6, h7, h8⟩ := h
  by_cases z0 : 0 < uB u
  · obtain ⟨q, hq, eq⟩ := hi.2.2.2.2.2.2.1.1 0 z0
    have e14 : f (b + 14) 0 = nI q := (h5 0 z0).trans eq
    have e440 : u 440 = nI q := eq
    have ec : rdC f b ↔ tDC u := by
      unfold rdC tDC
      rw [eB, eTT, e14, e440, nI_clamp (by omega), h7.2.2.1, h7.2.2.2.1, (h2 q hq).2.2.1]
      exact ⟨fun w => ⟨w.1, w.2.2⟩, fun w => ⟨w.1, ⟨nI_ge0 (by omega), (nI_ltI (by omega) (by omega)).mpr hq⟩, w.2⟩⟩
    unfold rdF tDU
    by_cases z : tDC u
    · rw [if_pos z, if_pos (ec.mpr z), eB]
      have w450 : tDP u (uB u - 1) 450 = nI (uB u - 1) := if_pos rfl
      have wo : ∀ y, y ≠ 450 → y ≠ 8 + 12 * q + 3 → ¬ (440 ≤ y ∧ y < 440 + (uB u - 1)) → tDP u (uB u - 1) y = u y := fun y a1 a2 a3 => by
        unfold tDP
        rw [e440, nI_clamp (by omega), if_neg a1, if_neg a2, if_neg a3]
      have wq : ∀ k, k < uB u - 1 → tDP u (uB u - 1) (440 + k) = u (440 + (k + 1)) := fun k hk => by
        unfold tDP
        rw [e440, nI_clamp (by omega), if_neg (by omega), if_neg (by omega), if_pos (by omega)]
        rfl
      have fo : ∀ x y, ¬ (x = b ∧ y = 12) → x ≠ b + 14 → rdP f b (uB u - 1) x y = f x y := fun x y a1 a2 => by
        unfold rdP
        rw [if_neg a1, if_neg (fun q => a2 q.1)]
      have eT : uT (tDP u (uB u - 1)) = uT u := by unfold uT; rw [wo _ (by omega) (by omega) (by omega)]
      have eG : uG (tDP u (uB u - 1)) = uG u := by unfold uG; rw [wo _ (by omega) (by omega) (by omega)]
      have eD : uD (tDP u (uB u - 1)) = uD u := by unfold uD; rw [wo _ (by omega) (by omega) (by omega)]
      have eBn : uB (tDP u (uB u - 1)) = uB u - 1 := tN_of w450 (by omega)
      have eus : ∀ r t, r < 4 → usU (tDP u (uB u - 1)) r t = usU u r t := fun r t hr => us_cg hr (wo _ (by omega) (by omega) (by omega)) (fun k j hk hj => wo _ (by omega) (by omega) (by omega))
      refine ⟨fun r hr => ?_, fun t ht => ?_, TG_cg h3 m2 (fo _ _ (by omega) (by omega)) (fun y => fo _ _ (by omega) (by omega)) (fun y a1 a2 => wo _ (by omega) (by omega) (by omega)), TD_cg h4 m3 (fo _ _ (by omega) (by omega)) (fun y => fo _ _ (by omega) (by omega)) (fun y a1 a2 => wo _ (by omega) (by omega) (by omega)), fun k hk => ?_, fun r hr => ⟨?_, fun t ht => ?_⟩, ⟨?_, ?_, ?_, ?_, ?_, ?_⟩, fun t ht ht2 => ?_⟩
      · rw [fo _ _ (by omega) (by omega), fo _ _ (by omega) (by omega), wo _ (by omega) (by omega) (by omega), wo _ (by omega) (by omega) (by omega)]
        exact h1 r hr
      · rw [eT] at ht
        rw [fo _ _ (by omega) (by omega), fo _ _ (by omega) (by omega), fo _ _ (by omega) (by omega), wo _ (by omega) (by omega) (by omega), wo _ (by omega) (by omega) (by omega), wo _ (by omega) (by omega) (by omega)]
        refine ⟨(h2 t ht).1, (h2 t ht).2.1, (h2 t ht).2.2.1, fun r hr => ?_⟩
        rw [fo _ _ (by omega) (by omega), fo _ _ (by omega) (by omega), wo _ (by omega) (by omega) (by omega), wo _ (by omega) (by omega) (by omega)]
        exact (h2 t ht).2.2.2 r hr
      · rw [eBn] at hk
        rw [wq k hk]
        unfold rdP
        rw [if_neg (by omega), if_pos ⟨rfl, hk⟩]
        exact h5 (k + 1) (by omega)
      · rw [fo _ _ (by omega) (by omega), eus r _ hr]
        exact (h6 r hr).1
      · rw [eT] at ht
        rw [fo _ _ (by omega) (by omega), eus r _ hr]
        exact (h6 r hr).2 t ht
      · rw [rdP_b, eB, w450]
      · rw [fo _ _ (by omega) (by omega), wo _ (by omega) (by omega) (by omega)]
        exact h7.2.1
      · rw [fo _ _ (by omega) (by omega), wo _ (by omega) (by omega) (by omega)]
        exact h7.2.2.1
      · rw [fo _ _ (by omega) (by omega), wo _ (by omega) (by omega) (by omega)]
        exact h7.2.2.2.1
      · rw [fo _ _ (by omega) (by omega), wo _ (by omega) (by omega) (by omega)]
        exact h7.2.2.2.2.1
      · rw [fo _ _ (by omega) (by omega), wo _ (by omega) (by omega) (by omega)]
        exact h7.2.2.2.2.2
      · rw [eT] at ht
        rw [fo _ _ (by omega) (by omega), fo _ _ (by omega) (by omega)]
        refine ⟨(h8 t ht ht2).1, (h8 t ht ht2).2.1, fun r hr => ?_⟩
        rw [fo _ _ (by omega) (by omega), fo _ _ (by omega) (by omega), fo _ _ (by omega) (by omega)]
        exact (h8 t ht ht2).2.2 r hr
    · rw [if_neg z, if_neg (fun w => z (ec.mp w))]
      exact ⟨h1, h2, h3, h4, h5, h6, h7, h8⟩
  · unfold rdF tDU
    rw [if_neg (fun w => z0 (by have := w.1; rw [eB] at this; exact this)), if_neg (fun w => z0 w.1)]
    exact ⟨h1, h2, h3, h4, h5, h6, h7, h8⟩
theorem IV_rd (hi : IV u c) (hD : MdD (tDU u)) (hS : SqOk (tDU u)) : IV (tDU u) c ∧ uT (tDU u) = uT u ∧ tDU u 446 = u 446 ∧ ∀ t, t < uT u → (tDU u (8 + 12 * t + 2) = u (8 + 12 * t + 2)) ∧ (tDU u (8 + 12 * t + 3) = u (8 + 12 * t + 3) ∨ u (8 + 12 * t + 3) = nI 0 ∧ u 452 ≤ u 446 - u (8 + 12 * t + 2)) := by
  have hM := hi.1
  have m1 := hM.1.2
  have m2 := hM.2.1.2
  have m3 := hM.2.2.1.2
  have m4 := hM.2.2.2.2
  unfold tDU at hD hS ⊢
  by_cases z : tDC u
  · rw [if_pos z] at hD hS ⊢
    have z0 := z.1
    obtain ⟨q, hq, eq⟩ := hi.2.2.2.2.2.2.1.1 0 z0
    have e440 : u 440 = nI q := eq
    have w450 : tDP u (uB u - 1) 450 = nI (uB u - 1) := if_pos rfl
    have ws : tDP u (uB u - 1) (8 + 12 * q + 3) = nI 1 := by
      unfold tDP
      rw [e440, nI_clamp (by omega), if_neg (by omega), if_pos rfl]
    have wo : ∀ y, y ≠ 450 → y ≠ 8 + 12 * q + 3 → ¬ (440 ≤ y ∧ y < 440 + (uB u - 1)) → tDP u (uB u - 1) y = u y := fun y a1 a2 a3 => by
      unfold tDP
      rw [e440, nI_clamp (by omega), if_neg a1, if_neg a2, if_neg a3]
    have wq : ∀ k, k < uB u - 1 → tDP u (uB u - 1) (440 + k) = u (440 + (k + 1)) := fun k hk => by
      unfold tDP
      rw [e440, nI_clamp (by omega), if_neg (by omega), if_neg (by omega), if_pos (by omega)]
      rfl
    have eT : uT (tDP u (uB u - 1)) = uT u := by unfold uT; rw [wo _ (by omega) (by omega) (by omega)]
    have eG : uG (tDP u (uB u - 1)) = uG u := by unfold uG; rw [wo _ (by omega) (by omega) (by omega)]
    have eD : uD (tDP u (uB u - 1)) = uD u := by unfold uD; rw [wo _ (by omega) (by omega) (by omega)]
    have eBn : uB (tDP u (uB u - 1)) = uB u - 1 := tN_of w450 (by omega)
    have hq0 : u (8 + 12 * q + 3) = nI 0 := by
      rcases hi.2.2.2.2.2.2.2.1 q hq with ⟨a, -⟩ | ⟨-, a⟩
      · exact a
      · exact absurd eq (a 0 z0)
    have hT := hi.2.2.2.2.2.2.2.2
    refine ⟨⟨hD, hS, fun r hr => ?_, fun t ht => ?_, fun k hk => ?_, fun k hk => ?_, ⟨fun k hk => ?_, fun j k hj hk => ?_⟩, fun t ht => ?_, ?_⟩, eT, wo _ (by omega) (by omega) (by omega), fun t ht => ⟨wo _ (by omega) (by omega) (by omega), ?_⟩⟩
    · rw [wo _ (by omega) (by omega) (by omega)]
      exact hi.2.2.1 r hr
    · rw [eT] at ht
      have a := hi.2.2.2.1 t ht
      rw [wo _ (by omega) (by omega) (by omega), wo _ (by omega) (by omega) (by omega), wo 446 (by omega) (by omega) (by omega)]
      refine ⟨a.1, a.2.1, fun r hr => ?_⟩
      rw [wo _ (by omega) (by omega) (by omega), wo _ (by omega) (by omega) (by omega)]
      exact a.2.2 r hr
    · rw [eG] at hk
      obtain ⟨q1, q2, q3⟩ := hi.2.2.2.2.1 k hk
      rw [eT, wo _ (by omega) (by omega) (by omega), wo _ (by omega) (by omega) (by omega)]
      exact ⟨q1, fun r hr => by rw [wo _ (by omega) (by omega) (by omega)]; exact q2 r hr, q3⟩
    · rw [eD] at hk
      obtain ⟨q2, q3⟩ := hi.2.2.2.2.2.1 k hk
      rw [eT, wo _ (by omega) (by omega) (by omega)]
      exact ⟨fun r hr => by rw [wo _ (by omega) (by omega) (by omega)]; exact q2 r hr, q3⟩
    · rw [eBn] at hk
      rw [eT, wq k hk]
      exact hi.2.2.2.2.2.2.1.1 (k + 1) (by omega)
    · rw [eBn] at hj hk
      rw [wq j hj, wq k hk]
      intro e
      have := hi.2.2.2.2.2.2.1.2 (j + 1) (k + 1) (by omega) (by omega) e
      omega
    · rw [eT] at ht
      rw [eBn]
      by_cases z2 : t = q
      · subst z2
        rw [ws]
        refine Or.inr ⟨rfl, fun k hk e => ?_⟩
        rw [wq k hk, ← e440] at e
        have := hi.2.2.2.2.2.2.1.2 (k + 1) 0 (by omega) z0 e
        omega
      · rw [wo _ (by omega) (by omega) (by omega)]
        rcases hi.2.2.2.2.2.2.2.1 t ht with ⟨a, k, hk, e⟩ | ⟨a, e⟩
        · have hk0 : k ≠ 0 := fun e0 => by
            rw [e0, eq, nI_eq (by omega) (by omega)] at e
            exact z2 e.symm
          refine Or.inl ⟨a, k - 1, by omega, ?_⟩
          rw [wq (k - 1) (by omega), show k - 1 + 1 = k by omega]
          exact e
        · exact Or.inr ⟨a, fun k hk => by rw [wq k hk]; exact e (k + 1) (by omega)⟩
    · unfold IT at hT ⊢
      rw [eD, wo _ (by omega) (by omega) (by omega), wo _ (by omega) (by omega) (by omega), wo _ (by omega) (by omega) (by omega)]
      exact hT
    · by_cases z2 : t = q
      · subst z2
        refine Or.inr ⟨hq0, ?_⟩
        have := z.2
        rw [e440, nI_clamp (by omega)] at this
        exact this
      · exact Or.inl (wo _ (by omega) (by omega) (by omega))
  · rw [if_neg z]
    exact ⟨hi, rfl, rfl, fun t ht => ⟨rfl, Or.inl rfl⟩⟩
theorem t0_o {y : Nat} (h : y ≠ 446) : tK0 u y = u y := up_ne h
theorem IV_t0 (hi : IV u c) (ht : (u 446).toInt ≤ 100000) : IV (tK0 u) c ∧ (tK0 u 446).toInt = (u 446).toInt + 1 := by
  have hT := hi.2.2.2.2.2.2.2.2
  have m1 := hi.1.1.2
  have e0 := hT.1
  have e : (tK0 u 446).toInt = (u 446).toInt + 1 := by
    unfold tK0
    rw [up_at, nn_1, ti_add (by rw [ti_1]; omega) (by rw [ti_1]; omega), ti_1]
  have eT : uT (tK0 u) = uT u := uT_up (by omega)
  have eD : uD (tK0 u) = uD u := uD_up (by omega)
  refine ⟨IV_same hi (SU_up (by omega)) (fun t ht => up_ne (by omega)) (fun r hr => ?_) (fun t ht' => ?_) ?_, e⟩
  · rw [t0_o (by omega)]
    exact hi.2.2.1 r hr
  · rw [eT] at ht'
    have q := hi.2.2.2.1 t ht'
    rw [e, t0_o (by omega), t0_o (by omega)]
    refine ⟨q.1, by omega, fun r hr => ?_⟩
    rw [t0_o (by omega), t0_o (by omega)]
    exact q.2.2 r hr
  · unfold IT at hT ⊢
    rw [e, eD, t0_o (by omega), t0_o (by omega)]
    omega
/-- a tick -/
theorem RL_tk (h : RL f b u) (hi : IV u c) (ht : (u 446).toInt ≤ 100000) : RL (tkF f b) b (tkU u) ∧ IV (tkU u) c ∧ (tkU u 446).toInt = (u 446).toInt + 1 ∧ uT (tkU u) = uT u ∧ ∀ t, t < uT u → (u (8 + 12 * t + 3) = nI 1 → (tkU u (8 + 12 * t + 3) = nI 1 ∧ tkU u (8 + 12 * t + 2) = u (8 + 12 * t + 2)) ∨ (tkU u (8 + 12 * t + 3) = nI 0 ∧ (tkU u (8 + 12 * t + 2)).toInt = (u 446).toInt + 1)) := by
  have m1 := hi.1.1.2
  have eT := rl_T h
  obtain ⟨i0, e0⟩ := IV_t0 hi ht
  have h0 : RL (tk0 f b) b (tK0 u) := by
    have := RL_sc (i := 14) (k := 446) (v := u 446 + 1) h hi.1 (by omega)
    unfold tk0 tK0
    rw [h.2.2.2.2.2.2.1.2.2.1, nn_1]
    exact this
  have eT0 : uT (tK0 u) = uT u := uT_up (by omega)
  obtain ⟨r1, v1⟩ := RL_t1 h0 i0 (uT u) (by omega)
  have s1 := AB_sp (u := tK0 u) (uT u) m1
  have eB : tKB u = ABP (tK0 u) (uT u) := by
    unfold tKB tKA
    exact tB_AB m1
  rw [← eB] at r1 v1 s1
  have eTB : uT (tKB u) = uT u := by unfold uT; rw [s1 _ (fun t _ => by omega)]; exact eT0
  obtain ⟨r2, v2, eT2, e446, e452, hv⟩ := RL_t2 r1 v1 (uT u) (by omega)
  have hk := tkU_T ⟨hi.1, hi.2.1⟩
  obtain ⟨v3, eT3, e3, hv3⟩ := IV_rd v2 hk.1 hk.2
  have r3 := RL_rd r2 v2
  have eL : tkF f b = rdF (tk2 (tk1 (tk0 f b) b (uT u)) b (uT u)) b := by
    unfold tkF tkN tkM
    rw [eT]
  rw [eL]
  have t446 : tKB u 446 = tK0 u 446 := s1 _ (fun t _ => by omega)
  refine ⟨r3, v3, ?_, eT3.trans (eT2.trans eTB), fun t ht' hs => ?_⟩
  · show (tDU (tCP (tKB u) (uT u)) 446).toInt = _
    rw [e3, e446, t446, e0]
  · show (tDU (tCP (tKB u) (uT u)) (8 + 12 * t + 3) = nI 1 ∧ tDU (tCP (tKB u) (uT u)) (8 + 12 * t + 2) = u (8 + 12 * t + 2)) ∨ (tDU (tCP (tKB u) (uT u)) (8 + 12 * t + 3) = nI 0 ∧ (tDU (tCP (tKB u) (uT u)) (8 + 12 * t + 2)).toInt = (u 446).toInt + 1)
    have ht6 : t < 6 := by omega
    have q3 : tKB u (8 + 12 * t + 3) = nI 1 := by
      rw [s1.s3 ht6]
      unfold tK0
      rw [up_ne (by omega)]
      exact hs
    have q2 : tKB u (8 + 12 * t + 2) = u (8 + 12 * t + 2) := by
      rw [s1.s2 ht6]
      unfold tK0
      rw [up_ne (by omega)]
    obtain ⟨w2, w3⟩ := hv3 t (by omega)
    rcases hv t (by omega) with ⟨a1, a2⟩ | ⟨-, a1, a2⟩
    · left
      rw [w2, a2, q2]
      refine ⟨?_, rfl⟩
      rcases w3 with w3 | ⟨w3, -⟩
      · rw [w3, a1, q3]
      · rw [a1, q3] at w3
        exact absurd w3.symm n0n1
    · right
      rw [w2, a2, t446, e0]
      refine ⟨?_, rfl⟩
      rcases w3 with w3 | ⟨-, w4⟩
      · rw [w3, a1]
      · exfalso
        have hr := v2.2.2.2.2.2.2.2.2.2.1.1
        rw [e446, a2, Int32.sub_self, fa_le', ti_0] at w4
        omega
theorem RL_tI (h : RL f b u) (hi : IV u c) (ht : (u 446).toInt ≤ 20000) : ∀ n, n ≤ 2000 → RL (tkI f b n) b (tkN_ u n) ∧ IV (tkN_ u n) c ∧ (tkN_ u n 446).toInt = (u 446).toInt + n ∧ uT (tkN_ u n) = uT u
  | 0, _ => ⟨h, hi, by rw [tkN_]; omega, rfl⟩
  | n + 1, hn => by
    obtain ⟨a1, a2, a3, a4⟩ := RL_tI h hi ht n (by omega)
    obtain ⟨b1, b2, b3, b4, -⟩ := RL_tk a1 a2 (by omega)
    refine ⟨b1, b2, ?_, b4.trans a4⟩
    rw [tkN_, b3, a3]
    omega
end Tk
section St
variable {c : Nat} {M : Mem}
theorem st_pass (h : RR c M) (n : Int32) : psR (mI M) (mI (kpM M)) n = upaR (mI (psM M n) 175) n ∧ RR (c + 1) (mW (psM M n) (upaM (mI (psM M n)) n)) := by
  have hX := h.2.1
  have hk := kp_X h
  have e446 : mI M 20 14 = mI M 175 446 := hX.1.2.2.2.2.2.2.1.2.2.1
  unfold psR upaR psM upaM psC
  rw [e446, nn_1, nn_999, nn_9999]
  by_cases q : 1 ≤ n ∧ n ≤ 999
  · have q2 := q
    rw [fa_le', fa_le', ti_1, ti_999] at q2
    obtain ⟨k, e, hk31, ek⟩ := I_nI (v := n) (by rw [fa_le', ti_0]; omega)
    have ek2 : n.toInt = k := by rw [e, nI_toInt hk31]
    have h0 := hX.2.1.2.2.2.2.2.2.2.2.1
    have ht := hX.2.2
    by_cases z : mI M 175 446 + n ≤ 9999
    · have hg : ∀ x y, ¬ (19 < x ∧ x < 35) → tkI (mI (kpM M)) 20 k x y = mI (kpM M) x y := fun x y z => tkI_o (by omega) k
      have e5 : mI (mW (kpM M) (tkI (mI (kpM M)) 20 k)) 175 = mI M 175 := c_175 h (fun y => hg _ _ (by omega))
      have z2 := z
      rw [fa_le', ti_9999, ti_add (by omega) (by omega)] at z2
      obtain ⟨a1, a2, a3, a4⟩ := RL_tI hk.1 hk.2.1 (by omega) k (by omega)
      rw [ek, if_pos q, if_pos z, if_pos (And.intro q z), e5, if_pos q, if_pos z, if_pos (And.intro q z)]
      exact ⟨a1.2.2.2.2.2.2.1.1, RR_change h (fun x y q => hg x y (by unfold KC at q; omega)) ⟨a1, a2, by omega⟩⟩
    · rw [if_pos q, if_neg z, if_neg (fun w : (1 ≤ n ∧ n ≤ 999) ∧ mI M 175 446 + n ≤ 9999 => z w.2), if_pos q, if_neg z, if_neg (fun w : (1 ≤ n ∧ n ≤ 999) ∧ mI M 175 446 + n ≤ 9999 => z w.2)]
      exact ⟨rfl, RR_up h⟩
  · rw [if_neg q, if_neg (fun w : (1 ≤ n ∧ n ≤ 999) ∧ mI M 175 446 + n ≤ 9999 => q w.1), if_neg q, if_neg (fun w : (1 ≤ n ∧ n ≤ 999) ∧ mI M 175 446 + n ≤ 9999 => q w.1)]
    exact ⟨rfl, RR_up h⟩
end St
