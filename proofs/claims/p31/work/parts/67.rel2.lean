def SU (w u : Nat → Int32) : Prop := ∀ y, 80 ≤ y → y ≠ 446 → y < 451 → w y = u y
def SF (g f : Nat → Nat → Int32) (b : Nat) : Prop := ∀ i y, i = 3 ∨ (9 ≤ i ∧ i ≤ 14) → g (b + i) y = f (b + i) y
section RLs
variable {f g : Nat → Nat → Int32} {b c c' : Nat} {u w : Nat → Int32}
theorem us_cg {r : Nat} {t : Int32} (hr : r < 4) (h : w 448 = u 448) (hk : ∀ k j, k < uG u → j < 6 → w (80 + 6 * k + j) = u (80 + 6 * k + j)) : usU w r t = usU u r t := by
  have e : uG w = uG u := by unfold uG; rw [h]
  rw [usU_sm, usU_sm, e]
  refine sm_cg _ (fun k h => ?_)
  unfold usT
  rw [hk k (1 + r) h (by omega), hk k 5 h (by omega)]
theorem SU.nT (h : SU w u) : uT w = uT u := by unfold uT; rw [h 447 (by omega) (by omega) (by omega)]
theorem SU.nG (h : SU w u) : uG w = uG u := by unfold uG; rw [h 448 (by omega) (by omega) (by omega)]
theorem SU.nD (h : SU w u) : uD w = uD u := by unfold uD; rw [h 449 (by omega) (by omega) (by omega)]
theorem SU.nB (h : SU w u) : uB w = uB u := by unfold uB; rw [h 450 (by omega) (by omega) (by omega)]
theorem SU.us (h : SU w u) (hi : MdD u) {r : Nat} (hr : r < 4) (t : Int32) : usU w r t = usU u r t := by
  have := hi.2.1.2
  exact us_cg hr (h 448 (by omega) (by omega) (by omega)) (fun k j hk hj => h _ (by omega) (by omega) (by omega))
theorem RL_same (h : RL f b u) (hi : MdD u) (hu : SU w u) (hf : SF g f b) (h1 : RA g b w) (h2 : RT g b w) (h3 : RS g b w) (h4 : RN g b w) : RL g b w := by
  have m1 := hi.1.2
  have m2 := hi.2.1.2
  have m3 := hi.2.2.1.2
  have m4 := hi.2.2.2.2
  refine ⟨h1, h2, ⟨?_, fun k hk => ?_⟩, ⟨?_, fun k hk j hj => ?_⟩, fun k hk => ?_, fun r hr => ?_, h3, h4⟩
  · rw [hf 10 2 (by omega), hu 448 (by omega) (by omega) (by omega)]
    exact h.2.2.1.1
  · rw [hu.nG] at hk
    have q := h.2.2.1.2 k hk
    refine ⟨?_, fun j hj => ?_⟩
    · rw [show b + 10 + 1 = b + 11 from rfl, hf 11 _ (by omega), hu _ (by omega) (by omega) (by omega)]
      exact q.1
    · rw [show b + 10 + 1 = b + 11 from rfl, hf 11 _ (by omega), hu _ (by omega) (by omega) (by omega)]
      exact q.2 j hj
  · rw [hf 12 2 (by omega), hu 449 (by omega) (by omega) (by omega)]
    exact h.2.2.2.1.1
  · rw [hu.nD] at hk
    rw [show b + 12 + 1 = b + 13 from rfl, hf 13 _ (by omega), hu _ (by omega) (by omega) (by omega)]
    exact h.2.2.2.1.2 k hk j hj
  · rw [hu.nB] at hk
    rw [hf 14 _ (by omega), hu _ (by omega) (by omega) (by omega)]
    exact h.2.2.2.2.1 k hk
  · rw [hu.us hi hr, hf 3 _ (by omega)]
    refine ⟨(h.2.2.2.2.2.1 r hr).1, fun t ht => ?_⟩
    rw [hu.nT] at ht
    rw [hu.us hi hr, hf 9 _ (by omega)]
    exact (h.2.2.2.2.2.1 r hr).2 t ht
theorem IV_same (hi : IV u c) (hu : SU w u) (hs : ∀ t, t < uT u → w (8 + 12 * t + 3) = u (8 + 12 * t + 3)) (h1 : IB w) (h2 : IW w) (h3 : IT w c') : IV w c' := by
  have m1 := hi.1.1.2
  have m2 := hi.1.2.1.2
  have m3 := hi.1.2.2.1.2
  have m4 := hi.1.2.2.2.2
  refine ⟨MdD_cg hi.1 (hu _ (by omega) (by omega) (by omega)) (hu _ (by omega) (by omega) (by omega)) (hu _ (by omega) (by omega) (by omega)) (hu _ (by omega) (by omega) (by omega)), SqOk_cg hi.2.1 (hu _ (by omega) (by omega) (by omega)) (hu _ (by omega) (by omega) (by omega)) hs (fun k hk => hu _ (by omega) (by omega) (by omega)) m4, h1, h2, fun k hk => ?_, fun k hk => ?_, ⟨fun k hk => ?_, fun j k hj hk => ?_⟩, fun t ht => ?_, h3⟩
  · rw [hu.nG] at hk
    have q := hi.2.2.2.2.1 k hk
    rw [hu.nT, hu _ (by omega) (by omega) (by omega), hu _ (by omega) (by omega) (by omega)]
    refine ⟨q.1, fun r hr => ?_, q.2.2⟩
    rw [hu _ (by omega) (by omega) (by omega)]
    exact q.2.1 r hr
  · rw [hu.nD] at hk
    have q := hi.2.2.2.2.2.1 k hk
    rw [hu.nT, hu _ (by omega) (by omega) (by omega)]
    refine ⟨fun r hr => ?_, q.2⟩
    rw [hu _ (by omega) (by omega) (by omega)]
    exact q.1 r hr
  · rw [hu.nB] at hk
    rw [hu.nT, hu _ (by omega) (by omega) (by omega)]
    exact hi.2.2.2.2.2.2.1.1 k hk
  · rw [hu.nB] at hj hk
    rw [hu _ (by omega) (by omega) (by omega), hu _ (by omega) (by omega) (by omega)]
    exact hi.2.2.2.2.2.2.1.2 j k hj hk
  · rw [hu.nT] at ht
    rw [hs t ht, hu.nB]
    rcases hi.2.2.2.2.2.2.2.1 t ht with ⟨q, k, hk, e⟩ | ⟨q, e⟩
    · exact Or.inl ⟨q, k, hk, by rw [hu _ (by omega) (by omega) (by omega)]; exact e⟩
    · exact Or.inr ⟨q, fun k hk => by rw [hu _ (by omega) (by omega) (by omega)]; exact e k hk⟩
theorem SU_up {k : Nat} {v : Int32} (h : k < 80 ∨ k = 446 ∨ 451 ≤ k) : SU (upF u k v) u := fun y h1 h2 h3 => up_ne (by omega)
theorem SF_u2 {i k : Nat} {v : Int32} (h : i ≠ 3 ∧ ¬ (9 ≤ i ∧ i ≤ 14)) : SF (u2 f (b + i) k v) f b := fun j y hj => u2_ne (by omega)
theorem SF_u0 {k : Nat} {v : Int32} : SF (u2 f b k v) f b := fun j y hj => u2_ne (by omega)
theorem uT_up {k : Nat} {v : Int32} (h : k ≠ 447) : uT (upF u k v) = uT u := by unfold uT; rw [up_ne (by omega)]
theorem uG_up {k : Nat} {v : Int32} (h : k ≠ 448) : uG (upF u k v) = uG u := by unfold uG; rw [up_ne (by omega)]
theorem uD_up {k : Nat} {v : Int32} (h : k ≠ 449) : uD (upF u k v) = uD u := by unfold uD; rw [up_ne (by omega)]
theorem uB_up {k : Nat} {v : Int32} (h : k ≠ 450) : uB (upF u k v) = uB u := by unfold uB; rw [up_ne (by omega)]
theorem MdD_up {k : Nat} {v : Int32} (hi : MdD u) (h : k ≠ 447 ∧ k ≠ 448 ∧ k ≠ 449 ∧ k ≠ 450) : MdD (upF u k v) := MdD_cg hi (up_ne (by omega)) (up_ne (by omega)) (up_ne (by omega)) (up_ne (by omega))
theorem RL_cap {r : Nat} {v : Int32} (h : RL f b u) (hi : MdD u) (hr : r < 4) : RL (u2 f (b + 1) r v) b (upF u r v) := by
  have m1 := hi.1.2
  have e : uT (upF u r v) = uT u := uT_up (by omega)
  refine RL_same h hi (SU_up (by omega)) (SF_u2 (by omega)) (fun r' hr' => ?_) (fun t ht => ?_) ?_ (fun t ht ht2 => ?_)
  · refine ⟨?_, by rw [u2_ne (by omega), up_ne (by omega)]; exact (h.1 r' hr').2⟩
    by_cases z : r' = r
    · rw [z, u2_eq, up_at]
    · rw [u2_ne2 z, up_ne z]
      exact (h.1 r' hr').1
  · rw [e] at ht
    rw [u2_ne (by omega), u2_ne (by omega), u2_ne (by omega), up_ne (by omega), up_ne (by omega), up_ne (by omega)]
    refine ⟨(h.2.1 t ht).1, (h.2.1 t ht).2.1, (h.2.1 t ht).2.2.1, fun q hq => ?_⟩
    rw [u2_ne (by omega), u2_ne (by omega), up_ne (by omega), up_ne (by omega)]
    exact (h.2.1 t ht).2.2.2 q hq
  · unfold RS
    rw [u2_ne (by omega), u2_ne (by omega), u2_ne (by omega), u2_ne (by omega), u2_ne (by omega), u2_ne (by omega), up_ne (by omega), up_ne (by omega), up_ne (by omega), up_ne (by omega), up_ne (by omega), up_ne (by omega)]
    exact h.2.2.2.2.2.2.1
  · rw [e] at ht
    rw [u2_ne (by omega), u2_ne (by omega)]
    refine ⟨(h.2.2.2.2.2.2.2 t ht ht2).1, (h.2.2.2.2.2.2.2 t ht ht2).2.1, fun q hq => ?_⟩
    rw [u2_ne (by omega), u2_ne (by omega), u2_ne (by omega)]
    exact (h.2.2.2.2.2.2.2 t ht ht2).2.2 q hq
theorem RL_fund {r : Nat} {v : Int32} (h : RL f b u) (hi : MdD u) (hr : r < 4) : RL (u2 f (b + 2) r v) b (upF u (4 + r) v) := by
  have m1 := hi.1.2
  have e : uT (upF u (4 + r) v) = uT u := uT_up (by omega)
  refine RL_same h hi (SU_up (by omega)) (SF_u2 (by omega)) (fun r' hr' => ?_) (fun t ht => ?_) ?_ (fun t ht ht2 => ?_)
  · refine ⟨by rw [u2_ne (by omega), up_ne (by omega)]; exact (h.1 r' hr').1, ?_⟩
    by_cases z : r' = r
    · rw [z, u2_eq, up_at]
    · rw [u2_ne2 z, up_ne (by omega)]
      exact (h.1 r' hr').2
  · rw [e] at ht
    rw [u2_ne (by omega), u2_ne (by omega), u2_ne (by omega), up_ne (by omega), up_ne (by omega), up_ne (by omega)]
    refine ⟨(h.2.1 t ht).1, (h.2.1 t ht).2.1, (h.2.1 t ht).2.2.1, fun q hq => ?_⟩
    rw [u2_ne (by omega), u2_ne (by omega), up_ne (by omega), up_ne (by omega)]
    exact (h.2.1 t ht).2.2.2 q hq
  · unfold RS
    rw [u2_ne (by omega), u2_ne (by omega), u2_ne (by omega), u2_ne (by omega), u2_ne (by omega), u2_ne (by omega), up_ne (by omega), up_ne (by omega), up_ne (by omega), up_ne (by omega), up_ne (by omega), up_ne (by omega)]
    exact h.2.2.2.2.2.2.1
  · rw [e] at ht
    rw [u2_ne (by omega), u2_ne (by omega)]
    refine ⟨(h.2.2.2.2.2.2.2 t ht ht2).1, (h.2.2.2.2.2.2.2 t ht ht2).2.1, fun q hq => ?_⟩
    rw [u2_ne (by omega), u2_ne (by omega), u2_ne (by omega)]
    exact (h.2.2.2.2.2.2.2 t ht ht2).2.2 q hq
/-- a tenant's number of its own: weight (i = 4), points (5), the last time (6) -/
theorem RL_ten {i t : Nat} {v : Int32} (h : RL f b u) (hi : MdD u) (ht : t < uT u) (hi4 : 4 ≤ i ∧ i ≤ 6) : RL (u2 f (b + i) t v) b (upF u (8 + 12 * t + (i - 4)) v) := by
  have m1 := hi.1.2
  have e : uT (upF u (8 + 12 * t + (i - 4)) v) = uT u := uT_up (by omega)
  have key : ∀ j t', 4 ≤ j → j ≤ 6 → f (b + j) t' = u (8 + 12 * t' + (j - 4)) → u2 f (b + i) t v (b + j) t' = upF u (8 + 12 * t + (i - 4)) v (8 + 12 * t' + (j - 4)) := fun j t' h1 h2 q => by
    by_cases z : j = i ∧ t' = t
    · obtain ⟨rfl, rfl⟩ := z
      rw [u2_eq, up_at]
    · rw [u2_nn (by omega), up_ne (by omega), q]
  refine RL_same h hi (SU_up (by omega)) (SF_u2 (by omega)) (fun r' hr' => ?_) (fun t' ht' => ?_) ?_ (fun t' ht' ht2 => ?_)
  · rw [u2_ne (by omega), u2_ne (by omega), up_ne (by omega), up_ne (by omega)]
    exact h.1 r' hr'
  · rw [e] at ht'
    have q := h.2.1 t' ht'
    refine ⟨key 4 t' (by omega) (by omega) q.1, key 5 t' (by omega) (by omega) q.2.1, key 6 t' (by omega) (by omega) q.2.2.1, fun r hr => ?_⟩
    rw [u2_ne (by omega), u2_ne (by omega), up_ne (by omega), up_ne (by omega)]
    exact q.2.2.2 r hr
  · unfold RS
    rw [u2_ne (by omega), u2_ne (by omega), u2_ne (by omega), u2_ne (by omega), u2_ne (by omega), u2_ne (by omega), up_ne (by omega), up_ne (by omega), up_ne (by omega), up_ne (by omega), up_ne (by omega), up_ne (by omega)]
    exact h.2.2.2.2.2.2.1
  · rw [e] at ht'
    rw [u2_nn (by omega), u2_nn (by omega)]
    refine ⟨(h.2.2.2.2.2.2.2 t' ht' ht2).1, (h.2.2.2.2.2.2.2 t' ht' ht2).2.1, fun q hq => ?_⟩
    rw [u2_ne (by omega), u2_ne (by omega), u2_ne (by omega)]
    exact (h.2.2.2.2.2.2.2 t' ht' ht2).2.2 q hq
/-- a limit (i = 7) or a loan (8) -/
theorem RL_acc {i t r : Nat} {v : Int32} (h : RL f b u) (hi : MdD u) (ht : t < uT u) (hr : r < 4) (hi4 : 7 ≤ i ∧ i ≤ 8) : RL (u2 f (b + i) (t * 4 + r) v) b (upF u (8 + 12 * t + (4 * (i - 6) + r)) v) := by
  have m1 := hi.1.2
  have e : uT (upF u (8 + 12 * t + (4 * (i - 6) + r)) v) = uT u := uT_up (by omega)
  have key : ∀ j t' r', 7 ≤ j → j ≤ 8 → r' < 4 → f (b + j) (t' * 4 + r') = u (8 + 12 * t' + (4 * (j - 6) + r')) → u2 f (b + i) (t * 4 + r) v (b + j) (t' * 4 + r') = upF u (8 + 12 * t + (4 * (i - 6) + r)) v (8 + 12 * t' + (4 * (j - 6) + r')) := fun j t' r' h1 h2 h3 q => by
    by_cases z : j = i ∧ t' = t ∧ r' = r
    · obtain ⟨rfl, rfl, rfl⟩ := z
      rw [u2_eq, up_at]
    · rw [u2_nn (by omega), up_ne (by omega), q]
  refine RL_same h hi (SU_up (by omega)) (SF_u2 (by omega)) (fun r' hr' => ?_) (fun t' ht' => ?_) ?_ (fun t' ht' ht2 => ?_)
  · rw [u2_ne (by omega), u2_ne (by omega), up_ne (by omega), up_ne (by omega)]
    exact h.1 r' hr'
  · rw [e] at ht'
    have q := h.2.1 t' ht'
    rw [u2_ne (by omega), u2_ne (by omega), u2_ne (by omega), up_ne (by omega), up_ne (by omega), up_ne (by omega)]
    exact ⟨q.1, q.2.1, q.2.2.1, fun r' hr' => ⟨key 7 t' r' (by omega) (by omega) hr' (q.2.2.2 r' hr').1, key 8 t' r' (by omega) (by omega) hr' (q.2.2.2 r' hr').2⟩⟩
  · unfold RS
    rw [u2_ne (by omega), u2_ne (by omega), u2_ne (by omega), u2_ne (by omega), u2_ne (by omega), u2_ne (by omega), up_ne (by omega), up_ne (by omega), up_ne (by omega), up_ne (by omega), up_ne (by omega), up_ne (by omega)]
    exact h.2.2.2.2.2.2.1
  · rw [e] at ht'
    rw [u2_nn (by omega), u2_nn (by omega)]
    refine ⟨(h.2.2.2.2.2.2.2 t' ht' ht2).1, (h.2.2.2.2.2.2.2 t' ht' ht2).2.1, fun q hq => ?_⟩
    rw [u2_nn (by omega), u2_nn (by omega), u2_nn (by omega)]
    exact (h.2.2.2.2.2.2.2 t' ht' ht2).2.2 q hq
theorem RL_solv {t : Nat} {v : Int32} (h : RL f b u) (hi : MdD u) (ht : t < 6) : RL f b (upF u (8 + 12 * t + 3) v) := by
  have m1 := hi.1.2
  have e : uT (upF u (8 + 12 * t + 3) v) = uT u := uT_up (by omega)
  refine RL_same h hi (SU_up (by omega)) (fun _ _ _ => rfl) (fun r' hr' => ?_) (fun t' ht' => ?_) ?_ (fun t' ht' ht2 => ?_)
  · rw [up_ne (by omega), up_ne (by omega)]
    exact h.1 r' hr'
  · rw [e] at ht'
    have q := h.2.1 t' ht'
    rw [up_ne (by omega), up_ne (by omega), up_ne (by omega)]
    refine ⟨q.1, q.2.1, q.2.2.1, fun r' hr' => ?_⟩
    rw [up_ne (by omega), up_ne (by omega)]
    exact q.2.2.2 r' hr'
  · unfold RS
    rw [up_ne (by omega), up_ne (by omega), up_ne (by omega), up_ne (by omega), up_ne (by omega), up_ne (by omega)]
    exact h.2.2.2.2.2.2.1
  · rw [e] at ht'
    exact h.2.2.2.2.2.2.2 t' ht' ht2
/-- time, rest, next number, ruins -/
theorem RL_sc {i k : Nat} {v : Int32} (h : RL f b u) (hi : MdD u) (hik : (i = 14 ∧ k = 446) ∨ (i = 15 ∧ k = 452) ∨ (i = 16 ∧ k = 451) ∨ (i = 17 ∧ k = 453)) : RL (u2 f b i v) b (upF u k v) := by
  have m1 := hi.1.2
  have e : uT (upF u k v) = uT u := uT_up (by omega)
  have key : ∀ j m, (j = 12 ∧ m = 450) ∨ (j = 13 ∧ m = 447) ∨ (j = 14 ∧ m = 446) ∨ (j = 15 ∧ m = 452) ∨ (j = 16 ∧ m = 451) ∨ (j = 17 ∧ m = 453) → f b j = u m → u2 f b i v b j = upF u k v m := fun j m hj q => by
    by_cases z : j = i
    · obtain rfl := z
      obtain rfl : m = k := by omega
      rw [u2_eq, up_at]
    · rw [u2_ne2 z, up_ne (by omega), q]
  refine RL_same h hi (SU_up (by omega)) SF_u0 (fun r' hr' => ?_) (fun t' ht' => ?_) ?_ (fun t' ht' ht2 => ?_)
  · rw [u2_ne (by omega), u2_ne (by omega), up_ne (by omega), up_ne (by omega)]
    exact h.1 r' hr'
  · rw [e] at ht'
    have q := h.2.1 t' ht'
    rw [u2_ne (by omega), u2_ne (by omega), u2_ne (by omega), up_ne (by omega), up_ne (by omega), up_ne (by omega)]
    refine ⟨q.1, q.2.1, q.2.2.1, fun r' hr' => ?_⟩
    rw [u2_ne (by omega), u2_ne (by omega), up_ne (by omega), up_ne (by omega)]
    exact q.2.2.2 r' hr'
  · have q := h.2.2.2.2.2.2.1
    exact ⟨key _ _ (by omega) q.1, key _ _ (by omega) q.2.1, key _ _ (by omega) q.2.2.1, key _ _ (by omega) q.2.2.2.1, key _ _ (by omega) q.2.2.2.2.1, key _ _ (by omega) q.2.2.2.2.2⟩
  · rw [e] at ht'
    rw [u2_ne (by omega), u2_ne (by omega)]
    refine ⟨(h.2.2.2.2.2.2.2 t' ht' ht2).1, (h.2.2.2.2.2.2.2 t' ht' ht2).2.1, fun q hq => ?_⟩
    rw [u2_ne (by omega), u2_ne (by omega), u2_ne (by omega)]
    exact (h.2.2.2.2.2.2.2 t' ht' ht2).2.2 q hq
theorem min_ls (x : Int32) : minJ x 999 = lsU (nI 999) x := by
  unfold minJ lsU
  rw [nn_999]
  by_cases z : x ≤ 999
  · rw [if_pos z, if_neg (by rw [fa_lt']; rw [fa_le'] at z; omega)]
  · rw [if_neg z, if_pos (by rw [fa_lt']; rw [fa_le'] at z; omega)]
theorem RL_af {r : Nat} {n : Int32} (h : RL f b u) (hi : MdD u) (hr : r < 4) : RL (afF f b r n) b (cfU u r n) := by
  unfold afF cfU
  rw [min_ls, (h.1 r hr).2]
  exact RL_fund h hi hr
theorem RL_gb {t r : Nat} {n : Int32} (h : RL f b u) (hi : MdD u) (ht : t < uT u) (hr : r < 4) : RL (gbF f b t r n) b (cfU (upF (upF u (8 + 12 * t + (8 + r)) (u (8 + 12 * t + (8 + r)) + -n)) (8 + 12 * t + (4 + r)) (u (8 + 12 * t + (4 + r)) + -n)) r n) := by
  have m1 := hi.1.2
  have q := (h.2.1 t ht).2.2.2 r hr
  unfold gbF
  rw [q.1, q.2, Int32.sub_eq_add_neg, Int32.sub_eq_add_neg]
  have h1 := RL_acc (i := 8) (v := u (8 + 12 * t + (8 + r)) + -n) h hi ht hr (by omega)
  have d1 : MdD (upF u (8 + 12 * t + (8 + r)) (u (8 + 12 * t + (8 + r)) + -n)) := MdD_up hi (by omega)
  have h2 := RL_acc (i := 7) (v := u (8 + 12 * t + (4 + r)) + -n) h1 d1 (by rw [uT_up (by omega)]; exact ht) hr (by omega)
  exact RL_af h2 (MdD_up d1 (by omega)) hr
end RLs
theorem up_comm {u : Nat → Int32} {a b : Nat} {v w : Int32} (h : a ≠ b) : upF (upF u a v) b w = upF (upF u b w) a v := by
  funext y
  unfold upF
  by_cases z : y = a
  · rw [if_neg (by omega), if_pos z, if_pos z]
  · rw [if_neg z, if_neg z]
theorem u2_comm {f : Nat → Nat → Int32} {a k b j : Nat} {v w : Int32} (h : ¬ (a = b ∧ k = j)) : u2 (u2 f a k v) b j w = u2 (u2 f b j w) a k v := by
  funext x y
  simp only [u2_at]
  by_cases z : x = a ∧ y = k
  · rw [if_neg (by omega), if_pos z, if_pos z]
  · rw [if_neg z, if_neg z]
