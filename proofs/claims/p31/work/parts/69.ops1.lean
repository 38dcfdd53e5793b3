theorem up_self (u : Nat → Int32) (k : Nat) : upF u k (u k) = u := by
  funext y
  unfold upF
  by_cases z : y = k
  · rw [if_pos z, z]
  · rw [if_neg z]
section IVs
variable {c c' : Nat} {u w : Nat → Int32}
theorem IT_up {k : Nat} {v : Int32} (h : IT u c) (hk : k ≠ 446 ∧ k ≠ 449 ∧ k ≠ 451 ∧ k ≠ 452) (hc : c ≤ c') : IT (upF u k v) c' := by
  unfold IT at h ⊢
  rw [up_ne (by omega), up_ne (by omega), up_ne (by omega), uD_up (by omega)]
  omega
theorem IV_r {r : Nat} {v : Int32} (hi : IV u c) (hr : r < 4) (h1 : 0 ≤ v.toInt) (h2 : v.toInt ≤ 999) : IV (upF u r v) c := by
  have m1 := hi.1.1.2
  refine IV_same hi (SU_up (by omega)) (fun t ht => up_ne (by omega)) (fun r' hr' => ?_) (fun t ht => ?_) (IT_up hi.2.2.2.2.2.2.2.2 (by omega) (Nat.le_refl _))
  · by_cases z : r' = r
    · rw [z, up_at]
      exact ⟨h1, h2⟩
    · rw [up_ne z]
      exact hi.2.2.1 r' hr'
  · rw [uT_up (by omega)] at ht
    rw [up_ne (by omega), up_ne (by omega), up_ne (by omega)]
    refine ⟨(hi.2.2.2.1 t ht).1, (hi.2.2.2.1 t ht).2.1, fun q hq => ?_⟩
    rw [up_ne (by omega), up_ne (by omega)]
    exact (hi.2.2.2.1 t ht).2.2 q hq
theorem IV_f {r : Nat} {v : Int32} (hi : IV u c) (hr : r < 4) : IV (upF u (4 + r) v) c := by
  have m1 := hi.1.1.2
  refine IV_same hi (SU_up (by omega)) (fun t ht => up_ne (by omega)) (fun r' hr' => ?_) (fun t ht => ?_) (IT_up hi.2.2.2.2.2.2.2.2 (by omega) (Nat.le_refl _))
  · rw [up_ne (by omega)]
    exact hi.2.2.1 r' hr'
  · rw [uT_up (by omega)] at ht
    rw [up_ne (by omega), up_ne (by omega), up_ne (by omega)]
    refine ⟨(hi.2.2.2.1 t ht).1, (hi.2.2.2.1 t ht).2.1, fun q hq => ?_⟩
    rw [up_ne (by omega), up_ne (by omega)]
    exact (hi.2.2.2.1 t ht).2.2 q hq
theorem IV_rest {v : Int32} (hi : IV u c) (h1 : 1 ≤ v.toInt) (h2 : v.toInt ≤ 99) : IV (upF u 452 v) c := by
  have m1 := hi.1.1.2
  refine IV_same hi (SU_up (by omega)) (fun t ht => up_ne (by omega)) (fun r' hr' => ?_) (fun t ht => ?_) ?_
  · rw [up_ne (by omega)]
    exact hi.2.2.1 r' hr'
  · rw [uT_up (by omega)] at ht
    rw [up_ne (by omega), up_ne (by omega), up_ne (by omega)]
    refine ⟨(hi.2.2.2.1 t ht).1, (hi.2.2.2.1 t ht).2.1, fun q hq => ?_⟩
    rw [up_ne (by omega), up_ne (by omega)]
    exact (hi.2.2.2.1 t ht).2.2 q hq
  · have q := hi.2.2.2.2.2.2.2.2
    unfold IT at q ⊢
    rw [up_ne (by omega), up_at, up_ne (by omega), uD_up (by omega)]
    omega
theorem IV_wt {t : Nat} {v : Int32} (hi : IV u c) (ht : t < uT u) (h1 : 1 ≤ v.toInt) (h2 : v.toInt ≤ 9) : IV (upF u (8 + 12 * t) v) c := by
  have m1 := hi.1.1.2
  refine IV_same hi (SU_up (by omega)) (fun t' ht' => up_ne (by omega)) (fun r' hr' => ?_) (fun t' ht' => ?_) (IT_up hi.2.2.2.2.2.2.2.2 (by omega) (Nat.le_refl _))
  · rw [up_ne (by omega)]
    exact hi.2.2.1 r' hr'
  · rw [uT_up (by omega)] at ht'
    rw [up_ne (j := 8 + 12 * t' + 2) (by omega), up_ne (j := 446) (by omega)]
    refine ⟨?_, (hi.2.2.2.1 t' ht').2.1, fun q hq => ?_⟩
    · by_cases z : t' = t
      · rw [z, up_at]
        exact ⟨h1, h2⟩
      · rw [up_ne (by omega)]
        exact (hi.2.2.2.1 t' ht').1
    · rw [up_ne (by omega), up_ne (by omega)]
      exact (hi.2.2.2.1 t' ht').2.2 q hq
theorem IV_pt {t : Nat} {v : Int32} (hi : IV u c) (ht : t < uT u) : IV (upF u (8 + 12 * t + 1) v) c := by
  have m1 := hi.1.1.2
  refine IV_same hi (SU_up (by omega)) (fun t' ht' => up_ne (by omega)) (fun r' hr' => ?_) (fun t' ht' => ?_) (IT_up hi.2.2.2.2.2.2.2.2 (by omega) (Nat.le_refl _))
  · rw [up_ne (by omega)]
    exact hi.2.2.1 r' hr'
  · rw [uT_up (by omega)] at ht'
    rw [up_ne (by omega), up_ne (by omega), up_ne (by omega)]
    refine ⟨(hi.2.2.2.1 t' ht').1, (hi.2.2.2.1 t' ht').2.1, fun q hq => ?_⟩
    rw [up_ne (by omega), up_ne (by omega)]
    exact (hi.2.2.2.1 t' ht').2.2 q hq
theorem IV_ac {t r : Nat} {v1 v2 : Int32} (hi : IV u c) (ht : t < uT u) (hr : r < 4) (h : 0 ≤ v2.toInt ∧ v2.toInt ≤ v1.toInt ∧ v1.toInt ≤ 9999) : IV (upF (upF u (8 + 12 * t + (4 + r)) v1) (8 + 12 * t + (8 + r)) v2) c := by
  have m1 := hi.1.1.2
  refine IV_same hi (fun y h1 h2 h3 => by rw [up_ne (by omega), up_ne (by omega)]) (fun t' ht' => by rw [up_ne (by omega), up_ne (by omega)]) (fun r' hr' => ?_) (fun t' ht' => ?_) (IT_up (IT_up hi.2.2.2.2.2.2.2.2 (by omega) (Nat.le_refl _)) (by omega) (Nat.le_refl _))
  · rw [up_ne (by omega), up_ne (by omega)]
    exact hi.2.2.1 r' hr'
  · rw [uT_up (by omega), uT_up (by omega)] at ht'
    rw [up_ne (by omega), up_ne (by omega), up_ne (by omega), up_ne (by omega), up_ne (by omega), up_ne (by omega)]
    refine ⟨(hi.2.2.2.1 t' ht').1, (hi.2.2.2.1 t' ht').2.1, fun q hq => ?_⟩
    by_cases z : t' = t ∧ q = r
    · obtain ⟨rfl, rfl⟩ := z
      rw [up_at, up_ne (by omega), up_at]
      exact h
    · rw [up_ne (by omega), up_ne (by omega), up_ne (by omega), up_ne (by omega)]
      exact (hi.2.2.2.1 t' ht').2.2 q hq
theorem IV_lim {t r : Nat} {v : Int32} (hi : IV u c) (ht : t < uT u) (hr : r < 4) (h1 : (u (8 + 12 * t + (8 + r))).toInt ≤ v.toInt) (h2 : v.toInt ≤ 9999) : IV (upF u (8 + 12 * t + (4 + r)) v) c := by
  have q := (hi.2.2.2.1 t ht).2.2 r hr
  have := IV_ac (v1 := v) (v2 := u (8 + 12 * t + (8 + r))) hi ht hr (by omega)
  have e : upF (upF u (8 + 12 * t + (4 + r)) v) (8 + 12 * t + (8 + r)) (u (8 + 12 * t + (8 + r))) = upF u (8 + 12 * t + (4 + r)) v := by
    have e2 := up_self (upF u (8 + 12 * t + (4 + r)) v) (8 + 12 * t + (8 + r))
    rw [up_ne (by omega)] at e2
    exact e2
  rw [e] at this
  exact this
theorem IV_up (hi : IV u c) (hc : c ≤ c') : IV u c' := IV_uw hi (fun _ _ => rfl) hc
end IVs
section St
variable {c : Nat} {M : Mem}
theorem vRk {r : Int32} (h : vR r) : ∃ k, r = nI k ∧ k < 4 ∧ r.toNatClampNeg = k := by
  obtain ⟨k, e, hk⟩ := I_lt (n := 4) h.1 h.2 (by omega)
  exact ⟨k, e, hk, by rw [e, nI_clamp (by omega)]⟩
theorem uVk {u : Nat → Int32} {t : Int32} (hi : MdD u) (h : uV u t) : ∃ k, t = nI k ∧ k < uT u ∧ t.toNatClampNeg = k := by
  have := hi.1.2
  obtain ⟨k, e, hk⟩ := I_lt (n := uT u) h.1 h.2 (by omega)
  exact ⟨k, e, hk, by rw [e, nI_clamp (by omega)]⟩
end St
