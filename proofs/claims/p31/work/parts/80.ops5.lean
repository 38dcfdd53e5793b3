section St
variable {c : Nat} {M : Mem}
theorem rdW_k {f : Nat → Nat → Int32} {x y : Nat} (h : x ≠ 179) (h2 : x = 174 → y = 3 ∨ y = 5) : rdW f x y = f x y := by
  by_cases z : x = 174
  · subst z
    rcases h2 rfl with e | e
    · rw [e, rdW_3]
    · rw [e, rdW_5]
  · rw [rdW_o z h]
theorem s4_hu {u rd : Nat → Int32} {w : Nat} (h : UE u rd w) : (∃ i, i < 4 ∧ 0 < u i) ↔ ¬ s4U rd = nI 0 := by
  have b0 := h.2.2 0 (by omega)
  have b1 := h.2.2 1 (by omega)
  have b2 := h.2.2 2 (by omega)
  have b3 := h.2.2 3 (by omega)
  have e : (s4U rd).toInt = (rd 0).toInt + (rd 1).toInt + (rd 2).toInt + (rd 3).toInt := by
    have e1 : (rd 0 + rd 1).toInt = (rd 0).toInt + (rd 1).toInt := ti_add (by omega) (by omega)
    have e2 : (rd 0 + rd 1 + rd 2).toInt = (rd 0).toInt + (rd 1).toInt + (rd 2).toInt := by rw [ti_add (by omega) (by omega), e1]
    unfold s4U
    rw [ti_add (by omega) (by omega), e2]
  rw [nn_0]
  constructor
  · rintro ⟨i, hi, h0⟩ q
    rw [q, ti_0] at e
    rw [h.1 i hi, fa_lt', ti_0] at h0
    have : i = 0 ∨ i = 1 ∨ i = 2 ∨ i = 3 := by omega
    rcases this with z | z | z | z <;> subst z <;> omega
  · intro q
    have q2 := ti_ne q
    rw [ti_0, e] at q2
    have : 0 < (rd 0).toInt ∨ 0 < (rd 1).toInt ∨ 0 < (rd 2).toInt ∨ 0 < (rd 3).toInt := by omega
    rcases this with z | z | z | z
    · exact ⟨0, by omega, by rw [h.1 0 (by omega), fa_lt', ti_0]; exact z⟩
    · exact ⟨1, by omega, by rw [h.1 1 (by omega), fa_lt', ti_0]; exact z⟩
    · exact ⟨2, by omega, by rw [h.1 2 (by omega), fa_lt', ti_0]; exact z⟩
    · exact ⟨3, by omega, by rw [h.1 3 (by omega), fa_lt', ti_0]; exact z⟩
end St
section Dp
variable {f : Nat → Nat → Int32} {c t : Nat} {u s : Nat → Int32}
theorem dp_o {y : Nat} (hD : uD u < 24) (h : y < 320 + 5 * uD u ∨ 440 ≤ y) (h2 : y ≠ 449) : dpU u s t y = u y := by
  unfold dpU
  rw [up_ne h2, up_ne (by omega)]
  unfold dpP
  rw [if_neg (by omega)]
theorem dp_r {j : Nat} (hD : uD u < 24) (hj : j < 4) : dpU u s t (320 + 5 * uD u + j) = s j := by
  unfold dpU
  rw [up_ne (by omega), up_ne (by omega)]
  unfold dpP
  rw [if_pos (by omega), show 320 + 5 * uD u + j - (320 + 5 * uD u) = j by omega]
theorem dp_4 (hD : uD u < 24) : dpU u s t (320 + 5 * uD u + 4) = nI t := by
  unfold dpU
  rw [up_ne (by omega), up_at]
theorem dp_n (hD : uD u < 24) : uD (dpU u s t) = uD u + 1 := tN_of (show dpU u s t 449 = nI (uD u + 1) from up_at _ _ _) (by omega)
theorem RL_dp (h : RL f 20 u) (hi : MdD u) (hD : uD u < 24) (hs : ∀ r, r < 4 → f 19 r = s r) : RL (addF f 32 19 (nI t) (-1000003)) 20 (dpU u s t) := by
  have hG := hi.2.1.2
  have eD := rl_D h
  have hx : ∀ x y, x ≠ 32 → x ≠ 33 → addF f 32 19 (nI t) (-1000003) x y = f x y := fun x y h1 h2 => by
    unfold addF
    rw [u2_ne h1, u2_ne h2, u2_ne h2, addP_ne h2]
  have row : ∀ y, addF f 32 19 (nI t) (-1000003) 33 y = if y = uD u * 6 + 5 then -1000003 else if y = uD u * 6 + 4 then nI t else if uD u * 6 ≤ y ∧ y < uD u * 6 + 4 then f 19 (y - uD u * 6) else f 33 y := fun y => by
    unfold addF
    rw [show csz f 32 = uD u from eD, u2_ne (by omega), u2_at]
    by_cases z : y = uD u * 6 + 5
    · rw [if_pos ⟨rfl, z⟩, if_pos z]
    · rw [if_neg (fun q => z q.2), if_neg z, u2_at]
      by_cases z2 : y = uD u * 6 + 4
      · rw [if_pos ⟨rfl, z2⟩, if_pos z2]
      · rw [if_neg (fun q => z2 q.2), if_neg z2]
        unfold addP
        rw [show csz f 32 = uD u from eD]
        by_cases z3 : uD u * 6 ≤ y ∧ y < uD u * 6 + 4
        · rw [if_pos ⟨rfl, z3⟩, if_pos z3]
        · rw [if_neg (fun q => z3 q.2), if_neg z3]
  have hsw : SW_ (dpU u s t) u := fun y hy => dp_o hD (by omega) (by omega)
  have eT : uT (dpU u s t) = uT u := by unfold uT; rw [dp_o hD (by omega) (by omega)]
  refine RL_tab h hi hsw (dp_o hD (by omega) (by omega)) (fun i y q => hx _ _ (by omega) (by omega)) (fun y q => hx _ _ (by omega) (by omega)) ?_ (TG_cg h.2.2.1 hG (hx _ _ (by omega) (by omega)) (fun y => hx _ _ (by omega) (by omega)) (fun y q1 q2 => dp_o hD (by omega) (by omega))) ⟨?_, fun k hk j hj => ?_⟩ (fun r hr => ?_) (fun t r _ _ _ => hx _ _ (by omega) (by omega))
  · rw [hx _ _ (by omega) (by omega), dp_o hD (by omega) (by omega)]
    exact h.2.2.2.2.2.2.1.2.2.2.2.1
  · rw [show dpU u s t 449 = nI (uD u + 1) from up_at _ _ _]
    show addF f 32 19 (nI t) (-1000003) 32 2 = _
    unfold addF
    rw [u2_eq, show csz f 32 = uD u from eD]
  · rw [dp_n hD] at hk
    show addF f 32 19 (nI t) (-1000003) 33 (k * 6 + j) = _
    rw [row, if_neg (by omega)]
    by_cases z : k = uD u
    · subst z
      by_cases z4 : j = 4
      · subst z4
        rw [if_pos rfl, dp_4 hD]
      · rw [if_neg (by omega), if_pos (by omega), show uD u * 6 + j - uD u * 6 = j by omega, dp_r hD (by omega)]
        exact hs j (by omega)
    · rw [if_neg (by omega), if_neg (by omega), dp_o hD (by omega) (by omega)]
      exact rl_dd h (by omega) hj
  · have eu : ∀ q, usU (dpU u s t) r q = usU u r q := fun q => us_cg hr (dp_o hD (by omega) (by omega)) (fun k j hk hj => dp_o hD (by omega) (by omega))
    rw [eu, hx _ _ (by omega) (by omega)]
    refine ⟨(h.2.2.2.2.2.1 r hr).1, fun t' ht => ?_⟩
    rw [eT] at ht
    rw [eu, hx _ _ (by omega) (by omega)]
    exact (h.2.2.2.2.2.1 r hr).2 t' ht
theorem IV_dp (hi : IV u c) (hD : uD u < 24) (ht : t < uT u) (hs : ∀ r, r < 4 → 0 ≤ (s r).toInt ∧ (s r).toInt ≤ 99) : IV (dpU u s t) (c + 1) := by
  have hG := hi.1.2.1.2
  have hsw : SW_ (dpU u s t) u := fun y hy => dp_o hD (by omega) (by omega)
  have eT : uT (dpU u s t) = uT u := by unfold uT; rw [dp_o hD (by omega) (by omega)]
  have eG : uG (dpU u s t) = uG u := by unfold uG; rw [dp_o hD (by omega) (by omega)]
  refine IV_tab hi (MdD_d (s := uD u + 1) hi.1 (dp_o hD (by omega) (by omega)) (dp_o hD (by omega) (by omega)) (up_at _ _ _) (by omega) (dp_o hD (by omega) (by omega))) hsw (fun j hj => ?_) (fun j hj => ?_) ?_
  · rw [eG] at hj
    rw [eT, dp_o hD (by omega) (by omega), dp_o hD (by omega) (by omega)]
    obtain ⟨q1, q2, q3⟩ := hi.2.2.2.2.1 j hj
    exact ⟨q1, fun r hr => by rw [dp_o hD (by omega) (by omega)]; exact q2 r hr, q3⟩
  · rw [dp_n hD] at hj
    rw [eT]
    by_cases z : j = uD u
    · subst z
      rw [dp_4 hD]
      exact ⟨fun r hr => by rw [dp_r hD hr]; exact hs r hr, t, ht, rfl⟩
    · rw [dp_o hD (by omega) (by omega)]
      obtain ⟨q2, q3⟩ := hi.2.2.2.2.2.1 j (by omega)
      exact ⟨fun r hr => by rw [dp_o hD (by omega) (by omega)]; exact q2 r hr, q3⟩
  · have q := hi.2.2.2.2.2.2.2.2
    unfold IT at q ⊢
    rw [dp_n hD, dp_o hD (by omega) (by omega), dp_o hD (by omega) (by omega), dp_o hD (by omega) (by omega)]
    omega
end Dp
section St
variable {c : Nat} {M : Mem}
theorem rv_o {x y : Nat} (h : x ≠ 19) : mI (rvM M) x y = mI M x y := (rowF_o h : rwF (mI M) 19 (rvF (mI M)).2 x y = mI M x y)
end St
