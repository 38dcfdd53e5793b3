/-! ===== type, clearText, fault, demand ===== -/
theorem RR_txt {c c' : Nat} {M : Mem} {g : Nat → Nat → Int32} (h : RR c M) (hc : c ≤ c') (hg : ∀ x y, x < 17 ∨ (19 < x ∧ x < 172) ∨ x = 175 ∨ x = 176 ∨ (x = 174 ∧ y = 3) → g x y = mI M x y) (h1 : TxD g) (h2 : MtD g) (h3 : g 17 2 = g 174 5) (h4 : ∀ y, y < tL g → g 18 y = g 178 y) : RR c' (mW M g) := by
  obtain ⟨⟨hB, hD0, hD2, hH, hTx⟩, hX, hU, hh, hP, hT, ht, hy⟩ := h
  have e1 : mU g = mU (mI M) := by unfold mU; rw [hg _ _ (by omega)]
  refine ⟨⟨hB, LedD_cg hD0 (fun y => hg _ _ (by omega)) (fun y => hg _ _ (by omega)) (fun y => hg _ _ (by omega)), LedD_cg hD2 (fun y => hg _ _ (by omega)) (fun y => hg _ _ (by omega)) (fun y => hg _ _ (by omega)), HisD_cg hH (fun x y h1 h2 => hg _ _ (by omega)), h1⟩, RX_fg hX hc (fun i y hi => hg _ _ (by omega)) (fun y hy => hg _ _ (by omega)), ?_, ?_, fun i hi => ?_, h2, h3, h4⟩
  · unfold MuD
    rw [mI_mW, e1, hg _ _ (by omega)]
    exact hU
  · rw [mI_mW, hg _ _ (by omega), hg _ _ (by omega)]
    exact hh
  · rw [mI_mW, e1] at hi
    have hi8 : i < 8 := Nat.lt_of_lt_of_le hi hU.2
    obtain ⟨j, hj, e⟩ := bk_st hB hi8
    refine RX_fg (hP i hi) hc (fun q y hq => ?_) (fun y hy => ?_)
    · rw [mI_mW, mR_mW, e]
      exact hg _ _ (by omega)
    · unfold pst
      rw [mI_mW]
      exact hg _ _ (by omega)
section St
variable {c : Nat} {M : Mem}
theorem rr_tl (h : RR c M) : tl (mI M) = tL (mI M) := by
  unfold tl tL
  rw [h.2.2.2.2.2.2.1]
theorem rr_TE {g : Nat → Nat → Int32} (h : RR c M) (h5 : g 174 5 = mI M 174 5) (h8 : ∀ y, g 178 y = mI M 178 y) : TE (mI M) g := by
  have e : tL g = tL (mI M) := by unfold tL; rw [h5]
  refine ⟨by rw [e]; exact rr_tl h, by rw [e]; exact h.2.2.2.2.2.1.2, fun y hy => ?_⟩
  rw [e] at hy
  rw [h8]
  exact h.2.2.2.2.2.2.2 y hy
theorem st_type (h : RR c M) (v : Int32) : tyR (mI M) v = utyR (mI (mW M (tyF (mI M) v))) v ∧ RR (c + 1) (mW (mW M (tyF (mI M) v)) (utyM (mI (mW M (tyF (mI M) v))) v)) := by
  have eL := rr_tl h
  have h60 := h.2.2.2.2.2.1.2
  rw [mW_mW, mI_mW]
  unfold tyR utyR utyM tyF apF
  rw [nn_0, nn_127, eL]
  by_cases q : 0 ≤ v ∧ v ≤ 127
  · by_cases z : tL (mI M) < 60
    · have eN : tL (u2 (u2 (mI M) 18 (tL (mI M)) v) 17 2 (nI (tL (mI M) + 1))) = tL (mI M) := by
        unfold tL
        rw [u2_ne (by omega), u2_ne (by omega)]
      have z6 : ¬ tL (mI M) = 60 := by omega
      rw [if_pos q, if_pos z, if_pos q, if_pos q, if_pos z, eN, if_neg z6, if_pos (And.intro q z6)]
      refine ⟨rfl, ?_⟩
      have k17 : rwF (rwF (u2 (u2 (mI M) 18 (tL (mI M)) v) 17 2 (nI (tL (mI M) + 1))) 174 (upF (u2 (u2 (mI M) 18 (tL (mI M)) v) 17 2 (nI (tL (mI M) + 1)) 174) 5 (nI (tL (mI M) + 1)))) 178 (upF (u2 (u2 (mI M) 18 (tL (mI M)) v) 17 2 (nI (tL (mI M) + 1)) 178) (tL (mI M)) v) 17 2 = nI (tL (mI M) + 1) := by rw [rw_ne (by omega), rw_ne (by omega), u2_eq]
      have k5 : rwF (rwF (u2 (u2 (mI M) 18 (tL (mI M)) v) 17 2 (nI (tL (mI M) + 1))) 174 (upF (u2 (u2 (mI M) 18 (tL (mI M)) v) 17 2 (nI (tL (mI M) + 1)) 174) 5 (nI (tL (mI M) + 1)))) 178 (upF (u2 (u2 (mI M) 18 (tL (mI M)) v) 17 2 (nI (tL (mI M) + 1)) 178) (tL (mI M)) v) 174 5 = nI (tL (mI M) + 1) := by rw [rw_ne (by omega), rw_at, up_at]
      have kx : ∀ x y, x < 17 ∨ (19 < x ∧ x < 172) ∨ x = 175 ∨ x = 176 ∨ (x = 174 ∧ y = 3) → rwF (rwF (u2 (u2 (mI M) 18 (tL (mI M)) v) 17 2 (nI (tL (mI M) + 1))) 174 (upF (u2 (u2 (mI M) 18 (tL (mI M)) v) 17 2 (nI (tL (mI M) + 1)) 174) 5 (nI (tL (mI M) + 1)))) 178 (upF (u2 (u2 (mI M) 18 (tL (mI M)) v) 17 2 (nI (tL (mI M) + 1)) 178) (tL (mI M)) v) x y = mI M x y := fun x y hx => by
        rw [rw_ne (by omega)]
        by_cases z4 : x = 174
        · subst z4
          rw [rw_at, up_ne (by omega), u2_ne (by omega), u2_ne (by omega)]
        · rw [rw_ne z4, u2_ne (by omega), u2_ne (by omega)]
      have kb : ∀ y, rwF (rwF (u2 (u2 (mI M) 18 (tL (mI M)) v) 17 2 (nI (tL (mI M) + 1))) 174 (upF (u2 (u2 (mI M) 18 (tL (mI M)) v) 17 2 (nI (tL (mI M) + 1)) 174) 5 (nI (tL (mI M) + 1)))) 178 (upF (u2 (u2 (mI M) 18 (tL (mI M)) v) 17 2 (nI (tL (mI M) + 1)) 178) (tL (mI M)) v) 18 y = if y = tL (mI M) then v else mI M 18 y := fun y => by
        rw [rw_ne (by omega), rw_ne (by omega), u2_ne (by omega), u2_at]
        by_cases zy : y = tL (mI M)
        · rw [if_pos ⟨rfl, zy⟩, if_pos zy]
        · rw [if_neg (fun w => zy w.2), if_neg zy]
      have kc : ∀ y, rwF (rwF (u2 (u2 (mI M) 18 (tL (mI M)) v) 17 2 (nI (tL (mI M) + 1))) 174 (upF (u2 (u2 (mI M) 18 (tL (mI M)) v) 17 2 (nI (tL (mI M) + 1)) 174) 5 (nI (tL (mI M) + 1)))) 178 (upF (u2 (u2 (mI M) 18 (tL (mI M)) v) 17 2 (nI (tL (mI M) + 1)) 178) (tL (mI M)) v) 178 y = if y = tL (mI M) then v else mI M 178 y := fun y => by
        rw [rw_at]
        by_cases zy : y = tL (mI M)
        · rw [if_pos zy, zy, up_at]
        · rw [if_neg zy, up_ne zy, u2_ne (by omega), u2_ne (by omega)]
      generalize rwF (rwF (u2 (u2 (mI M) 18 (tL (mI M)) v) 17 2 (nI (tL (mI M) + 1))) 174 (upF (u2 (u2 (mI M) 18 (tL (mI M)) v) 17 2 (nI (tL (mI M) + 1)) 174) 5 (nI (tL (mI M) + 1)))) 178 (upF (u2 (u2 (mI M) 18 (tL (mI M)) v) 17 2 (nI (tL (mI M) + 1)) 178) (tL (mI M)) v) = G at *
      have eG : tL G = tL (mI M) + 1 := tN_of k5 (by omega)
      have eG2 : tl G = tL (mI M) + 1 := tN_of k17 (by omega)
      refine RR_txt h (Nat.le_succ _) kx ⟨by rw [eG2, k17], by rw [eG2]; omega⟩ ⟨by rw [eG, k5], by rw [eG]; omega⟩ (by rw [k17, k5]) (fun y hy => ?_)
      rw [eG] at hy
      rw [kb, kc]
      by_cases zy : y = tL (mI M)
      · rw [if_pos zy, if_pos zy]
      · rw [if_neg zy, if_neg zy]
        exact h.2.2.2.2.2.2.2 y (by omega)
    · have z6 : tL (mI M) = 60 := by omega
      rw [if_pos q, if_neg z, if_pos q, if_pos q, if_neg z, if_pos z6, if_neg (fun w : _ ∧ ¬ tL (mI M) = 60 => w.2 z6)]
      exact ⟨rfl, RR_up h⟩
  · rw [if_neg q, if_neg q, if_neg q, if_neg (fun w : (0 ≤ v ∧ v ≤ 127) ∧ _ => q w.1)]
    exact ⟨rfl, RR_up h⟩
theorem st_clear (h : RR c M) : nI (tl (mI M)) = nI (tL (mI (mW M (u2 (mI M) 17 2 0)))) ∧ RR (c + 1) (mW (mW M (u2 (mI M) 17 2 0)) (rwF (mI (mW M (u2 (mI M) 17 2 0))) 174 (upF (mI (mW M (u2 (mI M) 17 2 0)) 174) 5 (nI 0)))) := by
  have eL := rr_tl h
  rw [mW_mW, mI_mW]
  have eN : tL (u2 (mI M) 17 2 0) = tL (mI M) := by
    unfold tL
    rw [u2_ne (by omega)]
  rw [eN, eL]
  refine ⟨rfl, ?_⟩
  have k17 : rwF (u2 (mI M) 17 2 0) 174 (upF (u2 (mI M) 17 2 0 174) 5 (nI 0)) 17 2 = nI 0 := by rw [rw_ne (by omega), u2_eq, nn_0]
  have k5 : rwF (u2 (mI M) 17 2 0) 174 (upF (u2 (mI M) 17 2 0 174) 5 (nI 0)) 174 5 = nI 0 := by rw [rw_at, up_at]
  have e1 : tl (rwF (u2 (mI M) 17 2 0) 174 (upF (u2 (mI M) 17 2 0 174) 5 (nI 0))) = 0 := tN_of k17 (by omega)
  have e2 : tL (rwF (u2 (mI M) 17 2 0) 174 (upF (u2 (mI M) 17 2 0 174) 5 (nI 0))) = 0 := tN_of k5 (by omega)
  refine RR_txt h (Nat.le_succ _) (fun x y hx => ?_) ⟨by rw [e1, k17], by rw [e1]; omega⟩ ⟨by rw [e2, k5], by rw [e2]; omega⟩ (by rw [k17, k5]) (fun y hy => by rw [e2] at hy; omega)
  by_cases z4 : x = 174
  · subst z4
    rw [rw_at, up_ne (by omega), u2_ne (by omega)]
  · rw [rw_ne z4, u2_ne (by omega)]
theorem rdW_k {f : Nat → Nat → Int32} {x y : Nat} (h : x ≠ 179) (h2 : x = 174 → y = 3 ∨ y = 5) : rdW f x y = f x y := by
  by_cases z : x = 174
  · subst z
    rcases h2 rfl with e | e
    · rw [e, rdW_3]
    · rw [e, rdW_5]
  · rw [rdW_o z h]
/-- reading the text changes no state -/
theorem RR_rd {c' : Nat} (h : RR c M) (hc : c ≤ c') {g : Nat → Nat → Int32} (hg : ∀ x y, x ≠ 19 → g x y = mI M x y) : RR c' (mW M (rdW g)) := by
  have k : ∀ x y, x ≠ 19 → x ≠ 179 → (x = 174 → y = 3 ∨ y = 5) → rdW g x y = mI M x y := fun x y a1 a2 a3 => by rw [rdW_k a2 a3, hg x y a1]
  have e2 : tL (rdW g) = tL (mI M) := by unfold tL; rw [k _ _ (by omega) (by omega) (by omega)]
  have e1 : tl (rdW g) = tl (mI M) := by unfold tl; rw [k _ _ (by omega) (by omega) (by omega)]
  refine RR_txt h hc (fun x y hx => k _ _ (by omega) (by omega) (by omega)) (TxD_cg h.1.2.2.2.2 (k _ _ (by omega) (by omega) (by omega))) ⟨?_, ?_⟩ ?_ (fun y hy => ?_)
  · rw [e2, k _ _ (by omega) (by omega) (by omega)]
    exact h.2.2.2.2.2.1.1
  · rw [e2]
    exact h.2.2.2.2.2.1.2
  · rw [k _ _ (by omega) (by omega) (by omega), k _ _ (by omega) (by omega) (by omega)]
    exact h.2.2.2.2.2.2.1
  · rw [e2] at hy
    rw [k _ _ (by omega) (by omega) (by omega), k _ _ (by omega) (by omega) (by omega)]
    exact h.2.2.2.2.2.2.2 y hy
theorem RR_rv (h : RR c M) : RR c (rvM M) := by
  refine RR_txt h (Nat.le_refl _) (fun x y hx => rowF_o (by omega)) (TxD_cg h.1.2.2.2.2 (rowF_o (by omega))) h.2.2.2.2.2.1 h.2.2.2.2.2.2.1 h.2.2.2.2.2.2.2
theorem st_fault (h : RR c M) : (rvF (mI M)).1 = (rdX (mI (rvM M))).1 ∧ RR (c + 1) (mW (rvM M) (rdW (mI (rvM M)))) := by
  refine ⟨(te_rd (rr_TE h (rowF_o (by omega)) (fun y => rowF_o (by omega)))).1, ?_⟩
  exact RR_rd h (Nat.le_succ _) (g := mI (rvM M)) (fun x y hx => rowF_o hx)
theorem s4_hu {u rd : Nat → Int32} {w : Nat} (h : UE u rd w) : (∃ i, i < 4 ∧ 0 < u i) ↔ ¬ s4U rd = nI 0 := by
  have b0 := h.2.2 0 (by omega)
  have b1 := h.2.2 1 (by omega)
  have b2 := h.2.2 2 (by omega)
  have b3 := h.2.2 3 (by omega)
  have e : (s4U rd).toInt = (rd 0).toInt + (rd 1).toInt + (rd 2).toInt + (rd 3).toInt := by
    have e1 : (rd 0 + rd 1).toInt = (rd 0).toInt + (rd 1).toInt := ti_add (by omega) (by omega)
    have e2 : (rd 0 + rd 1 + rd 2).toInt = (rd 0).toInt + (rd 1).toInt + (rd 2).toInt := by rw [ti_add (by omega) (by omega), e1]
    unfold s4U
    rw [ti_add (by omega) (by omega), e2]
  rw [nn_0]
  constructor
  · rintro ⟨i, hi, h0⟩ q
    rw [q, ti_0] at e
    rw [h.1 i hi, fa_lt', ti_0] at h0
    have : i = 0 ∨ i = 1 ∨ i = 2 ∨ i = 3 := by omega
    rcases this with z | z | z | z <;> subst z <;> omega
  · intro q
    have q2 := ti_ne q
    rw [ti_0, e] at q2
    have : 0 < (rd 0).toInt ∨ 0 < (rd 1).toInt ∨ 0 < (rd 2).toInt ∨ 0 < (rd 3).toInt := by omega
    rcases this with z | z | z | z
    · exact ⟨0, by omega, by rw [h.1 0 (by omega), fa_lt', ti_0]; exact z⟩
    · exact ⟨1, by omega, by rw [h.1 1 (by omega), fa_lt', ti_0]; exact z⟩
    · exact ⟨2, by omega, by rw [h.1 2 (by omega), fa_lt', ti_0]; exact z⟩
    · exact ⟨3, by omega, by rw [h.1 3 (by omega), fa_lt', ti_0]; exact z⟩
end St
section Dp
variable {f : Nat → Nat → Int32} {c t : Nat} {u s : Nat → Int32}
theorem dp_o {y : Nat} (hD : uD u < 24) (h : y < 320 + 5 * uD u ∨ 440 ≤ y) (h2 : y ≠ 449) : dpU u s t y = u y := by
  unfold dpU
  rw [up_ne h2, up_ne (by omega)]
  unfold dpP
  rw [if_neg (by omega)]
theorem dp_r {j : Nat} (hD : uD u < 24) (hj : j < 4) : dpU u s t (320 + 5 * uD u + j) = s j := by
  unfold dpU
  rw [up_ne (by omega), up_ne (by omega)]
  unfold dpP
  rw [if_pos (by omega), show 320 + 5 * uD u + j - (320 + 5 * uD u) = j by omega]
theorem dp_4 (hD : uD u < 24) : dpU u s t (320 + 5 * uD u + 4) = nI t := by
  unfold dpU
  rw [up_ne (by omega), up_at]
theorem dp_n (hD : uD u < 24) : uD (dpU u s t) = uD u + 1 := tN_of (show dpU u s t 449 = nI (uD u + 1) from up_at _ _ _) (by omega)
theorem RL_dp (h : RL f 20 u) (hi : MdD u) (hD : uD u < 24) (hs : ∀ r, r < 4 → f 19 r = s r) : RL (addF f 32 19 (nI t) (-1000003)) 20 (dpU u s t) := by
  have hG := hi.2.1.2
  have eD := rl_D h
  have hx : ∀ x y, x ≠ 32 → x ≠ 33 → addF f 32 19 (nI t) (-1000003) x y = f x y := fun x y h1 h2 => by
    unfold addF
    rw [u2_ne h1, u2_ne h2, u2_ne h2, addP_ne h2]
  have row : ∀ y, addF f 32 19 (nI t) (-1000003) 33 y = if y = uD u * 6 + 5 then -1000003 else if y = uD u * 6 + 4 then nI t else if uD u * 6 ≤ y ∧ y < uD u * 6 + 4 then f 19 (y - uD u * 6) else f 33 y := fun y => by
    unfold addF
    rw [show csz f 32 = uD u from eD, u2_ne (by omega), u2_at]
    by_cases z : y = uD u * 6 + 5
    · rw [if_pos ⟨rfl, z⟩, if_pos z]
    · rw [if_neg (fun q => z q.2), if_neg z, u2_at]
      by_cases z2 : y = uD u * 6 + 4
      · rw [if_pos ⟨rfl, z2⟩, if_pos z2]
      · rw [if_neg (fun q => z2 q.2), if_neg z2]
        unfold addP
        rw [show csz f 32 = uD u from eD]
        by_cases z3 : uD u * 6 ≤ y ∧ y < uD u * 6 + 4
        · rw [if_pos ⟨rfl, z3⟩, if_pos z3]
        · rw [if_neg (fun q => z3 q.2), if_neg z3]
  have hsw : SW_ (dpU u s t) u := fun y hy => dp_o hD (by omega) (by omega)
  have eT : uT (dpU u s t) = uT u := by unfold uT; rw [dp_o hD (by omega) (by omega)]
  refine RL_tab h hi hsw (dp_o hD (by omega) (by omega)) (fun i y q => hx _ _ (by omega) (by omega)) (fun y q => hx _ _ (by omega) (by omega)) ?_ (TG_cg h.2.2.1 hG (hx _ _ (by omega) (by omega)) (fun y => hx _ _ (by omega) (by omega)) (fun y q1 q2 => dp_o hD (by omega) (by omega))) ⟨?_, fun k hk j hj => ?_⟩ (fun r hr => ?_) (fun t r _ _ _ => hx _ _ (by omega) (by omega))
  · rw [hx _ _ (by omega) (by omega), dp_o hD (by omega) (by omega)]
    exact h.2.2.2.2.2.2.1.2.2.2.2.1
  · rw [show dpU u s t 449 = nI (uD u + 1) from up_at _ _ _]
    show addF f 32 19 (nI t) (-1000003) 32 2 = _
    unfold addF
    rw [u2_eq, show csz f 32 = uD u from eD]
  · rw [dp_n hD] at hk
    show addF f 32 19 (nI t) (-1000003) 33 (k * 6 + j) = _
    rw [row, if_neg (by omega)]
    by_cases z : k = uD u
    · subst z
      by_cases z4 : j = 4
      · subst z4
        rw [if_pos rfl, dp_4 hD]
      · rw [if_neg (by omega), if_pos (by omega), show uD u * 6 + j - uD u * 6 = j by omega, dp_r hD (by omega)]
        exact hs j (by omega)
    · rw [if_neg (by omega), if_neg (by omega), dp_o hD (by omega) (by omega)]
      exact rl_dd h (by omega) hj
  · have eu : ∀ q, usU (dpU u s t) r q = usU u r q := fun q => us_cg hr (dp_o hD (by omega) (by omega)) (fun k j hk hj => dp_o hD (by omega) (by omega))
    rw [eu, hx _ _ (by omega) (by omega)]
    refine ⟨(h.2.2.2.2.2.1 r hr).1, fun t' ht => ?_⟩
    rw [eT] at ht
    rw [eu, hx _ _ (by omega) (by omega)]
    exact (h.2.2.2.2.2.1 r hr).2 t' ht
theorem IV_dp (hi : IV u c) (hD : uD u < 24) (ht : t < uT u) (hs : ∀ r, r < 4 → 0 ≤ (s r).toInt ∧ (s r).toInt ≤ 99) : IV (dpU u s t) (c + 1) := by
  have hG := hi.1.2.1.2
  have hsw : SW_ (dpU u s t) u := fun y hy => dp_o hD (by omega) (by omega)
  have eT : uT (dpU u s t) = uT u := by unfold uT; rw [dp_o hD (by omega) (by omega)]
  have eG : uG (dpU u s t) = uG u := by unfold uG; rw [dp_o hD (by omega) (by omega)]
  refine IV_tab hi (MdD_d (s := uD u + 1) hi.1 (dp_o hD (by omega) (by omega)) (dp_o hD (by omega) (by omega)) (up_at _ _ _) (by omega) (dp_o hD (by omega) (by omega))) hsw (fun j hj => ?_) (fun j hj => ?_) ?_
  · rw [eG] at hj
    rw [eT, dp_o hD (by omega) (by omega), dp_o hD (by omega) (by omega)]
    obtain ⟨q1, q2, q3⟩ := hi.2.2.2.2.1 j hj
    exact ⟨q1, fun r hr => by rw [dp_o hD (by omega) (by omega)]; exact q2 r hr, q3⟩
  · rw [dp_n hD] at hj
    rw [eT]
    by_cases z : j = uD u
    · subst z
      rw [dp_4 hD]
      exact ⟨fun r hr => by rw [dp_r hD hr]; exact hs r hr, t, ht, rfl⟩
    · rw [dp_o hD (by omega) (by omega)]
      obtain ⟨q2, q3⟩ := hi.2.2.2.2.2.1 j (by omega)
      exact ⟨fun r hr => by rw [dp_o hD (by omega) (by omega)]; exact q2 r hr, q3⟩
  · have q := hi.2.2.2.2.2.2.2.2
    unfold IT at q ⊢
    rw [dp_n hD, dp_o hD (by omega) (by omega), dp_o hD (by omega) (by omega), dp_o hD (by omega) (by omega)]
    omega
end Dp
section St
variable {c : Nat} {M : Mem}
theorem rv_o {x y : Nat} (h : x ≠ 19) : mI (rvM M) x y = mI M x y := (rowF_o h : rwF (mI M) 19 (rvF (mI M)).2 x y = mI M x y)
theorem st_demand (h : RR c M) (t : Int32) : dmR (mI M) t = udmR (mI (dmM M t)) t ∧ RR (c + 1) (mW (dmM M t) (udmM (mI (dmM M t)) t)) := by
  have hX := h.2.1
  have m3 := hX.2.1.1.2.2.1.2
  have eT := rl_T hX.1
  have eD : csz (mI M) 32 = uD (mI M 175) := rl_D hX.1
  unfold dmR dmM
  by_cases q : uV (mI M 175) t
  · have q' : vT (mI M) t := by rw [vT_uV h]; exact q
    obtain ⟨k, e, hk6, ek⟩ := uVk hX.2.1.1 q
    have m1 := hX.2.1.1.1.2
    have eb := rl_isB hX.1 hX.2.1 hk6
    rw [← e] at eb
    rw [if_pos q', if_pos q']
    by_cases zb : isB (mI M) 20 t
    · have z0 := eb.mp zb
      rw [if_pos (Or.inl zb), if_pos zb]
      unfold udmR udmM
      rw [if_pos q, if_pos q, ek, if_pos (Or.inl z0), if_pos (Or.inl (Or.inl z0))]
      exact ⟨rfl, RR_rd h (Nat.le_succ _) (fun _ _ _ => rfl)⟩
    · have z0 : ¬ mI M 175 (8 + 12 * k + 3) = nI 0 := fun w => zb (eb.mpr w)
      rw [if_neg zb]
      -- what the model reads: the same text, whatever the memory
      have key : ∀ G : Nat → Nat → Int32, G 174 5 = mI M 174 5 → (∀ y, G 178 y = mI M 178 y) → (rvF (mI M)).1 = (rdX G).1 ∧ ((rdX G).1 = -1000003 → ∃ w, UE (rvF (mI M)).2 (rdX G).2.1 w) := fun G g5 g8 => te_rd (rr_TE h g5 g8)
      have hu : ∀ u : Nat → Int32, (bv (huF (rwF (mI M) 19 u)) = 0) = ¬ ∃ i, i < 4 ∧ 0 < u i := fun u => by
        rw [bv_0]
        unfold huF
        rw [rw_at]
      have hbv := hu (rvF (mI M)).2
      rw [eD]
      by_cases zF : (rvF (mI M)).1 = -1000003
      · by_cases zH : ∃ i, i < 4 ∧ 0 < (rvF (mI M)).2 i
        · have zB : ¬ bv (huF (rwF (mI M) 19 (rvF (mI M)).2)) = 0 := fun w => (hbv.mp w) zH
          rw [if_neg (fun w : isB (mI M) 20 t ∨ ¬ (rvF (mI M)).1 = -1000003 ∨ bv (huF (rwF (mI M) 19 (rvF (mI M)).2)) = 0 => w.elim zb (fun w => w.elim (fun w => w zF) zB))]
          by_cases z24 : 24 ≤ uD (mI M 175)
          · have z24' : uD (mI M 175) = 24 := by omega
            rw [if_pos z24, if_pos (Or.inr (Or.inr z24))]
            have kk := key (mI (rvM M)) (rv_o (by omega)) (fun y => rv_o (by omega))
            obtain ⟨w, hw⟩ := kk.2 (kk.1.symm.trans zF)
            have zS := (s4_hu hw).mp zH
            have e5 : mI (rvM M) 175 = mI M 175 := funext fun y => rv_o (by omega)
            unfold udmR udmM
            rw [e5, if_pos q, if_pos q, ek, if_neg (fun w : _ ∨ _ => w.elim z0 (fun w => w.elim (fun w => w (kk.1.symm.trans zF)) zS)), if_pos z24', if_pos (Or.inr z24')]
            exact ⟨rfl, RR_rd h (Nat.le_succ _) (g := mI (rvM M)) (fun x y hx => rv_o hx)⟩
          · rw [if_neg z24, if_neg (fun w : ¬ (rvF (mI M)).1 = -1000003 ∨ bv (huF (rwF (mI M) 19 (rvF (mI M)).2)) = 0 ∨ 24 ≤ uD (mI M 175) => w.elim (fun w => w zF) (fun w => w.elim zB z24))]
            have hN := RR_rv h
            have hk := kp_X hN
            have e5N : mI (rvM M) 175 = mI M 175 := funext fun y => rv_o (by omega)
            have g1 : ∀ x y, x < 50 ∨ 171 < x → mI (kpM (rvM M)) x y = mI (rvM M) x y := fun x y hx => kp_i hN.1.1 hN.1.2.2.2.1 hx
            have hx : ∀ x y, x ≠ 32 → x ≠ 33 → addF (mI (kpM (rvM M))) 32 19 t (-1000003) x y = mI (kpM (rvM M)) x y := fun x y h1 h2 => by
              unfold addF
              rw [u2_ne h1, u2_ne h2, u2_ne h2, addP_ne h2]
            rw [show mI (mW (kpM (rvM M)) (addF (mI (kpM (rvM M))) 32 19 t (-1000003))) = addF (mI (kpM (rvM M))) 32 19 t (-1000003) from rfl]
            have e5 : addF (mI (kpM (rvM M))) 32 19 t (-1000003) 175 = mI M 175 := funext fun y => by
              rw [hx _ _ (by omega) (by omega), g1 _ _ (by omega), e5N]
            have kk := key (addF (mI (kpM (rvM M))) 32 19 t (-1000003)) (by rw [hx _ _ (by omega) (by omega), g1 _ _ (by omega)]; exact rv_o (by omega)) (fun y => by rw [hx _ _ (by omega) (by omega), g1 _ _ (by omega)]; exact rv_o (by omega))
            obtain ⟨w, hw⟩ := kk.2 (kk.1.symm.trans zF)
            have zS := (s4_hu hw).mp zH
            have z24' : ¬ uD (mI M 175) = 24 := by omega
            have nS : ¬ (mI M 175 (8 + 12 * k + 3) = nI 0 ∨ ¬ (rdX (addF (mI (kpM (rvM M))) 32 19 t (-1000003))).1 = -1000003 ∨ s4U (rdX (addF (mI (kpM (rvM M))) 32 19 t (-1000003))).2.1 = nI 0) := fun w => w.elim z0 (fun w => w.elim (fun w => w (kk.1.symm.trans zF)) zS)
            unfold udmR udmM
            rw [e5, if_pos q, if_pos q, ek, if_neg nS, if_neg z24', if_neg (fun w : _ ∨ uD (mI M 175) = 24 => w.elim nS z24')]
            refine ⟨rfl, ?_⟩
            have eF : ∀ x y, KC x y → rdW (addF (mI (kpM (rvM M))) 32 19 t (-1000003)) x y = mI (kpM (rvM M)) x y := fun x y z => by
              rw [rdW_k (by unfold KC at z; omega) (by unfold KC at z; omega), hx _ _ (by unfold KC at z; omega) (by unfold KC at z; omega)]
            have hRL := RL_dp (t := k) (s := (rdX (addF (mI (kpM (rvM M))) 32 19 t (-1000003))).2.1) hk.1 hk.2.1.1 (by rw [e5N]; omega) (fun r hr => by
              rw [g1 _ _ (by omega)]
              show rwF (mI M) 19 (rvF (mI M)).2 19 r = _
              rw [rw_at]
              exact hw.1 r hr)
            have hIV := IV_dp (t := k) (s := (rdX (addF (mI (kpM (rvM M))) 32 19 t (-1000003))).2.1) hN.2.1.2.1 (by rw [e5N]; omega) (by rw [e5N]; exact hk6) hw.2.2
            rw [← e, e5N] at hRL
            rw [e5N] at hIV
            have := RR_change (w := dpU (mI M 175) (rdX (addF (mI (kpM (rvM M))) 32 19 t (-1000003))).2.1 k) hN eF ⟨RL_fg hRL (fun i y hi => rdW_k (by omega) (by omega)), hIV, by rw [dp_o (by omega) (by omega) (by omega)]; exact hX.2.2⟩
            rw [mW_mW] at this ⊢
            exact this
        · have zB : bv (huF (rwF (mI M) 19 (rvF (mI M)).2)) = 0 := hbv.mpr zH
          have zc : isB (mI M) 20 t ∨ ¬ (rvF (mI M)).1 = -1000003 ∨ bv (huF (rwF (mI M) 19 (rvF (mI M)).2)) = 0 := Or.inr (Or.inr zB)
          rw [if_pos zc, if_pos (Or.inr (Or.inl zB))]
          have kk := key (mI (rvM M)) (rv_o (by omega)) (fun y => rv_o (by omega))
          obtain ⟨w, hw⟩ := kk.2 (kk.1.symm.trans zF)
          have zS : s4U (rdX (mI (rvM M))).2.1 = nI 0 := Decidable.not_not.mp (fun w2 => zH ((s4_hu hw).mpr w2))
          have e5 : mI (rvM M) 175 = mI M 175 := funext fun y => rv_o (by omega)
          unfold udmR udmM
          rw [e5, if_pos q, if_pos q, ek, if_pos (Or.inr (Or.inr zS)), if_pos (Or.inl (Or.inr (Or.inr zS)))]
          exact ⟨rfl, RR_rd h (Nat.le_succ _) (g := mI (rvM M)) (fun x y hx => rv_o hx)⟩
      · have zc : isB (mI M) 20 t ∨ ¬ (rvF (mI M)).1 = -1000003 ∨ bv (huF (rwF (mI M) 19 (rvF (mI M)).2)) = 0 := Or.inr (Or.inl zF)
        rw [if_pos zc, if_pos (Or.inl zF)]
        have kk := key (mI (rvM M)) (rv_o (by omega)) (fun y => rv_o (by omega))
        have zF' : ¬ (rdX (mI (rvM M))).1 = -1000003 := fun w => zF (kk.1.trans w)
        have e5 : mI (rvM M) 175 = mI M 175 := funext fun y => rv_o (by omega)
        unfold udmR udmM
        rw [e5, if_pos q, if_pos q, ek, if_pos (Or.inr (Or.inl zF')), if_pos (Or.inl (Or.inr (Or.inl zF')))]
        exact ⟨rfl, RR_rd h (Nat.le_succ _) (g := mI (rvM M)) (fun x y hx => rv_o hx)⟩
  · have q' : ¬ vT (mI M) t := by rw [vT_uV h]; exact q
    rw [if_neg q', if_neg q']
    unfold udmR udmM
    rw [if_neg q, if_neg q]
    exact ⟨rfl, RR_up h⟩
end St
