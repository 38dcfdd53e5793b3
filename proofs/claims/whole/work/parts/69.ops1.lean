/-! ===== changes of single cells: invariants, and the methods ===== -/
theorem up_self (u : Nat → Int32) (k : Nat) : upF u k (u k) = u := by
  funext y
  unfold upF
  by_cases z : y = k
  · rw [if_pos z, z]
  · rw [if_neg z]
section IVs
variable {c c' : Nat} {u w : Nat → Int32}
theorem IT_up {k : Nat} {v : Int32} (h : IT u c) (hk : k ≠ 446 ∧ k ≠ 449 ∧ k ≠ 451 ∧ k ≠ 452) (hc : c ≤ c') : IT (upF u k v) c' := by
  unfold IT at h ⊢
  rw [up_ne (by omega), up_ne (by omega), up_ne (by omega), uD_up (by omega)]
  omega
theorem IV_r {r : Nat} {v : Int32} (hi : IV u c) (hr : r < 4) (h1 : 0 ≤ v.toInt) (h2 : v.toInt ≤ 999) : IV (upF u r v) c := by
  have m1 := hi.1.1.2
  refine IV_same hi (SU_up (by omega)) (fun t ht => up_ne (by omega)) (fun r' hr' => ?_) (fun t ht => ?_) (IT_up hi.2.2.2.2.2.2.2.2 (by omega) (Nat.le_refl _))
  · by_cases z : r' = r
    · rw [z, up_at]
      exact ⟨h1, h2⟩
    · rw [up_ne z]
      exact hi.2.2.1 r' hr'
  · rw [uT_up (by omega)] at ht
    rw [up_ne (by omega), up_ne (by omega), up_ne (by omega)]
    refine ⟨(hi.2.2.2.1 t ht).1, (hi.2.2.2.1 t ht).2.1, fun q hq => ?_⟩
    rw [up_ne (by omega), up_ne (by omega)]
    exact (hi.2.2.2.1 t ht).2.2 q hq
theorem IV_f {r : Nat} {v : Int32} (hi : IV u c) (hr : r < 4) : IV (upF u (4 + r) v) c := by
  have m1 := hi.1.1.2
  refine IV_same hi (SU_up (by omega)) (fun t ht => up_ne (by omega)) (fun r' hr' => ?_) (fun t ht => ?_) (IT_up hi.2.2.2.2.2.2.2.2 (by omega) (Nat.le_refl _))
  · rw [up_ne (by omega)]
    exact hi.2.2.1 r' hr'
  · rw [uT_up (by omega)] at ht
    rw [up_ne (by omega), up_ne (by omega), up_ne (by omega)]
    refine ⟨(hi.2.2.2.1 t ht).1, (hi.2.2.2.1 t ht).2.1, fun q hq => ?_⟩
    rw [up_ne (by omega), up_ne (by omega)]
    exact (hi.2.2.2.1 t ht).2.2 q hq
theorem IV_rest {v : Int32} (hi : IV u c) (h1 : 1 ≤ v.toInt) (h2 : v.toInt ≤ 99) : IV (upF u 452 v) c := by
  have m1 := hi.1.1.2
  refine IV_same hi (SU_up (by omega)) (fun t ht => up_ne (by omega)) (fun r' hr' => ?_) (fun t ht => ?_) ?_
  · rw [up_ne (by omega)]
    exact hi.2.2.1 r' hr'
  · rw [uT_up (by omega)] at ht
    rw [up_ne (by omega), up_ne (by omega), up_ne (by omega)]
    refine ⟨(hi.2.2.2.1 t ht).1, (hi.2.2.2.1 t ht).2.1, fun q hq => ?_⟩
    rw [up_ne (by omega), up_ne (by omega)]
    exact (hi.2.2.2.1 t ht).2.2 q hq
  · have q := hi.2.2.2.2.2.2.2.2
    unfold IT at q ⊢
    rw [up_ne (by omega), up_at, up_ne (by omega), uD_up (by omega)]
    omega
theorem IV_wt {t : Nat} {v : Int32} (hi : IV u c) (ht : t < uT u) (h1 : 1 ≤ v.toInt) (h2 : v.toInt ≤ 9) : IV (upF u (8 + 12 * t) v) c := by
  have m1 := hi.1.1.2
  refine IV_same hi (SU_up (by omega)) (fun t' ht' => up_ne (by omega)) (fun r' hr' => ?_) (fun t' ht' => ?_) (IT_up hi.2.2.2.2.2.2.2.2 (by omega) (Nat.le_refl _))
  · rw [up_ne (by omega)]
    exact hi.2.2.1 r' hr'
  · rw [uT_up (by omega)] at ht'
    rw [up_ne (j := 8 + 12 * t' + 2) (by omega), up_ne (j := 446) (by omega)]
    refine ⟨?_, (hi.2.2.2.1 t' ht').2.1, fun q hq => ?_⟩
    · by_cases z : t' = t
      · rw [z, up_at]
        exact ⟨h1, h2⟩
      · rw [up_ne (by omega)]
        exact (hi.2.2.2.1 t' ht').1
    · rw [up_ne (by omega), up_ne (by omega)]
      exact (hi.2.2.2.1 t' ht').2.2 q hq
theorem IV_pt {t : Nat} {v : Int32} (hi : IV u c) (ht : t < uT u) : IV (upF u (8 + 12 * t + 1) v) c := by
  have m1 := hi.1.1.2
  refine IV_same hi (SU_up (by omega)) (fun t' ht' => up_ne (by omega)) (fun r' hr' => ?_) (fun t' ht' => ?_) (IT_up hi.2.2.2.2.2.2.2.2 (by omega) (Nat.le_refl _))
  · rw [up_ne (by omega)]
    exact hi.2.2.1 r' hr'
  · rw [uT_up (by omega)] at ht'
    rw [up_ne (by omega), up_ne (by omega), up_ne (by omega)]
    refine ⟨(hi.2.2.2.1 t' ht').1, (hi.2.2.2.1 t' ht').2.1, fun q hq => ?_⟩
    rw [up_ne (by omega), up_ne (by omega)]
    exact (hi.2.2.2.1 t' ht').2.2 q hq
theorem IV_ac {t r : Nat} {v1 v2 : Int32} (hi : IV u c) (ht : t < uT u) (hr : r < 4) (h : 0 ≤ v2.toInt ∧ v2.toInt ≤ v1.toInt ∧ v1.toInt ≤ 9999) : IV (upF (upF u (8 + 12 * t + (4 + r)) v1) (8 + 12 * t + (8 + r)) v2) c := by
  have m1 := hi.1.1.2
  refine IV_same hi (fun y h1 h2 h3 => by rw [up_ne (by omega), up_ne (by omega)]) (fun t' ht' => by rw [up_ne (by omega), up_ne (by omega)]) (fun r' hr' => ?_) (fun t' ht' => ?_) (IT_up (IT_up hi.2.2.2.2.2.2.2.2 (by omega) (Nat.le_refl _)) (by omega) (Nat.le_refl _))
  · rw [up_ne (by omega), up_ne (by omega)]
    exact hi.2.2.1 r' hr'
  · rw [uT_up (by omega), uT_up (by omega)] at ht'
    rw [up_ne (by omega), up_ne (by omega), up_ne (by omega), up_ne (by omega), up_ne (by omega), up_ne (by omega)]
    refine ⟨(hi.2.2.2.1 t' ht').1, (hi.2.2.2.1 t' ht').2.1, fun q hq => ?_⟩
    by_cases z : t' = t ∧ q = r
    · obtain ⟨rfl, rfl⟩ := z
      rw [up_at, up_ne (by omega), up_at]
      exact h
    · rw [up_ne (by omega), up_ne (by omega), up_ne (by omega), up_ne (by omega)]
      exact (hi.2.2.2.1 t' ht').2.2 q hq
theorem IV_lim {t r : Nat} {v : Int32} (hi : IV u c) (ht : t < uT u) (hr : r < 4) (h1 : (u (8 + 12 * t + (8 + r))).toInt ≤ v.toInt) (h2 : v.toInt ≤ 9999) : IV (upF u (8 + 12 * t + (4 + r)) v) c := by
  have q := (hi.2.2.2.1 t ht).2.2 r hr
  have := IV_ac (v1 := v) (v2 := u (8 + 12 * t + (8 + r))) hi ht hr (by omega)
  have e : upF (upF u (8 + 12 * t + (4 + r)) v) (8 + 12 * t + (8 + r)) (u (8 + 12 * t + (8 + r))) = upF u (8 + 12 * t + (4 + r)) v := by
    have e2 := up_self (upF u (8 + 12 * t + (4 + r)) v) (8 + 12 * t + (8 + r))
    rw [up_ne (by omega)] at e2
    exact e2
  rw [e] at this
  exact this
theorem IV_up (hi : IV u c) (hc : c ≤ c') : IV u c' := IV_uw hi (fun _ _ => rfl) hc
end IVs
section St
variable {c : Nat} {M : Mem}
theorem kp_175 (h : RR c M) : mI (kpM M) 175 = mI M 175 := funext fun y => kp_i h.1.1 h.1.2.2.2.1 (by omega)
theorem c_175 {F : Nat → Nat → Int32} (h : RR c M) (hF : ∀ y, F 175 y = mI (kpM M) 175 y) : mI (mW (kpM M) F) 175 = mI M 175 := (show F 175 = mI M 175 from (funext hF).trans (kp_175 h))
theorem kp_X (h : RR c M) : RX (mI (kpM M)) (c + 1) 20 (mI M 175) := RX_fg h.2.1 (Nat.le_succ _) (fun i y hi => kp_i h.1.1 h.1.2.2.2.1 (by omega)) (fun _ _ => rfl)
theorem kp_RR {F : Nat → Nat → Int32} {w : Nat → Int32} (h : RR c M) (hF : ∀ x y, ¬ (19 < x ∧ x < 35) → F x y = mI (kpM M) x y) (hx : RL F 20 w ∧ IV w (c + 1)) (ht : w 446 = mI M 175 446) : RR (c + 1) (mW (mW (kpM M) F) (rwF (kpU F) 175 w)) := RR_change h (fun x y q => hF x y (by unfold KC at q; omega)) ⟨hx.1, hx.2, by rw [ht]; exact h.2.1.2.2⟩
theorem st_setRest (h : RR c M) (n : Int32) : rsR (mI M) n = ustR (mI (rtM M n) 175) n ∧ RR (c + 1) (mW (rtM M n) (ustM (mI (rtM M n)) n)) := by
  have hX := h.2.1
  have hk := kp_X h
  unfold rsR ustR rtM ustM
  rw [nn_1, nn_99]
  by_cases q : 1 ≤ n ∧ n ≤ 99
  · simp only [if_pos q]
    have q2 := q
    rw [fa_le', fa_le', ti_1, ti_99] at q2
    have e : mI (mW (kpM M) (u2 (mI (kpM M)) 20 15 n)) 175 = mI M 175 := c_175 h (fun y => u2_ne (by omega))
    rw [e]
    refine ⟨hX.1.2.2.2.2.2.2.1.2.2.2.1, ?_⟩
    exact kp_RR h (fun x y z => u2_ne (by omega)) ⟨RL_sc hk.1 hk.2.1.1 (by omega), IV_rest hk.2.1 q2.1 q2.2⟩ (up_ne (by omega))
  · simp only [if_neg q]
    exact ⟨trivial, RR_up h⟩
theorem vRk {r : Int32} (h : vR r) : ∃ k, r = nI k ∧ k < 4 ∧ r.toNatClampNeg = k := by
  obtain ⟨k, e, hk⟩ := I_lt (n := 4) h.1 h.2 (by omega)
  exact ⟨k, e, hk, by rw [e, nI_clamp (by omega)]⟩
theorem uVk {u : Nat → Int32} {t : Int32} (hi : MdD u) (h : uV u t) : ∃ k, t = nI k ∧ k < uT u ∧ t.toNatClampNeg = k := by
  have := hi.1.2
  obtain ⟨k, e, hk⟩ := I_lt (n := uT u) h.1 h.2 (by omega)
  exact ⟨k, e, hk, by rw [e, nI_clamp (by omega)]⟩
theorem vT_uV (h : RR c M) (t : Int32) : vT (mI M) t = uV (mI M 175) t := by
  unfold vT uV
  rw [rl_T h.2.1.1]
theorem st_setResource (h : RR c M) (r b n : Int32) : srR (mI M) r b n = usrR (mI (srM M r b n) 175) r b n ∧ RR (c + 1) (mW (srM M r b n) (usrM (mI (srM M r b n)) r b n)) := by
  have hX := h.2.1
  have hk := kp_X h
  have e175 : mI (srM M r b n) 175 = mI M 175 := by
    unfold srM
    by_cases q : vR r ∧ 0 ≤ n ∧ n ≤ 999
    · rw [if_pos q]
      by_cases q2 : b = 0 ∧ ¬ mI M 23 r.toNatClampNeg ≤ n
      · rw [if_pos q2]
      · rw [if_neg q2]
        exact c_175 h (fun y => u2_ne (by by_cases q3 : b = 0 <;> simp [q3]))
    · rw [if_neg q]
  rw [e175]
  unfold srR usrR srM usrM uSC
  rw [nn_0, nn_999]
  by_cases q : vR r ∧ 0 ≤ n ∧ n ≤ 999
  · simp only [if_pos q]
    obtain ⟨k, rfl, hk4, ek⟩ := vRk q.1
    rw [ek]
    have q2 := q.2
    rw [fa_le', fa_le', ti_0, ti_999] at q2
    unfold usrQ usrG usrS
    rw [nn_0]
    have eu : mI M 23 k = usU (mI M 175) k (-1000003) := (hX.1.2.2.2.2.2.1 k hk4).1
    rw [eu]
    have eq1 : (b = 0 ∧ ¬ usU (mI M 175) k (-1000003) ≤ n) ↔ (b = 0 ∧ n < usU (mI M 175) k (-1000003)) := by
      rw [fa_le', fa_lt']
      constructor
      · rintro ⟨z1, z2⟩
        exact ⟨z1, by omega⟩
      · rintro ⟨z1, z2⟩
        exact ⟨z1, by omega⟩
    by_cases z : b = 0 ∧ ¬ usU (mI M 175) k (-1000003) ≤ n
    · simp only [if_pos z]
      rw [if_pos (eq1.mp z)]
      refine ⟨rfl, ?_⟩
      rw [if_pos (eq1.mp z)]
      exact RR_up h
    · simp only [if_neg z]
      rw [if_neg (fun y => z (eq1.mpr y))]
      have e5 : mI (mW (kpM M) (u2 (mI (kpM M)) (if b = 0 then 21 else 22) k n)) 175 = mI M 175 := c_175 h (fun y => u2_ne (by by_cases q3 : b = 0 <;> simp [q3]))
      rw [e5, if_neg (fun y => z (eq1.mpr y))]
      by_cases q3 : b = 0
      · simp only [if_pos q3]
        exact ⟨(hX.1.1 k hk4).1, kp_RR h (fun x y z => u2_ne (by omega)) ⟨RL_cap hk.1 hk.2.1.1 hk4, IV_r hk.2.1 hk4 q2.1 q2.2⟩ (up_ne (by omega))⟩
      · simp only [if_neg q3]
        exact ⟨(hX.1.1 k hk4).2, kp_RR h (fun x y z => u2_ne (by omega)) ⟨RL_fund hk.1 hk.2.1.1 hk4, IV_f hk.2.1 hk4⟩ (up_ne (by omega))⟩
  · simp only [if_neg q]
    exact ⟨trivial, RR_up h⟩
theorem st_setWeight (h : RR c M) (t n : Int32) : swR (mI M) t n = uswR (mI (swM M t n) 175) t n ∧ RR (c + 1) (mW (swM M t n) (uswM (mI (swM M t n)) t n)) := by
  have hX := h.2.1
  have hk := kp_X h
  unfold swR uswR swM uswM vT uV
  rw [rl_T hX.1, nn_1, nn_9]
  by_cases q : (0 ≤ t ∧ t < nI (uT (mI M 175))) ∧ 1 ≤ n ∧ n ≤ 9
  · obtain ⟨k, e, hk6, ek⟩ := uVk hX.2.1.1 q.1
    have m1 := hX.2.1.1.1.2
    simp only [if_pos q]
    have q2 := q.2
    rw [fa_le', fa_le', ti_1, ti_9] at q2
    have e5 : mI (mW (kpM M) (u2 (mI (kpM M)) 24 t.toNatClampNeg n)) 175 = mI M 175 := c_175 h (fun y => u2_ne (by omega))
    rw [e5, if_pos q, if_pos q, ek]
    refine ⟨(hX.1.2.1 k hk6).1, ?_⟩
    exact kp_RR h (fun x y z => u2_ne (by omega)) ⟨RL_ten (i := 4) hk.1 hk.2.1.1 hk6 (by omega), IV_wt hk.2.1 hk6 q2.1 q2.2⟩ (up_ne (by omega))
  · simp only [if_neg q]
    exact ⟨trivial, RR_up h⟩
theorem st_setLimit (h : RR c M) (t r n : Int32) : slR (mI M) t r n = uslR (mI (slM M t r n) 175) t r n ∧ RR (c + 1) (mW (slM M t r n) (uslM (mI (slM M t r n)) t r n)) := by
  have hX := h.2.1
  have hk := kp_X h
  unfold slR uslR slM uslM uLC vT uV
  rw [rl_T hX.1, nn_0, nn_9999]
  by_cases q : (0 ≤ t ∧ t < nI (uT (mI M 175))) ∧ vR r ∧ 0 ≤ n ∧ n ≤ 9999
  · obtain ⟨k, e, hk6, ek⟩ := uVk hX.2.1.1 q.1
    obtain ⟨j, e2, hj4, ej⟩ := vRk q.2.1
    have m1 := hX.2.1.1.1.2
    simp only [if_pos q]
    have q2 := q.2.2
    rw [fa_le', fa_le', ti_0, ti_9999] at q2
    rw [ek, ej]
    have a1 : mI M 29 (k * 4 + j) = usU (mI M 175) j (nI k) := (hX.1.2.2.2.2.2.1 j hj4).2 k hk6
    have a2 : mI M 28 (k * 4 + j) = mI M 175 (8 + 12 * k + (8 + j)) := ((hX.1.2.1 k hk6).2.2.2 j hj4).2
    have a3 : mI M 27 (k * 4 + j) = mI M 175 (8 + 12 * k + (4 + j)) := ((hX.1.2.1 k hk6).2.2.2 j hj4).1
    rw [a1, a2, a3]
    unfold uslQ uslG uLS
    have eq1 : (n < usU (mI M 175) j (nI k) ∨ ¬ mI M 175 (8 + 12 * k + (8 + j)) ≤ n) ↔ (n < usU (mI M 175) j (nI k) ∨ n < mI M 175 (8 + 12 * k + (8 + j))) := by
      rw [fa_le', fa_lt', fa_lt']
      omega
    by_cases z : n < usU (mI M 175) j (nI k) ∨ ¬ mI M 175 (8 + 12 * k + (8 + j)) ≤ n
    · simp only [if_pos z, if_pos (eq1.mp z), if_pos q]
      exact ⟨trivial, RR_up h⟩
    · have e5 : mI (mW (kpM M) (u2 (mI (kpM M)) 27 (k * 4 + j) n)) 175 = mI M 175 := c_175 h (fun y => u2_ne (by omega))
      simp only [if_neg z, e5, if_pos q, if_neg (fun y => z (eq1.mpr y))]
      rw [fa_le'] at z
      exact ⟨trivial, kp_RR h (fun x y z => u2_ne (by omega)) ⟨RL_acc (i := 7) hk.1 hk.2.1.1 hk6 hj4 (by omega), IV_lim hk.2.1 hk6 hj4 (by omega) q2.2⟩ (up_ne (by omega))⟩
  · simp only [if_neg q]
    exact ⟨trivial, RR_up h⟩
end St
