/-! ===== exchange; what is told ===== -/
theorem u2_321 {X : Nat → Nat → Int32} {x1 y1 x2 y2 x3 y3 : Nat} {v1 v2 v3 : Int32} (h12 : ¬ (x1 = x2 ∧ y1 = y2)) (h13 : ¬ (x1 = x3 ∧ y1 = y3)) (h23 : ¬ (x2 = x3 ∧ y2 = y3)) : u2 (u2 (u2 X x1 y1 v1) x2 y2 v2) x3 y3 v3 = u2 (u2 (u2 X x3 y3 v3) x2 y2 v2) x1 y1 v1 := by
  rw [u2_comm (f := u2 X x1 y1 v1) h23, u2_comm (f := X) h13, u2_comm (f := u2 X x3 y3 v3) h12]
section Ex
variable {f : Nat → Nat → Int32} {b c : Nat} {u : Nat → Int32}
theorem ux_bd (hi : IV u c) {x y : Nat} {n : Int32} (hx : x < 4) (hy : y < 4) (h1 : 1 ≤ n.toInt) (h2 : n.toInt ≤ 999) : 0 ≤ (uxA u x y n).toInt ∧ (uxA u x y n).toInt ≤ 999 * 35641 := by
  have p1 := pr_bd hi hx
  have p2 := pr_bd hi hy
  have q1 : 0 ≤ n.toInt * (prU u x).toInt := Int.mul_nonneg (by omega) (by omega)
  have q2 : n.toInt * (prU u x).toInt ≤ 999 * 35641 := Int.mul_le_mul h2 p1.2 (by omega) (by omega)
  unfold uxA
  rw [ti_div (by omega), ti_mul (by omega) (by omega), Int.tdiv_eq_ediv_of_nonneg q1]
  exact ⟨Int.ediv_nonneg q1 (by omega), Int.le_trans (Int.ediv_le_self _ q1) q2⟩
theorem rl_cv (h : RL f b u) (hi : IV u c) {x y : Nat} (n : Int32) (hx : x < 4) (hy : y < 4) : convF n (prF f b x) (prF f b y) = uxA u x y n := by
  have p2 := pr_bd hi hy
  unfold convF uxA
  rw [rl_pr h hi hx, rl_pr h hi hy, if_neg (by rw [fa_lt', ti_1]; omega)]
theorem minJ_lt (x y n : Int32) : minJ x y < n ↔ (x < n ∨ y < n) := by
  unfold minJ
  by_cases z : y < x
  · rw [if_pos z]
    simp only [fa_lt'] at *
    omega
  · rw [if_neg z]
    simp only [fa_lt'] at *
    omega
end Ex
section St
variable {c : Nat} {M : Mem}
theorem exS_eq (h : RR c M) {k i j : Nat} {n : Int32} (hk6 : k < uT (mI M 175)) (hi4 : i < 4) (hj4 : j < 4) : exS (mI M) k i j n ↔ uxS (mI M 175) k i j n := by
  have hX := h.2.1
  have a0 := hX.1.2.1 k hk6
  have a1 : mI M 29 (k * 4 + i) = usU (mI M 175) i (nI k) := (hX.1.2.2.2.2.2.1 i hi4).2 k hk6
  have a2 : mI M 28 (k * 4 + i) = mI M 175 (8 + 12 * k + (8 + i)) := (a0.2.2.2 i hi4).2
  have a3 : mI M 27 (k * 4 + i) = mI M 175 (8 + 12 * k + (4 + i)) := (a0.2.2.2 i hi4).1
  have a4 : mI M 22 j = mI M 175 (4 + j) := (hX.1.1 j hj4).2
  have eb := rl_isB hX.1 hX.2.1 hk6
  have eA : exA (mI M) i j n = uxA (mI M 175) i j n := rl_cv hX.1 hX.2.1 n hi4 hj4
  have h01 := is_01 hX.2.1 hk6
  unfold exS uxS uxP exV frU
  rw [a1, a2, a3, a4, eb, eA, minJ_lt, nn_0]
  generalize mI M 175 (8 + 12 * k + (4 + i)) - usU (mI M 175) i (nI k) = x
  generalize mI M 175 (8 + 12 * k + (4 + i)) - mI M 175 (8 + 12 * k + (8 + i)) = y
  have ex : x < n ↔ ¬ n ≤ x := by rw [fa_lt', fa_le']; omega
  have ey : y < n ↔ ¬ n ≤ y := by rw [fa_lt', fa_le']; omega
  have e0 : mI M 175 (8 + 12 * k + 3) = nI 0 ↔ ¬ mI M 175 (8 + 12 * k + 3) = nI 1 := ⟨fun q w => n0n1 (q.symm.trans w), fun q => h01.resolve_right q⟩
  rw [nn_0] at e0
  rw [e0, ex, ey]
  constructor
  · rintro (q | (q | q) | q | q)
    · exact Or.inl fun w => q w.1
    · exact Or.inl fun w => q w.2.1
    · exact Or.inl fun w => q w.2.2
    · exact Or.inr (Or.inl q)
    · exact Or.inr (Or.inr q)
  · rintro (q | q | q)
    · by_cases w1 : mI M 175 (8 + 12 * k + 3) = nI 1
      · by_cases w2 : n ≤ x
        · exact Or.inr (Or.inl (Or.inr fun w3 => q ⟨w1, w2, w3⟩))
        · exact Or.inr (Or.inl (Or.inl w2))
      · exact Or.inl w1
    · exact Or.inr (Or.inr (Or.inl q))
    · exact Or.inr (Or.inr (Or.inr q))
theorem st_exchange (h : RR c M) (t a b n : Int32) : exR (mI M) t a b n = uxR (mI (exM M t a b n) 175) t a b n ∧ RR (c + 1) (mW (exM M t a b n) (uxM (mI (exM M t a b n)) t a b n)) := by
  have hX := h.2.1
  have hk := kp_X h
  unfold exR uxR exM uxM exC uxC vT uV
  rw [rl_T hX.1, nn_1, nn_999]
  by_cases q : (0 ≤ t ∧ t < nI (uT (mI M 175))) ∧ vR a ∧ vR b ∧ ¬ a = b ∧ 1 ≤ n ∧ n ≤ 999
  · obtain ⟨k, e, hk6, ek⟩ := uVk hX.2.1.1 q.1
    obtain ⟨i, e1, hi4, ei⟩ := vRk q.2.1
    obtain ⟨j, e2, hj4, ej⟩ := vRk q.2.2.1
    have hij : ¬ i = j := fun z => q.2.2.2.1 (by rw [e1, e2, z])
    have m1 := hX.2.1.1.1.2
    have q2 := q.2.2.2.2
    rw [fa_le', fa_le', ti_1, ti_999] at q2
    simp only [if_pos q]
    rw [ek, ei, ej]
    have a0 := hX.1.2.1 k hk6
    have a3 : mI M 27 (k * 4 + i) = mI M 175 (8 + 12 * k + (4 + i)) := (a0.2.2.2 i hi4).1
    have a3j : mI M 27 (k * 4 + j) = mI M 175 (8 + 12 * k + (4 + j)) := (a0.2.2.2 j hj4).1
    have a4 : mI M 22 j = mI M 175 (4 + j) := (hX.1.1 j hj4).2
    have a4i : mI M 22 i = mI M 175 (4 + i) := (hX.1.1 i hi4).2
    have eA : exA (mI M) i j n = uxA (mI M 175) i j n := rl_cv hX.1 hX.2.1 n hi4 hj4
    have hA := ux_bd hX.2.1 hi4 hj4 q2.1 q2.2
    have eS := exS_eq (n := n) h hk6 hi4 hj4
    have hbi := (hX.2.1.2.2.2.1 k hk6).2.2 i hi4
    have hbj := (hX.2.1.2.2.2.1 k hk6).2.2 j hj4
    have hus := us_bd hX.2.1 hi4 (nI k)
    unfold exQ uxQ exN uxN
    simp only [eA, a3j, nn_9999]
    by_cases z : uxS (mI M 175) k i j n
    · have z' := eS.mpr z
      rw [if_pos z', if_pos (Or.inl z'), if_pos q, if_pos z, if_pos q, if_pos (Or.inl z)]
      exact ⟨rfl, RR_up h⟩
    · have z' : ¬ exS (mI M) k i j n := fun w => z (eS.mp w)
      by_cases z2 : mI M 175 (8 + 12 * k + (4 + j)) + uxA (mI M 175) i j n ≤ 9999
      · have g1 : ∀ x y, x < 50 → mI (kpM M) x y = mI M x y := fun x y hx => kp_i h.1.1 h.1.2.2.2.1 (by omega)
        have hg : ∀ x y, ¬ (19 < x ∧ x < 35) → exG (mI (kpM M)) k i j n (uxA (mI M 175) i j n) x y = mI (kpM M) x y := fun x y z => by
          unfold exG afF
          rw [u2_ne (by omega), u2_ne (by omega), u2_ne (by omega), u2_ne (by omega)]
        have e5 : mI (mW (kpM M) (exG (mI (kpM M)) k i j n (uxA (mI M 175) i j n))) 175 = mI M 175 := c_175 h (fun y => hg _ _ (by omega))
        rw [if_neg z', if_pos z2, if_neg (fun w : _ ∨ _ => w.elim z' (fun w => w z2)), e5, if_pos q, if_neg z, if_pos z2, if_pos q, if_neg (fun w : _ ∨ _ => w.elim z (fun w => w z2))]
        refine ⟨rfl, ?_⟩
        have hP : uxP (mI M 175) k i n := Decidable.not_not.mp fun w => z (Or.inl w)
        obtain ⟨-, w1, w2⟩ := hP
        unfold frU at w1
        rw [fa_le', ti_sub (by omega) (by omega)] at w1 w2
        rw [fa_le', ti_9999, ti_add (by omega) (by omega)] at z2
        generalize uxA (mI M 175) i j n = m at *
        have en : (-n).toInt = -n.toInt := ti_neg (by omega)
        have k1 : uT (mI M 175) = uT (mI M 175) := rfl
        -- the model's order
        have s1 := RL_acc (i := 7) (t := k) (r := i) (v := mI M 175 (8 + 12 * k + (4 + i)) + -n) hk.1 hk.2.1.1 hk6 hi4 (by omega)
        have i1 := IV_lim (t := k) (r := i) (v := mI M 175 (8 + 12 * k + (4 + i)) + -n) hk.2.1 hk6 hi4 (by rw [ti_add (by omega) (by omega)]; omega) (by rw [ti_add (by omega) (by omega)]; omega)
        have s2 := RL_fund (r := i) (v := lsU (nI 999) (mI M 175 (4 + i) + n)) s1 i1.1 hi4
        have i2 := IV_f (r := i) (v := lsU (nI 999) (mI M 175 (4 + i) + n)) i1 hi4
        have s3 := RL_fund (r := j) (v := mI M 175 (4 + j) - m) s2 i2.1 hj4
        have i3 := IV_f (r := j) (v := mI M 175 (4 + j) - m) i2 hj4
        have ht3 : k < uT (upF (upF (upF (mI M 175) (8 + 12 * k + (4 + i)) (mI M 175 (8 + 12 * k + (4 + i)) + -n)) (4 + i) (lsU (nI 999) (mI M 175 (4 + i) + n))) (4 + j) (mI M 175 (4 + j) - m)) := by
          rw [uT_up (by omega), uT_up (by omega), uT_up (by omega)]
          exact hk6
        have s4 := RL_acc (i := 7) (t := k) (r := j) (v := mI M 175 (8 + 12 * k + (4 + j)) + m) s3 i3.1 ht3 hj4 (by omega)
        have i4 := IV_lim (t := k) (r := j) (v := mI M 175 (8 + 12 * k + (4 + j)) + m) i3 ht3 hj4 (by rw [up_ne (by omega), up_ne (by omega), up_ne (by omega), ti_add (by omega) (by omega)]; omega) (by rw [ti_add (by omega) (by omega)]; omega)
        have eW : uxG (mI M 175) k i j n m = upF (upF (upF (upF (mI M 175) (8 + 12 * k + (4 + i)) (mI M 175 (8 + 12 * k + (4 + i)) + -n)) (4 + i) (lsU (nI 999) (mI M 175 (4 + i) + n))) (4 + j) (mI M 175 (4 + j) - m)) (8 + 12 * k + (4 + j)) (mI M 175 (8 + 12 * k + (4 + j)) + m) := by
          simp only [uxG, cfU]
          rw [up_ne (j := 4 + i) (by omega), up_ne (j := 4 + j) (by omega), up_ne (j := 4 + j) (by omega), up_ne (j := 8 + 12 * k + (4 + j)) (by omega), up_ne (j := 8 + 12 * k + (4 + j)) (by omega), up_ne (j := 8 + 12 * k + (4 + j)) (by omega)]
        have eF : exG (mI (kpM M)) k i j n m = u2 (u2 (u2 (u2 (mI (kpM M)) 27 (k * 4 + i) (mI M 175 (8 + 12 * k + (4 + i)) + -n)) 22 i (lsU (nI 999) (mI M 175 (4 + i) + n))) 22 j (mI M 175 (4 + j) - m)) 27 (k * 4 + j) (mI M 175 (8 + 12 * k + (4 + j)) + m) := by
          unfold exG afF
          rw [min_ls, u2_nn (x := 20 + 2) (y := i) (by omega), u2_ne (x := 20 + 2) (by omega), u2_ne (x := 20 + 2) (by omega), g1 (20 + 2) i (by omega), g1 27 (k * 4 + i) (by omega), g1 27 (k * 4 + j) (by omega), g1 22 j (by omega), a3, a3j, a4, (show mI M (20 + 2) i = mI M 175 (4 + i) from a4i), Int32.sub_eq_add_neg (a := mI M 175 (8 + 12 * k + (4 + i)))]
          exact u2_321 (by omega) (by omega) (by omega)
        rw [eF, eW]
        exact kp_RR h (fun x y z => by rw [u2_ne (by omega), u2_ne (by omega), u2_ne (by omega), u2_ne (by omega)]) ⟨s4, i4⟩ (by rw [up_ne (by omega), up_ne (by omega), up_ne (by omega), up_ne (by omega)])
      · rw [if_neg z', if_neg z2, if_pos (Or.inr z2), if_pos q, if_neg z, if_neg z2, if_pos q, if_pos (Or.inr z2)]
        exact ⟨rfl, RR_up h⟩
  · simp only [if_neg q]
    exact ⟨trivial, RR_up h⟩
end St
