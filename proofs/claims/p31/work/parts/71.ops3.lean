theorem u2_321 {X : Nat → Nat → Int32} {x1 y1 x2 y2 x3 y3 : Nat} {v1 v2 v3 : Int32} (h12 : ¬ (x1 = x2 ∧ y1 = y2)) (h13 : ¬ (x1 = x3 ∧ y1 = y3)) (h23 : ¬ (x2 = x3 ∧ y2 = y3)) : u2 (u2 (u2 X x1 y1 v1) x2 y2 v2) x3 y3 v3 = u2 (u2 (u2 X x3 y3 v3) x2 y2 v2) x1 y1 v1 := by
  rw [u2_comm (f := u2 X x1 y1 v1) h23, u2_comm (f := X) h13, u2_comm (f := u2 X x3 y3 v3) h12]
section Ex
variable {f : Nat → Nat → Int32} {b c : Nat} {u : Nat → Int32}
theorem ux_bd (hi : IV u c) {x y : Nat} {n : Int32} (hx : x < 4) (hy : y < 4) (h1 : 1 ≤ n.toInt) (h2 : n.toInt ≤ 999) : 0 ≤ (uxA u x y n).toInt ∧ (uxA u x y n).toInt ≤ 999 * 35641 := by
  have p1 := pr_bd hi hx
  have p2 := pr_bd hi hy
  have q1 : 0 ≤ n.toInt * (prU u x).toInt := Int.mul_nonneg (by omega) (by omega)
  have q2 : n.toInt * (prU u x).toInt ≤ 999 * 35641 := Int.mul_le_mul h2 p1.2 (by omega) (by omega)
  unfold uxA
  rw [ti_div (by omega), ti_mul (by omega) (by omega), Int.tdiv_eq_ediv_of_nonneg q1]
  exact ⟨Int.ediv_nonneg q1 (by omega), Int.le_trans (Int.ediv_le_self _ q1) q2⟩
theorem rl_cv (h : RL f b u) (hi : IV u c) {x y : Nat} (n : Int32) (hx : x < 4) (hy : y < 4) : convF n (prF f b x) (prF f b y) = uxA u x y n := by
  have p2 := pr_bd hi hy
  unfold convF uxA
  rw [rl_pr h hi hx, rl_pr h hi hy, if_neg (by rw [fa_lt', ti_1]; omega)]
theorem minJ_lt (x y n : Int32) : minJ x y < n ↔ (x < n ∨ y < n) := by
  unfold minJ
  by_cases z : y < x
  · rw [if_pos z]
    simp only [fa_lt'] at *
    omega
  · rw [if_neg z]
    simp only [fa_lt'] at *
    omega
end Ex
