/-! a new ledger -/
def LI (M0 : Mem) (b j : Nat) (M : Mem) : Prop := mN M = b + 1 + j ∧ (∀ x y, mI M x y = if x ≤ b then mI M0 x y else 0) ∧ (∀ x y, mR M x y = if x = b ∧ y < j then b + 1 + y else if x ≤ b then mR M0 x y else 0) ∧ (∀ x, mL M x = if x ≤ b then mL M0 x else 0)
theorem mI_al (M : Mem) (x y : Nat) : mI (al M) x y = if x = mN M then 0 else mI M x y := rfl
theorem mR_al (M : Mem) (x y : Nat) : mR (al M) x y = if x = mN M then 0 else mR M x y := rfl
theorem mL_al (M : Mem) (x : Nat) : mL (al M) x = if x = mN M then 0 else mL M x := rfl
theorem mL_stR (M : Mem) (a k v : Nat) : mL (stR M a k v) = mL M := rfl
theorem mL_stI (M : Mem) (a k : Nat) (v : Int32) : mL (stI M a k v) = mL M := rfl
theorem LI_s {M0 M : Mem} {b j : Nat} (h : LI M0 b j M) : LI M0 b (j + 1) (stR (al M) b j (mN M)) := by
  obtain ⟨h1, h2, h3, h4⟩ := h
  refine ⟨by rw [mN_stR, mN_al, h1]; omega, fun x y => ?_, fun x y => ?_, fun x => ?_⟩
  · rw [mI_stR, mI_al, h2, h1]
    by_cases q : x = b + 1 + j
    · rw [if_pos q, if_neg (by omega)]
    · rw [if_neg q]
  · rw [mR_stR, u2_at, mR_al, h3, h1]
    by_cases q : x = b ∧ y = j
    · rw [if_pos q, if_pos (by omega), q.2]
    · rw [if_neg q]
      by_cases q2 : x = b + 1 + j
      · rw [if_pos q2, if_neg (by omega), if_neg (by omega)]
      · rw [if_neg q2]
        by_cases q3 : x = b ∧ y < j
        · rw [if_pos q3, if_pos (show x = b ∧ y < j + 1 by omega)]
        · rw [if_neg q3, if_neg (show ¬ (x = b ∧ y < j + 1) by omega)]
  · rw [mL_stR, mL_al, h4, h1]
    by_cases q : x = b + 1 + j
    · rw [if_pos q, if_neg (by omega)]
    · rw [if_neg q]
theorem LI_o {M0 M : Mem} {b j ci : Nat} (h : LI M0 b j M) (h2 : kd b = (ci + 3, cW ci)) : isO M b ci := ⟨by rw [h.1]; omega, by rw [h2], by rw [h2]⟩
/-- behind a new claims object: its number, its room -/
theorem C_new_N (M : Mem) (c n : Nat) : mN (C_new M c n) = mN M + 1 := rfl
theorem C_new_I (M : Mem) (c n x y : Nat) : mI (C_new M c n) x y = if x = mN M then 0 else mI M x y := rfl
theorem C_new_L (M : Mem) (c n x : Nat) : mL (C_new M c n) x = if x = mN M then 0 else mL M x := rfl
theorem C_new_R {M : Mem} {c n x y : Nat} (hc : c < mN M) : mR (C_new M c n) x y = if x = c ∧ y = 0 then mN M else if x = c ∧ y = 1 then n else if x = mN M then 0 else mR M x y := by
  unfold C_new
  rw [mR_stR, u2_at, mR_al, mR_stR, u2_at, mN_stR]
  by_cases q : x = c ∧ y = 0
  · rw [if_pos q, if_pos q]
  · rw [if_neg q, if_neg q]
    by_cases q2 : x = c ∧ y = 1
    · rw [if_pos q2, if_neg (by omega), if_pos q2]
    · rw [if_neg q2, if_neg q2]
/-- a ledger as it is made: before the loop at its end -/
def LN (M0 : Mem) (b : Nat) (M : Mem) : Prop := mN M = b + 15 ∧ (∀ x y, mI M x y = if x = b ∧ y = 15 then 3 else if x ≤ b then mI M0 x y else 0) ∧ (∀ x, mL M x = if x ≤ b then mL M0 x else 0) ∧ (∀ x y, x < b → mR M x y = mR M0 x y) ∧ (∀ j, j < 9 → mR M b j = b + 1 + j) ∧ mR M b 9 = b + 10 ∧ mR M b 10 = b + 12 ∧ mR M b 11 = b + 14 ∧ mR M (b + 10) 0 = b + 11 ∧ mR M (b + 10) 1 = 40 ∧ mR M (b + 12) 0 = b + 13 ∧ mR M (b + 12) 1 = 24
def LM9 (M : Mem) (b : Nat) : Mem := stR (C_new (al M) (mN M) 40) b 9 (mN M)
def LM10 (M : Mem) (b : Nat) : Mem := stR (C_new (al M) (mN M) 24) b 10 (mN M)
def LM11 (M : Mem) (b : Nat) : Mem := stI (stR (al M) b 11 (mN M)) b 15 3
theorem LN_of {M0 M : Mem} {b : Nat} (h : LI M0 b 9 M) : LN M0 b (LM11 (LM10 (LM9 M b) b) b) := by
  obtain ⟨h1, h2, h3, h4⟩ := h
  have n1 : mN M = b + 10 := by rw [h1]
  have n9 : mN (LM9 M b) = b + 12 := by unfold LM9; rw [mN_stR, C_new_N, mN_al, n1]
  have n10 : mN (LM10 (LM9 M b) b) = b + 14 := by unfold LM10; rw [mN_stR, C_new_N, mN_al, n9]
  have i9 : ∀ x y, mI (LM9 M b) x y = if x ≤ b then mI M0 x y else 0 := fun x y => by
    unfold LM9
    rw [mI_stR, C_new_I, mN_al, n1, mI_al, n1, h2]
    by_cases q : x ≤ b
    · rw [if_neg (by omega), if_neg (by omega)]
    · rw [if_neg q]; split <;> (try rfl) <;> split <;> rfl
  have i10 : ∀ x y, mI (LM10 (LM9 M b) b) x y = if x ≤ b then mI M0 x y else 0 := fun x y => by
    unfold LM10
    rw [mI_stR, C_new_I, mN_al, n9, mI_al, n9, i9]
    by_cases q : x ≤ b
    · rw [if_neg (by omega), if_neg (by omega)]
    · rw [if_neg q]; split <;> (try rfl) <;> split <;> rfl
  have l9 : ∀ x, mL (LM9 M b) x = if x ≤ b then mL M0 x else 0 := fun x => by
    unfold LM9
    rw [mL_stR, C_new_L, mN_al, n1, mL_al, n1, h4]
    by_cases q : x ≤ b
    · rw [if_neg (by omega), if_neg (by omega)]
    · rw [if_neg q]; split <;> (try rfl) <;> split <;> rfl
  have l10 : ∀ x, mL (LM10 (LM9 M b) b) x = if x ≤ b then mL M0 x else 0 := fun x => by
    unfold LM10
    rw [mL_stR, C_new_L, mN_al, n9, mL_al, n9, l9]
    by_cases q : x ≤ b
    · rw [if_neg (by omega), if_neg (by omega)]
    · rw [if_neg q]; split <;> (try rfl) <;> split <;> rfl
  have r9 : ∀ x y, x ≤ b + 10 → mR (LM9 M b) x y = if x = b ∧ y = 9 then b + 10 else if x = b + 10 ∧ y = 0 then b + 11 else if x = b + 10 ∧ y = 1 then 40 else mR M x y := fun x y hx => by
    unfold LM9
    rw [mR_stR, u2_at, C_new_R (by rw [mN_al]; omega), mN_al, n1, mR_al, n1]
    by_cases q : x = b ∧ y = 9
    · rw [if_pos q, if_pos q]
    · rw [if_neg q, if_neg q]
      by_cases q1 : x = b + 10 ∧ y = 0
      · rw [if_pos q1, if_pos q1]
      · rw [if_neg q1, if_neg q1]
        by_cases q2 : x = b + 10 ∧ y = 1
        · rw [if_pos q2, if_pos q2]
        · rw [if_neg q2, if_neg q2, if_neg (by omega)]
          by_cases q3 : x = b + 10
          · rw [if_pos q3, h3, if_neg (by omega), if_neg (by omega)]
          · rw [if_neg q3]
  have r10 : ∀ x y, x ≤ b + 12 → mR (LM10 (LM9 M b) b) x y = if x = b ∧ y = 10 then b + 12 else if x = b + 12 ∧ y = 0 then b + 13 else if x = b + 12 ∧ y = 1 then 24 else if x = b + 12 then 0 else mR (LM9 M b) x y := fun x y hx => by
    unfold LM10
    rw [mR_stR, u2_at, C_new_R (by rw [mN_al]; omega), mN_al, n9, mR_al, n9]
    by_cases q : x = b ∧ y = 10
    · rw [if_pos q, if_pos q]
    · rw [if_neg q, if_neg q]
      by_cases q1 : x = b + 12 ∧ y = 0
      · rw [if_pos q1, if_pos q1]
      · rw [if_neg q1, if_neg q1]
        by_cases q2 : x = b + 12 ∧ y = 1
        · rw [if_pos q2, if_pos q2]
        · rw [if_neg q2, if_neg q2, if_neg (by omega)]
  have r11 : ∀ x y, x ≤ b + 12 → mR (LM11 (LM10 (LM9 M b) b) b) x y = if x = b ∧ y = 11 then b + 14 else mR (LM10 (LM9 M b) b) x y := fun x y hx => by
    unfold LM11
    rw [mR_stI, mR_stR, u2_at, mR_al, n10]
    by_cases q : x = b ∧ y = 11
    · rw [if_pos q, if_pos q]
    · rw [if_neg q, if_neg q, if_neg (by omega)]
  refine ⟨?_, fun x y => ?_, fun x => ?_, fun x y hx => ?_, fun j hj => ?_, ?_, ?_, ?_, ?_, ?_, ?_, ?_⟩
  · unfold LM11
    rw [mN_stI, mN_stR, mN_al, n10]
  · unfold LM11
    rw [mI_stI, u2_at, mI_stR, mI_al, n10, i10]
    by_cases q : x = b ∧ y = 15
    · rw [if_pos q, if_pos q]
    · rw [if_neg q, if_neg q]
      by_cases q2 : x = b + 14
      · rw [if_pos q2, if_neg (by omega)]
      · rw [if_neg q2]
  · unfold LM11
    rw [mL_stI, mL_stR, mL_al, n10, l10]
    by_cases q2 : x = b + 14
    · rw [if_pos q2, if_neg (by omega)]
    · rw [if_neg q2]
  · rw [r11 _ _ (by omega), if_neg (by omega), r10 _ _ (by omega), if_neg (by omega), if_neg (by omega), if_neg (by omega), if_neg (by omega), r9 _ _ (by omega), if_neg (by omega), if_neg (by omega), if_neg (by omega), h3, if_neg (by omega), if_pos (by omega)]
  · rw [r11 _ _ (by omega), if_neg (by omega), r10 _ _ (by omega), if_neg (by omega), if_neg (by omega), if_neg (by omega), if_neg (by omega), r9 _ _ (by omega), if_neg (by omega), if_neg (by omega), if_neg (by omega), h3, if_pos (by omega)]
  · rw [r11 _ _ (by omega), if_neg (by omega), r10 _ _ (by omega), if_neg (by omega), if_neg (by omega), if_neg (by omega), if_neg (by omega), r9 _ _ (by omega), if_pos (by omega)]
  · rw [r11 _ _ (by omega), if_neg (by omega), r10 _ _ (by omega), if_pos (by omega)]
  · rw [r11 _ _ (by omega), if_pos (by omega)]
  · rw [r11 _ _ (by omega), if_neg (by omega), r10 _ _ (by omega), if_neg (by omega), if_neg (by omega), if_neg (by omega), if_neg (by omega), r9 _ _ (by omega), if_neg (by omega), if_pos (by omega)]
  · rw [r11 _ _ (by omega), if_neg (by omega), r10 _ _ (by omega), if_neg (by omega), if_neg (by omega), if_neg (by omega), if_neg (by omega), r9 _ _ (by omega), if_neg (by omega), if_neg (by omega), if_pos (by omega)]
  · rw [r11 _ _ (by omega), if_neg (by omega), r10 _ _ (by omega), if_neg (by omega), if_pos (by omega)]
  · rw [r11 _ _ (by omega), if_neg (by omega), r10 _ _ (by omega), if_neg (by omega), if_neg (by omega), if_pos (by omega)]
