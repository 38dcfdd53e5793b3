/-! a new ledger -/
def LI (M0 : Mem) (b j : Nat) (M : Mem) : Prop := mN M = b + 1 + j ∧ (∀ x y, x ≤ b → mI M x y = mI M0 x y) ∧ (∀ x y, b < x → x < b + 1 + j → mI M x y = 0) ∧ (∀ x y, x ≤ b → mR M x y = if x = b ∧ y < j then b + 1 + y else mR M0 x y)
theorem mI_al (M : Mem) (x y : Nat) : mI (al M) x y = if x = mN M then 0 else mI M x y := rfl
theorem mR_al (M : Mem) (x y : Nat) : mR (al M) x y = if x = mN M then 0 else mR M x y := rfl
theorem mL_al (M : Mem) (x : Nat) : mL (al M) x = if x = mN M then 0 else mL M x := rfl
theorem mL_stR (M : Mem) (a k v : Nat) : mL (stR M a k v) = mL M := rfl
theorem mL_stI (M : Mem) (a k : Nat) (v : Int32) : mL (stI M a k v) = mL M := rfl
theorem LI_s {M0 M : Mem} {b j : Nat} (h : LI M0 b j M) : LI M0 b (j + 1) (stR (al M) b j (mN M)) := by
  obtain ⟨h1, h2, h4, h3⟩ := h
  refine ⟨by rw [mN_stR, mN_al, h1]; omega, fun x y hx => ?_, fun x y hx hx2 => ?_, fun x y hx => ?_⟩
  · rw [mI_stR, mI_al, h1, if_neg (by omega), h2 x y hx]
  · rw [mI_stR, mI_al, h1]
    by_cases q : x = b + 1 + j
    · rw [if_pos q]
    · rw [if_neg q, h4 x y hx (by omega)]
  · rw [mR_stR, u2_at, mR_al, h1]
    by_cases q : x = b ∧ y = j
    · rw [if_pos q, if_pos (by omega), q.2]
    · rw [if_neg q, if_neg (by omega), h3 x y hx]
      by_cases q3 : x = b ∧ y < j
      · rw [if_pos q3, if_pos (by omega)]
      · rw [if_neg q3, if_neg (by omega)]
theorem LI_o {M0 M : Mem} {b j ci : Nat} (h : LI M0 b j M) (h2 : kd b = (ci + 3, cW ci)) : isO M b ci := ⟨by rw [h.1]; omega, by rw [h2], by rw [h2]⟩
/-- behind a new claims object: its number, its room -/
theorem C_new_N (M : Mem) (c n : Nat) : mN (C_new M c n) = mN M + 1 := rfl
theorem C_new_I (M : Mem) (c n x y : Nat) : mI (C_new M c n) x y = if x = mN M then 0 else mI M x y := rfl
theorem C_new_L (M : Mem) (c n x : Nat) : mL (C_new M c n) x = if x = mN M then 0 else mL M x := rfl
theorem C_new_R {M : Mem} {c n x y : Nat} (hc : c < mN M) : mR (C_new M c n) x y = if x = c ∧ y = 0 then mN M else if x = c ∧ y = 1 then n else if x = mN M then 0 else mR M x y := by
  unfold C_new
  rw [mR_stR, u2_at, mR_al, mR_stR, u2_at, mN_stR]
  by_cases q : x = c ∧ y = 0
  · rw [if_pos q, if_pos q]
  · rw [if_neg q, if_neg q]
    by_cases q2 : x = c ∧ y = 1
    · rw [if_pos q2, if_neg (by omega), if_pos q2]
    · rw [if_neg q2, if_neg q2]
/-- a ledger as it is made: before the loop at its end -/
def LN (M0 : Mem) (b : Nat) (M : Mem) : Prop := mN M = b + 15 ∧ (∀ x y, x ≤ b → mI M x y = if x = b ∧ y = 15 then 3 else mI M0 x y) ∧ (∀ x y, b < x → x < b + 15 → mI M x y = 0) ∧ (∀ x y, x < b → mR M x y = mR M0 x y) ∧ (∀ j, j < 9 → mR M b j = b + 1 + j) ∧ mR M b 9 = b + 10 ∧ mR M b 10 = b + 12 ∧ mR M b 11 = b + 14 ∧ mR M (b + 10) 0 = b + 11 ∧ mR M (b + 10) 1 = 40 ∧ mR M (b + 12) 0 = b + 13 ∧ mR M (b + 12) 1 = 24
def LM9 (M : Mem) (b : Nat) : Mem := stR (C_new (al M) (mN M) 40) b 9 (mN M)
def LM10 (M : Mem) (b : Nat) : Mem := stR (C_new (al M) (mN M) 24) b 10 (mN M)
def LM11 (M : Mem) (b : Nat) : Mem := stI (stR (al M) b 11 (mN M)) b 15 3
theorem LN_of {M0 M : Mem} {b : Nat} (h : LI M0 b 9 M) : LN M0 b (LM11 (LM10 (LM9 M b) b) b) := by
  obtain ⟨h1, h2, h4, h3⟩ := h
  have n1 : mN M = b + 10 := by rw [h1]
  have n9 : mN (LM9 M b) = b + 12 := by unfold LM9; rw [mN_stR, C_new_N, mN_al, n1]
  have n10 : mN (LM10 (LM9 M b) b) = b + 14 := by unfold LM10; rw [mN_stR, C_new_N, mN_al, n9]
  have i9 : ∀ x y, mI (LM9 M b) x y = if x = b + 11 then 0 else if x = b + 10 then 0 else mI M x y := fun x y => by
    unfold LM9
    rw [mI_stR, C_new_I, mN_al, n1, mI_al, n1]
  have i10 : ∀ x y, mI (LM10 (LM9 M b) b) x y = if x = b + 13 then 0 else if x = b + 12 then 0 else mI (LM9 M b) x y := fun x y => by
    unfold LM10
    rw [mI_stR, C_new_I, mN_al, n9, mI_al, n9]
  have i11 : ∀ x y, mI (LM11 (LM10 (LM9 M b) b) b) x y = if x = b ∧ y = 15 then 3 else if x = b + 14 then 0 else mI (LM10 (LM9 M b) b) x y := fun x y => by
    unfold LM11
    rw [mI_stI, u2_at, mI_stR, mI_al, n10]
  have r9 : ∀ x y, x ≤ b → mR (LM9 M b) x y = if x = b ∧ y = 9 then b + 10 else mR M x y := fun x y hx => by
    unfold LM9
    rw [mR_stR, u2_at, C_new_R (by rw [mN_al]; omega), mN_al, n1, mR_al, n1]
    by_cases q : x = b ∧ y = 9
    · rw [if_pos q, if_pos q]
    · rw [if_neg q, if_neg q, if_neg (by omega), if_neg (by omega), if_neg (by omega), if_neg (by omega)]
  have r9a : mR (LM9 M b) (b + 10) 0 = b + 11 := by
    unfold LM9
    rw [mR_stR, u2_at, C_new_R (by rw [mN_al]; omega), mN_al, n1, if_neg (by omega), if_pos (by omega)]
  have r9b : mR (LM9 M b) (b + 10) 1 = 40 := by
    unfold LM9
    rw [mR_stR, u2_at, C_new_R (by rw [mN_al]; omega), mN_al, n1, if_neg (by omega), if_neg (by omega), if_pos (by omega)]
  have r10 : ∀ x y, x ≤ b + 11 → mR (LM10 (LM9 M b) b) x y = if x = b ∧ y = 10 then b + 12 else mR (LM9 M b) x y := fun x y hx => by
    unfold LM10
    rw [mR_stR, u2_at, C_new_R (by rw [mN_al]; omega), mN_al, n9, mR_al, n9]
    by_cases q : x = b ∧ y = 10
    · rw [if_pos q, if_pos q]
    · rw [if_neg q, if_neg q, if_neg (by omega), if_neg (by omega), if_neg (by omega), if_neg (by omega)]
  have r10a : mR (LM10 (LM9 M b) b) (b + 12) 0 = b + 13 := by
    unfold LM10
    rw [mR_stR, u2_at, C_new_R (by rw [mN_al]; omega), mN_al, n9, if_neg (by omega), if_pos (by omega)]
  have r10b : mR (LM10 (LM9 M b) b) (b + 12) 1 = 24 := by
    unfold LM10
    rw [mR_stR, u2_at, C_new_R (by rw [mN_al]; omega), mN_al, n9, if_neg (by omega), if_neg (by omega), if_pos (by omega)]
  have r11 : ∀ x y, x ≤ b + 12 → mR (LM11 (LM10 (LM9 M b) b) b) x y = if x = b ∧ y = 11 then b + 14 else mR (LM10 (LM9 M b) b) x y := fun x y hx => by
    unfold LM11
    rw [mR_stI, mR_stR, u2_at, mR_al, n10]
    by_cases q : x = b ∧ y = 11
    · rw [if_pos q, if_pos q]
    · rw [if_neg q, if_neg q, if_neg (by omega)]
  refine ⟨?_, fun x y hx => ?_, fun x y hx hx2 => ?_, fun x y hx => ?_, fun j hj => ?_, ?_, ?_, ?_, ?_, ?_, ?_, ?_⟩
  · unfold LM11
    rw [mN_stI, mN_stR, mN_al, n10]
  · rw [i11]
    by_cases q : x = b ∧ y = 15
    · rw [if_pos q, if_pos q]
    · rw [if_neg q, if_neg q, if_neg (by omega), i10, if_neg (by omega), if_neg (by omega), i9, if_neg (by omega), if_neg (by omega), h2 x y hx]
  · rw [i11, if_neg (by omega)]
    by_cases q1 : x = b + 14
    · rw [if_pos q1]
    · rw [if_neg q1, i10]
      by_cases q2 : x = b + 13
      · rw [if_pos q2]
      · rw [if_neg q2]
        by_cases q3 : x = b + 12
        · rw [if_pos q3]
        · rw [if_neg q3, i9]
          by_cases q4 : x = b + 11
          · rw [if_pos q4]
          · rw [if_neg q4]
            by_cases q5 : x = b + 10
            · rw [if_pos q5]
            · rw [if_neg q5, h4 x y hx (by omega)]
  · rw [r11 _ _ (by omega), if_neg (by omega), r10 _ _ (by omega), if_neg (by omega), r9 _ _ (by omega), if_neg (by omega), h3 _ _ (by omega), if_neg (by omega)]
  · rw [r11 _ _ (by omega), if_neg (by omega), r10 _ _ (by omega), if_neg (by omega), r9 _ _ (by omega), if_neg (by omega), h3 _ _ (by omega), if_pos (by omega)]
  · rw [r11 _ _ (by omega), if_neg (by omega), r10 _ _ (by omega), if_neg (by omega), r9 _ _ (by omega), if_pos (by omega)]
  · rw [r11 _ _ (by omega), if_neg (by omega), r10 _ _ (by omega), if_pos (by omega)]
  · rw [r11 _ _ (by omega), if_pos (by omega)]
  · rw [r11 _ _ (by omega), if_neg (by omega), r10 _ _ (by omega), if_neg (by omega), r9a]
  · rw [r11 _ _ (by omega), if_neg (by omega), r10 _ _ (by omega), if_neg (by omega), r9b]
  · rw [r11 _ _ (by omega), if_neg (by omega), r10a]
  · rw [r11 _ _ (by omega), if_neg (by omega), r10b]
