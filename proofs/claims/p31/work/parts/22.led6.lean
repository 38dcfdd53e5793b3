/-- the first of the queue may be solvent again -/
abbrev rdC (f : Nat → Nat → Int32) (b : Nat) : Prop := 0 < lnB f b ∧ (0 ≤ f (b + 14) 0 ∧ f (b + 14) 0 < nI (lnT f b)) ∧ f b 15 ≤ f b 14 - f (b + 6) (f (b + 14) 0).toNatClampNeg
def rdP (f : Nat → Nat → Int32) (b i : Nat) : Nat → Nat → Int32 := fun x y => if x = b ∧ y = 12 then nI (lnB f b - 1) else if x = b + 14 ∧ y < i then f x (y + 1) else f x y
def rdF (f : Nat → Nat → Int32) (b : Nat) : Nat → Nat → Int32 := if rdC f b then rdP f b (lnB f b - 1) else f
theorem rdP_0 (f : Nat → Nat → Int32) (b : Nat) : u2 f b 12 (nI (lnB f b - 1)) = rdP f b 0 := by
  funext x y
  simp only [rdP, u2_at]
  by_cases h : x = b ∧ y = 12
  · rw [if_pos h, if_pos h]
  · rw [if_neg h, if_neg h, if_neg (by omega)]
theorem rdP_1 {f : Nat → Nat → Int32} {b i : Nat} : u2 (rdP f b i) (b + 14) i (rdP f b i (b + 14) (i + 1)) = rdP f b (i + 1) := by
  have a1 : rdP f b i (b + 14) (i + 1) = f (b + 14) (i + 1) := by
    unfold rdP
    rw [if_neg (by omega), if_neg (by omega)]
  rw [a1]
  funext x y
  simp only [rdP, u2_at]
  by_cases h : x = b + 14 ∧ y = i
  · rw [if_pos h, if_neg (by omega), if_pos (by omega), h.1, h.2]
  · rw [if_neg h]
    by_cases h2 : x = b ∧ y = 12
    · rw [if_pos h2, if_pos h2]
    · rw [if_neg h2, if_neg h2]
      by_cases h3 : x = b + 14 ∧ y < i
      · rw [if_pos h3, if_pos (by omega)]
      · rw [if_neg h3, if_neg (by omega)]
theorem rdP_b (f : Nat → Nat → Int32) (b i : Nat) : rdP f b i b 12 = nI (lnB f b - 1) := by
  unfold rdP
  rw [if_pos ⟨rfl, rfl⟩]
theorem rdF_o {f : Nat → Nat → Int32} {b x y : Nat} (h1 : ¬ (x = b ∧ y = 12)) (h2 : x ≠ b + 14) : rdF f b x y = f x y := by
  unfold rdF
  split
  · unfold rdP
    rw [if_neg h1, if_neg (fun q => h2 q.1)]
  · rfl
theorem rdF_D {f : Nat → Nat → Int32} {b : Nat} (h : LedD f b) : LedD (rdF f b) b := by
  have h6 := ld_b6 (M := (0, f, fun _ _ => 0, fun _ => 0)) h
  change lnB f b ≤ 6 at h6
  by_cases hc : rdC f b
  · have e : rdF f b = rdP f b (lnB f b - 1) := by unfold rdF; rw [if_pos hc]
    refine LedD_b h (s := lnB f b - 1) (by rw [e]; exact rdP_b _ _ _) (by omega) (rdF_o (by omega) (by omega)) (rdF_o (by omega) (by omega)) (rdF_o (by omega) (by omega))
  · have e : rdF f b = f := by unfold rdF; rw [if_neg hc]
    rw [e]
    exact h
/-! a tick -/
def tkA (f : Nat → Nat → Int32) (b t : Nat) : Nat → Nat → Int32 := u2 f (b + 5) t (f (b + 5) t + (5 * f (b + 4) t - rnP f b t 4))
def tkB (f : Nat → Nat → Int32) (b t : Nat) : Nat → Nat → Int32 := u2 f (b + 5) t (f (b + 5) t - itF (-f (b + 5) t))
def tk1S (f : Nat → Nat → Int32) (b t : Nat) : Nat → Nat → Int32 := if isS f b (nI t) then tkB (tkA f b t) b t else f
def tk1 (f : Nat → Nat → Int32) (b : Nat) : Nat → Nat → Nat → Int32
  | 0 => f
  | t + 1 => tk1S (tk1 f b t) b t
def tk2S (f : Nat → Nat → Int32) (b t : Nat) : Nat → Nat → Int32 := if isS f b (nI t) ∧ 50 * f (b + 4) t < -f (b + 5) t then bkF f b t else f
def tk2 (f : Nat → Nat → Int32) (b : Nat) : Nat → Nat → Nat → Int32
  | 0 => f
  | t + 1 => tk2S (tk2 f b t) b t
def tk0 (f : Nat → Nat → Int32) (b : Nat) : Nat → Nat → Int32 := u2 f b 14 (f b 14 + 1)
def tkM (f : Nat → Nat → Int32) (b : Nat) : Nat → Nat → Int32 := tk1 (tk0 f b) b (lnT f b)
def tkN (f : Nat → Nat → Int32) (b : Nat) : Nat → Nat → Int32 := tk2 (tkM f b) b (lnT f b)
def tkF (f : Nat → Nat → Int32) (b : Nat) : Nat → Nat → Int32 := rdF (tkN f b) b
theorem tk1_o {f : Nat → Nat → Int32} {b x y : Nat} (h : x ≠ b + 5) : ∀ t, tk1 f b t x y = f x y
  | 0 => rfl
  | t + 1 => by
    unfold tk1 tk1S
    split
    · unfold tkB tkA
      rw [u2_ne h, u2_ne h]
      exact tk1_o h t
    · exact tk1_o h t
theorem tk2_t {f : Nat → Nat → Int32} {b : Nat} : ∀ t, tk2 f b t b 13 = f b 13
  | 0 => rfl
  | t + 1 => by
    unfold tk2 tk2S
    split
    · rw [bkF_t]
      exact tk2_t t
    · exact tk2_t t
theorem tk1_D {f : Nat → Nat → Int32} {b t : Nat} (h : LedD f b) : LedD (tk1 f b t) b := LedD_congr h (tk1_o (by omega) t) (tk1_o (by omega) t) (tk1_o (by omega) t) (tk1_o (by omega) t)
theorem tk0_D {f : Nat → Nat → Int32} {b : Nat} (h : LedD f b) : LedD (tk0 f b) b := LedD_congr h (u2_o (by omega)) (u2_o (by omega)) (u2_o (by omega)) (u2_o (by omega))
theorem tkA_D {f : Nat → Nat → Int32} {b t : Nat} (h : LedD f b) : LedD (tkA f b t) b := LedD_congr h (u2_o (by omega)) (u2_o (by omega)) (u2_o (by omega)) (u2_o (by omega))
theorem tk2_D {f : Nat → Nat → Int32} {b : Nat} (h : LedD f b) : ∀ t, LedD (tk2 f b t) b
  | 0 => h
  | t + 1 => by
    unfold tk2 tk2S
    split
    · exact bkF_D (tk2_D h t)
    · exact tk2_D h t