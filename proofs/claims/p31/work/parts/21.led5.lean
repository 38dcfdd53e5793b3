/-- one resource of a tenant that goes bankrupt -/
def bk1 (f : Nat → Nat → Int32) (b t r : Nat) : Nat → Nat → Int32 := gbF (u2 (u2 f (b + 3) r (f (b + 3) r - f (b + 9) (t * 4 + r))) (b + 9) (t * 4 + r) 0) b t r (f (b + 8) (t * 4 + r))
def bkP (f : Nat → Nat → Int32) (b t : Nat) : Nat → Nat → Nat → Int32
  | 0 => f
  | r + 1 => bk1 (bkP f b t r) b t r
theorem gbF_o {f : Nat → Nat → Int32} {b t r x y : Nat} {n : Int32} (h1 : x ≠ b + 2) (h2 : x ≠ b + 7) (h3 : x ≠ b + 8) : gbF f b t r n x y = f x y := by
  unfold gbF afF
  rw [u2_ne h1, u2_ne h2, u2_ne h3]
theorem bk1_o {f : Nat → Nat → Int32} {b t r x y : Nat} (h1 : x ≠ b + 2) (h2 : x ≠ b + 7) (h3 : x ≠ b + 8) (h4 : x ≠ b + 3) (h5 : x ≠ b + 9) : bk1 f b t r x y = f x y := by
  unfold bk1
  rw [gbF_o h1 h2 h3, u2_ne h5, u2_ne h4]
theorem bkP_o {f : Nat → Nat → Int32} {b t x y : Nat} (h1 : x ≠ b + 2) (h2 : x ≠ b + 7) (h3 : x ≠ b + 8) (h4 : x ≠ b + 3) (h5 : x ≠ b + 9) : ∀ r, bkP f b t r x y = f x y
  | 0 => rfl
  | r + 1 => by
    unfold bkP
    rw [bk1_o h1 h2 h3 h4 h5, bkP_o h1 h2 h3 h4 h5 r]
theorem raF_ne {c x y : Nat} {t : Int32} (h1 : x ≠ c) (h2 : x ≠ c + 1) : ∀ (r : Nat) (f : Nat → Nat → Int32), raF f c t r x y = f x y
  | 0, f => rfl
  | r + 1, f => by
    unfold raF
    rw [raF_ne h1 h2 r]
    split
    · exact rmF_ne h1 h2
    · rfl
theorem raF_s {c : Nat} {t : Int32} : ∀ (r : Nat) (f : Nat → Nat → Int32), f c 2 = nI (csz f c) → csz f c ≤ 40 → r ≤ csz f c → ∃ s, s ≤ csz f c ∧ raF f c t r c 2 = nI s
  | 0, f, h, h40, hr => ⟨csz f c, Nat.le_refl _, h⟩
  | r + 1, f, h, h40, hr => by
    unfold raF
    split
    · have e : csz (rmF f c r) c = csz f c - 1 := csz_of (rmF_s f c r) (by omega)
      obtain ⟨s, h1, h2⟩ := raF_s (c := c) (t := t) r (rmF f c r) (by rw [e]; exact rmF_s f c r) (by rw [e]; omega) (by rw [e]; omega)
      exact ⟨s, by rw [e] at h1; omega, h2⟩
    · obtain ⟨s, h1, h2⟩ := raF_s (c := c) (t := t) r f h h40 (by omega)
      exact ⟨s, h1, h2⟩
def bkA (f : Nat → Nat → Int32) (b t : Nat) : Nat → Nat → Int32 := raF (bkP f b t 4) (b + 10) (nI t) (csz (bkP f b t 4) (b + 10))
def bkB (f : Nat → Nat → Int32) (b t : Nat) : Nat → Nat → Int32 := raF (bkA f b t) (b + 12) (nI t) (csz (bkA f b t) (b + 12))
def bkC (f : Nat → Nat → Int32) (b t : Nat) : Nat → Nat → Int32 := u2 (u2 (u2 (u2 (u2 (bkB f b t) (b + 5) t 0) (b + 6) t (f b 14)) b 17 (f b 17 + 1)) (b + 14) (lnB f b) (nI t)) b 12 (nI (lnB f b + 1))
def bkF (f : Nat → Nat → Int32) (b t : Nat) : Nat → Nat → Int32 := if lnB f b < 6 then bkC f b t else f
theorem bkP_D {f : Nat → Nat → Int32} {b t r : Nat} (h : LedD f b) : LedD (bkP f b t r) b := LedD_congr h (bkP_o (by omega) (by omega) (by omega) (by omega) (by omega) r) (bkP_o (by omega) (by omega) (by omega) (by omega) (by omega) r) (bkP_o (by omega) (by omega) (by omega) (by omega) (by omega) r) (bkP_o (by omega) (by omega) (by omega) (by omega) (by omega) r)
theorem bkA_D {f : Nat → Nat → Int32} {b t : Nat} (h : LedD f b) : LedD (bkA f b t) b := by
  have h1 := bkP_D (t := t) (r := 4) h
  obtain ⟨s, a, e⟩ := raF_s (t := nI t) (csz (bkP f b t 4) (b + 10)) (bkP f b t 4) h1.1 h1.2.1 (Nat.le_refl _)
  exact LedD_gr h1 (raF_ne (by omega) (by omega) _ _) (raF_ne (by omega) (by omega) _ _) e (by have := h1.2.1; omega) (raF_ne (by omega) (by omega) _ _)
theorem bkB_D {f : Nat → Nat → Int32} {b t : Nat} (h : LedD f b) : LedD (bkB f b t) b := by
  have h1 := bkA_D (t := t) h
  obtain ⟨s, a, e⟩ := raF_s (t := nI t) (csz (bkA f b t) (b + 12)) (bkA f b t) h1.2.2.1 (by have := h1.2.2.2.1; omega) (Nat.le_refl _)
  exact LedD_de h1 (raF_ne (by omega) (by omega) _ _) (raF_ne (by omega) (by omega) _ _) e (by have := h1.2.2.2.1; omega) (raF_ne (by omega) (by omega) _ _)
theorem bkB_0 {f : Nat → Nat → Int32} {b t y : Nat} : bkB f b t b y = f b y := by
  unfold bkB bkA
  rw [raF_ne (by omega) (by omega), raF_ne (by omega) (by omega), bkP_o (by omega) (by omega) (by omega) (by omega) (by omega)]
theorem LedD_b {f g : Nat → Nat → Int32} {b s : Nat} (h : LedD f b) (h1 : g b 12 = nI s) (hs : s ≤ 6) (h2 : g b 13 = f b 13) (h3 : g (b + 10) 2 = f (b + 10) 2) (h4 : g (b + 12) 2 = f (b + 12) 2) : LedD g b := by
  have e2 : csz g (b + 12) = csz f (b + 12) := by unfold csz; rw [h4]
  have e1 : csz g (b + 10) = csz f (b + 10) := by unfold csz; rw [h3]
  have e3 := lnT_congr (b := b) h2
  have e4 : lnB g b = s := by unfold lnB; rw [h1, nI_clamp (by omega)]
  exact ⟨by rw [e1, h3]; exact h.1, by rw [e1]; exact h.2.1, by rw [e2, h4]; exact h.2.2.1, by rw [e2]; exact h.2.2.2.1, by rw [e3, h2]; exact h.2.2.2.2.1, by rw [e3]; exact h.2.2.2.2.2.1, by rw [e4]; exact h1, by rw [e4]; exact hs⟩
theorem bkF_D {f : Nat → Nat → Int32} {b t : Nat} (h : LedD f b) : LedD (bkF f b t) b := by
  unfold bkF
  split
  · next hb =>
    unfold bkC
    refine LedD_b (bkB_D (t := t) h) (s := lnB f b + 1) u2_eq (by omega) ?_ ?_ ?_
    · rw [u2_o (by omega), u2_o (by omega), u2_o (by omega), u2_o (by omega), u2_o (by omega)]
    · rw [u2_o (by omega), u2_o (by omega), u2_o (by omega), u2_o (by omega), u2_o (by omega)]
    · rw [u2_o (by omega), u2_o (by omega), u2_o (by omega), u2_o (by omega), u2_o (by omega)]
  · exact h
theorem bkF_t {f : Nat → Nat → Int32} {b t : Nat} : bkF f b t b 13 = f b 13 := by
  unfold bkF
  split
  · unfold bkC
    rw [u2_o (by omega), u2_o (by omega), u2_o (by omega), u2_o (by omega), u2_o (by omega), bkB_0]
  · rfl
theorem bk1_eq {f : Nat → Nat → Int32} {b t r : Nat} : gbF (u2 (u2 f (b + 3) r (f (b + 3) r - f (b + 9) (t * 4 + r))) (b + 9) (t * 4 + r) 0) b t r (f (b + 8) (t * 4 + r)) = bk1 f b t r := rfl