/-! ===== bankruptcy ===== -/
theorem add_neg0 (x : Int32) : x + -x = 0 := by rw [← Int32.sub_eq_add_neg, Int32.sub_self]
section Bk
variable {f : Nat → Nat → Int32} {b c d t : Nat} {u : Nat → Int32}
theorem bk1_2 {r y : Nat} : bk1 f b t r (b + 2) y = if y = r then minJ (f (b + 2) r + f (b + 8) (t * 4 + r)) 999 else f (b + 2) y := by
  unfold bk1 gbF afF
  rw [u2_at]
  by_cases z : y = r
  · rw [if_pos ⟨rfl, z⟩, if_pos z, u2_ne (by omega), u2_ne (by omega), u2_ne (by omega), u2_ne (by omega)]
  · rw [if_neg (fun q => z q.2), if_neg z, u2_ne (by omega), u2_ne (by omega), u2_ne (by omega), u2_ne (by omega)]
theorem bk1_3 {r y : Nat} : bk1 f b t r (b + 3) y = if y = r then f (b + 3) r - f (b + 9) (t * 4 + r) else f (b + 3) y := by
  unfold bk1 gbF afF
  rw [u2_ne (by omega), u2_ne (by omega), u2_ne (by omega), u2_ne (by omega), u2_at]
  by_cases z : y = r
  · rw [if_pos ⟨rfl, z⟩, if_pos z]
  · rw [if_neg (fun q => z q.2), if_neg z]
theorem bk1_7 {r y : Nat} : bk1 f b t r (b + 7) y = if y = t * 4 + r then f (b + 7) y - f (b + 8) y else f (b + 7) y := by
  unfold bk1 gbF afF
  rw [u2_ne (by omega), u2_at]
  by_cases z : y = t * 4 + r
  · rw [if_pos ⟨rfl, z⟩, if_pos z, u2_ne (by omega), u2_ne (by omega), z]
  · rw [if_neg (fun q => z q.2), if_neg z, u2_ne (by omega), u2_ne (by omega), u2_ne (by omega)]
theorem bk1_8 {r y : Nat} : bk1 f b t r (b + 8) y = if y = t * 4 + r then 0 else f (b + 8) y := by
  unfold bk1 gbF afF
  rw [u2_ne (by omega), u2_ne (by omega), u2_at]
  by_cases z : y = t * 4 + r
  · rw [if_pos ⟨rfl, z⟩, if_pos z, u2_ne (by omega), u2_ne (by omega), Int32.sub_self]
  · rw [if_neg (fun q => z q.2), if_neg z, u2_ne (by omega), u2_ne (by omega)]
theorem bk1_9 {r y : Nat} : bk1 f b t r (b + 9) y = if y = t * 4 + r then 0 else f (b + 9) y := by
  unfold bk1 gbF afF
  rw [u2_ne (by omega), u2_ne (by omega), u2_ne (by omega), u2_at]
  by_cases z : y = t * 4 + r
  · rw [if_pos ⟨rfl, z⟩, if_pos z]
  · rw [if_neg (fun q => z q.2), if_neg z, u2_ne (by omega)]
theorem bkP_8 {y : Nat} : ∀ n, bkP f b t n (b + 8) y = if t * 4 ≤ y ∧ y < t * 4 + n then 0 else f (b + 8) y
  | 0 => by rw [if_neg (by omega)]; rfl
  | n + 1 => by
    rw [bkP, bk1_8, bkP_8 n]
    by_cases z : y = t * 4 + n
    · rw [if_pos z, if_pos (by omega)]
    · rw [if_neg z]
      by_cases z2 : t * 4 ≤ y ∧ y < t * 4 + n
      · rw [if_pos z2, if_pos (by omega)]
      · rw [if_neg z2, if_neg (by omega)]
theorem bkP_9 {y : Nat} : ∀ n, bkP f b t n (b + 9) y = if t * 4 ≤ y ∧ y < t * 4 + n then 0 else f (b + 9) y
  | 0 => by rw [if_neg (by omega)]; rfl
  | n + 1 => by
    rw [bkP, bk1_9, bkP_9 n]
    by_cases z : y = t * 4 + n
    · rw [if_pos z, if_pos (by omega)]
    · rw [if_neg z]
      by_cases z2 : t * 4 ≤ y ∧ y < t * 4 + n
      · rw [if_pos z2, if_pos (by omega)]
      · rw [if_neg z2, if_neg (by omega)]
theorem bkP_7 {y : Nat} : ∀ n, bkP f b t n (b + 7) y = if t * 4 ≤ y ∧ y < t * 4 + n then f (b + 7) y - f (b + 8) y else f (b + 7) y
  | 0 => by rw [if_neg (by omega)]; rfl
  | n + 1 => by
    rw [bkP, bk1_7, bkP_7 n]
    by_cases z : y = t * 4 + n
    · rw [if_pos z, if_neg (by omega), if_pos (by omega), bkP_8, if_neg (by omega)]
    · rw [if_neg z]
      by_cases z2 : t * 4 ≤ y ∧ y < t * 4 + n
      · rw [if_pos z2, if_pos (by omega)]
      · rw [if_neg z2, if_neg (by omega)]
theorem bkP_3 {y : Nat} : ∀ n, bkP f b t n (b + 3) y = if y < n then f (b + 3) y - f (b + 9) (t * 4 + y) else f (b + 3) y
  | 0 => by rw [if_neg (by omega)]; rfl
  | n + 1 => by
    rw [bkP, bk1_3, bkP_3 n, bkP_3 n]
    by_cases z : y = n
    · rw [if_pos z, if_neg (by omega), if_pos (by omega), bkP_9, if_neg (by omega), z]
    · rw [if_neg z]
      by_cases z2 : y < n
      · rw [if_pos z2, if_pos (by omega)]
      · rw [if_neg z2, if_neg (by omega)]
theorem bkP_2 {y : Nat} : ∀ n, bkP f b t n (b + 2) y = if y < n then minJ (f (b + 2) y + f (b + 8) (t * 4 + y)) 999 else f (b + 2) y
  | 0 => by rw [if_neg (by omega)]; rfl
  | n + 1 => by
    rw [bkP, bk1_2, bkP_2 n, bkP_2 n]
    by_cases z : y = n
    · rw [if_pos z, if_neg (by omega), if_pos (by omega), bkP_8, if_neg (by omega), z]
    · rw [if_neg z]
      by_cases z2 : y < n
      · rw [if_pos z2, if_pos (by omega)]
      · rw [if_neg z2, if_neg (by omega)]
theorem gb1_f {r q : Nat} (ht : t < 6) (hr : r < 4) (hq : q < 4) : gb1 u t r (4 + q) = if q = r then lsU (nI 999) (u (4 + r) + u (8 + 12 * t + (8 + r))) else u (4 + q) := by
  simp only [gb1, cfU]
  rw [up_ne (by omega), up_ne (by omega)]
  by_cases z : q = r
  · rw [if_pos z, z, up_at]
  · rw [if_neg z, up_ne (by omega)]
theorem gb1_m {r q : Nat} (ht : t < 6) (hr : r < 4) (hq : q < 4) : gb1 u t r (8 + 12 * t + (4 + q)) = if q = r then u (8 + 12 * t + (4 + r)) + -u (8 + 12 * t + (8 + r)) else u (8 + 12 * t + (4 + q)) := by
  simp only [gb1, cfU]
  rw [up_ne (j := 8 + 12 * t + (4 + q)) (by omega)]
  by_cases z : q = r
  · rw [if_pos z, z, up_at, up_ne (by omega)]
  · rw [if_neg z, up_ne (by omega), up_ne (by omega)]
theorem gb1_l {r q : Nat} (ht : t < 6) (hr : r < 4) (hq : q < 4) : gb1 u t r (8 + 12 * t + (8 + q)) = if q = r then 0 else u (8 + 12 * t + (8 + q)) := by
  simp only [gb1, cfU]
  by_cases z : q = r
  · rw [if_pos z, z, up_at, up_ne (by omega), up_ne (by omega), add_neg0]
  · rw [if_neg z, up_ne (by omega), up_ne (by omega), up_ne (by omega)]
theorem gbP_l {q : Nat} (ht : t < 6) (hq : q < 4) : ∀ n, n ≤ 4 → gbP u t n (8 + 12 * t + (8 + q)) = if q < n then 0 else u (8 + 12 * t + (8 + q))
  | 0, _ => by rw [if_neg (by omega)]; rfl
  | n + 1, hn => by
    rw [gbP, gb1_l ht (by omega) hq, gbP_l ht hq n (by omega)]
    by_cases z : q = n
    · rw [if_pos z, if_pos (by omega)]
    · rw [if_neg z]
      by_cases z2 : q < n
      · rw [if_pos z2, if_pos (by omega)]
      · rw [if_neg z2, if_neg (by omega)]
theorem gbP_m {q : Nat} (ht : t < 6) (hq : q < 4) : ∀ n, n ≤ 4 → gbP u t n (8 + 12 * t + (4 + q)) = if q < n then u (8 + 12 * t + (4 + q)) + -u (8 + 12 * t + (8 + q)) else u (8 + 12 * t + (4 + q))
  | 0, _ => by rw [if_neg (by omega)]; rfl
  | n + 1, hn => by
    rw [gbP, gb1_m ht (by omega) hq]
    by_cases z : q = n
    · rw [if_pos z, if_pos (by omega), gbP_l ht (by omega) n (by omega), if_neg (by omega), gbP_m ht (by omega) n (by omega), if_neg (by omega), z]
    · rw [if_neg z, gbP_m ht hq n (by omega)]
      by_cases z2 : q < n
      · rw [if_pos z2, if_pos (by omega)]
      · rw [if_neg z2, if_neg (by omega)]
theorem gbP_f {q : Nat} (ht : t < 6) (hq : q < 4) : ∀ n, n ≤ 4 → gbP u t n (4 + q) = if q < n then lsU (nI 999) (u (4 + q) + u (8 + 12 * t + (8 + q))) else u (4 + q)
  | 0, _ => by rw [if_neg (by omega)]; rfl
  | n + 1, hn => by
    rw [gbP, gb1_f ht (by omega) hq]
    by_cases z : q = n
    · rw [if_pos z, if_pos (by omega), gbP_l ht (by omega) n (by omega), if_neg (by omega), gbP_f ht (by omega) n (by omega), if_neg (by omega), z]
    · rw [if_neg z, gbP_f ht hq n (by omega)]
      by_cases z2 : q < n
      · rw [if_pos z2, if_pos (by omega)]
      · rw [if_neg z2, if_neg (by omega)]
theorem gbP_x {y : Nat} (ht : t < 6) (h : y < 4 ∨ 8 ≤ y) (h2 : y < 8 + 12 * t + 4 ∨ 8 + 12 * t + 12 ≤ y) : ∀ n, n ≤ 4 → gbP u t n y = u y
  | 0, _ => rfl
  | n + 1, hn => by
    rw [gbP, gb1_o (by omega) (by omega) (by omega)]
    exact gbP_x ht h h2 n (by omega)
/-! the tables -/
theorem TG_ra (ht : t < 6) : ∀ n (f : Nat → Nat → Int32) (u : Nat → Int32), TG f d u → MdD u → n ≤ uG u → TG (raF f d (nI t) n) d (rgU t n u)
  | 0, _, _, h, _, _ => h
  | n + 1, f, u, h, hi, hn => by
    have m2 := hi.2.1.2
    have hs : f d 2 = nI (uG u) := by rw [h.1]; exact hi.2.1.1
    have e2 : cellF f d (nI n) 4 = u (80 + 6 * n + 5) := by
      unfold cellF
      rw [if_pos ⟨⟨nI_ge0 (by omega), by rw [hs, nI_ltI (by omega) (by omega)]; omega⟩, by decide, by decide⟩, nI_clamp (by omega)]
      exact (h.2 n (by omega)).2 4 (by omega)
    rw [raF, rgU, e2]
    by_cases z : u (80 + 6 * n + 5) = nI t
    · rw [if_pos z, if_pos z]
      exact TG_ra ht n _ _ (TG_rm h m2) (lgU_D hi) (by rw [lg_n m2]; omega)
    · rw [if_neg z, if_neg z]
      exact TG_ra ht n _ _ h hi (by omega)
theorem TD_ra (ht : t < 6) : ∀ n (f : Nat → Nat → Int32) (u : Nat → Int32), TD f d u → MdD u → n ≤ uD u → TD (raF f d (nI t) n) d (rdU t n u)
  | 0, _, _, h, _, _ => h
  | n + 1, f, u, h, hi, hn => by
    have m2 := hi.2.2.1.2
    have hs : f d 2 = nI (uD u) := by rw [h.1]; exact hi.2.2.1.1
    have e2 : cellF f d (nI n) 4 = u (320 + 5 * n + 4) := by
      unfold cellF
      rw [if_pos ⟨⟨nI_ge0 (by omega), by rw [hs, nI_ltI (by omega) (by omega)]; omega⟩, by decide, by decide⟩, nI_clamp (by omega)]
      exact h.2 n (by omega) 4 (by omega)
    rw [raF, rdU, e2]
    by_cases z : u (320 + 5 * n + 4) = nI t
    · rw [if_pos z, if_pos z]
      exact TD_ra ht n _ _ (TD_rm h m2) (ldU_D hi) (by rw [ld_n m2]; omega)
    · rw [if_neg z, if_neg z]
      exact TD_ra ht n _ _ h hi (by omega)
theorem rg_T {n : Nat} (hi : MdD u) : uT (rgU t n u) = uT u := by unfold uT; rw [rgU_o (by omega) (by omega) n u hi]
theorem rd_T {n : Nat} (hi : MdD u) : uT (rdU t n u) = uT u := by unfold uT; rw [rdU_o (by omega) (by omega) n u hi]
theorem lg_T {k : Nat} (hi : MdD u) : uT (lgU u k) = uT u := by unfold uT; rw [lgU_o (by omega) (by omega) hi.2.1.2]
theorem ld_T {k : Nat} (hi : MdD u) : uT (ldU u k) = uT u := by unfold uT; rw [ldU_o (by omega) (by omega) hi.2.2.1.2]
theorem IG_rg : ∀ n (u : Nat → Int32), IG u → MdD u → IG (rgU t n u)
  | 0, _, h, _ => h
  | n + 1, u, h, hi => by
    rw [rgU]
    by_cases z : u (80 + 6 * n + 5) = nI t
    · rw [if_pos z]
      exact IG_rg n _ (IG_lg h hi.2.1.2 (lg_T hi)) (lgU_D hi)
    · rw [if_neg z]
      exact IG_rg n _ h hi
theorem ID_rd : ∀ n (u : Nat → Int32), ID u → MdD u → ID (rdU t n u) ∧ uD (rdU t n u) ≤ uD u
  | 0, _, h, _ => ⟨h, Nat.le_refl _⟩
  | n + 1, u, h, hi => by
    rw [rdU]
    by_cases z : u (320 + 5 * n + 4) = nI t
    · rw [if_pos z]
      have ih := ID_rd n _ (ID_ld (k := n) h hi.2.2.1.2 (ld_T hi)) (ldU_D hi)
      exact ⟨ih.1, Nat.le_trans ih.2 (by rw [ld_n hi.2.2.1.2]; omega)⟩
    · rw [if_neg z]
      exact ID_rd n _ h hi
theorem us_rg (ht : t < 6) {r : Nat} (hr : r < 4) : ∀ n (u : Nat → Int32), MdD u → n ≤ uG u → (∀ t', t' < 6 → t' ≠ t → usU (rgU t n u) r (nI t') = usU u r (nI t')) ∧ usU (rgU t n u) r (-1000003) + usU u r (nI t) = usU u r (-1000003) + usU (rgU t n u) r (nI t)
  | 0, _, _, _ => ⟨fun _ _ _ => rfl, rfl⟩
  | n + 1, u, hi, hn => by
    have m2 := hi.2.1.2
    rw [rgU]
    by_cases z : u (80 + 6 * n + 5) = nI t
    · rw [if_pos z]
      have ih := us_rg ht hr n (lgU u n) (lgU_D hi) (by rw [lg_n m2]; omega)
      refine ⟨fun t' h1 h2 => ?_, ?_⟩
      · have e := us_lg (t := nI t') (k := n) (by omega) hr m2
        rw [usT_t z ht h1, if_neg h2, Int32.add_zero] at e
        rw [ih.1 t' h1 h2, e]
      · have e1 := us_lg (t := nI t) (k := n) (by omega) hr m2
        have e2 := us_lg (t := -1000003) (k := n) (by omega) hr m2
        rw [usT_t z ht ht, if_pos rfl] at e1
        rw [usT_N] at e2
        rw [← e1, ← e2, ← Int32.add_assoc, ih.2, Int32.add_assoc, Int32.add_assoc, Int32.add_comm (u (80 + 6 * n + (1 + r)))]
    · rw [if_neg z]
      exact us_rg ht hr n u hi (by omega)
theorem rg_no (ht : t < 6) : ∀ n (u : Nat → Int32), MdD u → n ≤ uG u → (∀ k, n ≤ k → k < uG u → ¬ u (80 + 6 * k + 5) = nI t) → ∀ k, k < uG (rgU t n u) → ¬ rgU t n u (80 + 6 * k + 5) = nI t
  | 0, _, _, _, h => fun k hk => h k (Nat.zero_le _) hk
  | n + 1, u, hi, hn, h => by
    have m2 := hi.2.1.2
    rw [rgU]
    by_cases z : u (80 + 6 * n + 5) = nI t
    · rw [if_pos z]
      refine rg_no ht n _ (lgU_D hi) (by rw [lg_n m2]; omega) (fun k h1 h2 => ?_)
      rw [lg_n m2] at h2
      rw [lg_row h2 (by omega) m2]
      unfold shR
      rw [if_neg (by omega)]
      exact h (k + 1) (by omega) (by omega)
    · rw [if_neg z]
      refine rg_no ht n _ hi (by omega) (fun k h1 h2 => ?_)
      by_cases e : k = n
      · rw [e]
        exact z
      · exact h k (by omega) h2
theorem us_bn (hi : MdD u) (ht : t < 6) {r : Nat} (hr : r < 4) : (∀ t', t' < 6 → t' ≠ t → usU (bnA u t) r (nI t') = usU u r (nI t')) ∧ usU (bnA u t) r (nI t) = 0 ∧ usU (bnA u t) r (-1000003) = usU u r (-1000003) - usU u r (nI t) := by
  have h := us_rg ht hr (uG u) u hi (Nat.le_refl _)
  have h0 : usU (bnA u t) r (nI t) = 0 := us_0 (by omega) (rg_no ht (uG u) u hi (Nat.le_refl _) (fun k h1 h2 => by omega))
  refine ⟨h.1, h0, ?_⟩
  have e := h.2
  rw [show rgU t (uG u) u = bnA u t from rfl, h0, Int32.add_zero] at e
  rw [← e, Int32.sub_eq_add_neg, Int32.add_assoc, add_neg0, Int32.add_zero]
end Bk
