/-! a tick -/
def duU (u : Nat → Int32) (t : Nat) : Nat → Int32
  | 0 => nI 0
  | r + 1 => duU u t r + u (8 + 12 * t + (8 + r)) * prU u r
def tAU (u : Nat → Int32) (t : Nat) : Nat → Int32 := upF u (8 + 12 * t + 1) (u (8 + 12 * t + 1) + (if u (8 + 12 * t + 3) = nI 1 then nI 5 * u (8 + 12 * t) - duU u t 4 else nI 0))
def tAP (u : Nat → Int32) : Nat → Nat → Int32
  | 0 => u
  | t + 1 => tAU (tAP u t) t
def inU (x : Int32) : Int32 := -((x + nI 9) / nI 10)
def tBU (u : Nat → Int32) (t : Nat) : Nat → Int32 := upF u (8 + 12 * t + 1) (u (8 + 12 * t + 1) + (if u (8 + 12 * t + 3) = nI 1 ∧ nI 0 < -u (8 + 12 * t + 1) then inU (-u (8 + 12 * t + 1)) else nI 0))
def tBP (u : Nat → Int32) : Nat → Nat → Int32
  | 0 => u
  | t + 1 => tBU (tBP u t) t
def tCU (u : Nat → Int32) (t : Nat) : Nat → Int32 := if u (8 + 12 * t + 3) = nI 1 ∧ nI 50 * u (8 + 12 * t) < -u (8 + 12 * t + 1) then bnU u t else u
def tCP (u : Nat → Int32) : Nat → Nat → Int32
  | 0 => u
  | t + 1 => tCU (tCP u t) t
abbrev tDC (u : Nat → Int32) : Prop := 0 < uB u ∧ u 452 ≤ u 446 - u (8 + 12 * (u 440).toNatClampNeg + 2)
def tDP (u : Nat → Int32) (i : Nat) : Nat → Int32 := fun y => if y = 450 then nI (uB u - 1) else if y = 8 + 12 * (u 440).toNatClampNeg + 3 then nI 1 else if 440 ≤ y ∧ y < 440 + i then u (y + 1) else u y
def tDU (u : Nat → Int32) : Nat → Int32 := if tDC u then tDP u (uB u - 1) else u
def tK0 (u : Nat → Int32) : Nat → Int32 := upF u 446 (u 446 + nI 1)
def tKA (u : Nat → Int32) : Nat → Int32 := tAP (tK0 u) (uT u)
def tKB (u : Nat → Int32) : Nat → Int32 := tBP (tKA u) (uT u)
def tKC (u : Nat → Int32) : Nat → Int32 := tCP (tKB u) (uT u)
def tkU (u : Nat → Int32) : Nat → Int32 := tDU (tKC u)
/-- the number of solvent tenants among the first n -/
def slU (u : Nat → Int32) (n : Nat) : Nat := fcnt (fun t => u (8 + 12 * t + 3) = nI 1) n
def SqOk (u : Nat → Int32) : Prop := uB u + slU u (uT u) ≤ uT u ∧ ∀ k, k < uB u → ∃ q, q < 6 ∧ u (440 + k) = nI q
theorem fcnt_cg {p q : Nat → Prop} [DecidablePred p] [DecidablePred q] : ∀ n, (∀ k, k < n → (p k ↔ q k)) → fcnt p n = fcnt q n
  | 0, _ => rfl
  | n + 1, h => by
    have e := fcnt_cg n (fun k hk => h k (by omega))
    rw [fcnt_s, fcnt_s, e]
    by_cases z : p n
    · rw [if_pos z, if_pos ((h n (by omega)).mp z)]
    · rw [if_neg z, if_neg (fun w => z ((h n (by omega)).mpr w))]
theorem fcnt_pos {p : Nat → Prop} [DecidablePred p] {t : Nat} (hp : p t) : ∀ n, t < n → 1 ≤ fcnt p n
  | 0, h => by omega
  | n + 1, h => by
    rw [fcnt_s]
    by_cases z : p n
    · rw [if_pos z]; omega
    · rw [if_neg z]
      refine fcnt_pos hp n ?_
      by_cases q : t = n
      · exact absurd (q ▸ hp) z
      · omega
/-- one that had the property has it no more -/
theorem fcnt_rem {p q : Nat → Prop} [DecidablePred p] [DecidablePred q] {t : Nat} (hp : p t) (hq : ¬ q t) : ∀ n, t < n → (∀ k, k < n → k ≠ t → (p k ↔ q k)) → fcnt q n + 1 = fcnt p n
  | 0, h, _ => by omega
  | n + 1, h, hk => by
    rw [fcnt_s, fcnt_s]
    by_cases z : t = n
    · subst z
      rw [if_pos hp, if_neg hq, fcnt_cg t (fun k hk2 => (hk k (by omega) (by omega)).symm)]
    · have ih := fcnt_rem hp hq n (by omega) (fun k hk2 => hk k (by omega))
      have e := hk n (by omega) (fun w => z w.symm)
      by_cases w : p n
      · rw [if_pos w, if_pos (e.mp w)]; omega
      · rw [if_neg w, if_neg (fun v => w (e.mpr v))]; exact ih
theorem fcnt_add {p q : Nat → Prop} [DecidablePred p] [DecidablePred q] {t : Nat} : ∀ n, (∀ k, k < n → k ≠ t → (p k ↔ q k)) → fcnt q n ≤ fcnt p n + 1 := fun n hk => by
  by_cases ht : t < n
  · by_cases hp : p t
    · by_cases hq : q t
      · have e : fcnt p n = fcnt q n := fcnt_cg n (fun k hk2 => by
          by_cases z : k = t
          · rw [z]
            exact ⟨fun _ => hq, fun _ => hp⟩
          · exact hk k hk2 z)
        omega
      · have := fcnt_rem hp hq n ht hk
        omega
    · by_cases hq : q t
      · have := fcnt_rem hq hp n ht (fun k h1 h2 => (hk k h1 h2).symm)
        omega
      · have e : fcnt p n = fcnt q n := fcnt_cg n (fun k hk2 => by
          by_cases z : k = t
          · rw [z]
            exact ⟨fun w => absurd w hp, fun w => absurd w hq⟩
          · exact hk k hk2 z)
        omega
  · rw [fcnt_cg (p := p) (q := q) n (fun k hk2 => hk k hk2 (by omega))]
    omega
theorem slU_pos {u : Nat → Int32} {t : Nat} (ht : t < uT u) (hs : u (8 + 12 * t + 3) = nI 1) (h : SqOk u) (h6 : uT u ≤ 6) : uB u < 6 := by
  have h1 := h.1
  have : 1 ≤ slU u (uT u) := fcnt_pos (p := fun t => u (8 + 12 * t + 3) = nI 1) (t := t) hs (uT u) ht
  omega
theorem SqOk_cg {u w : Nat → Int32} (h : SqOk u) (h1 : w 447 = u 447) (h2 : w 450 = u 450) (h3 : ∀ t, t < uT u → w (8 + 12 * t + 3) = u (8 + 12 * t + 3)) (h4 : ∀ k, k < 6 → w (440 + k) = u (440 + k)) (hb : uB u ≤ 6) : SqOk w := by
  have e1 : uT w = uT u := by unfold uT; rw [h1]
  have e2 : uB w = uB u := by unfold uB; rw [h2]
  refine ⟨?_, fun k hk => ?_⟩
  · rw [e1, e2]
    unfold slU
    rw [fcnt_cg (q := fun t => u (8 + 12 * t + 3) = nI 1) (uT u) (fun k hk => by rw [h3 k hk])]
    exact h.1
  · rw [e2] at hk
    rw [h4 k (by omega)]
    exact h.2 k hk
theorem gb3_o {u : Nat → Int32} {t y : Nat} (h1 : y ≠ 8 + 12 * t + 3) (h2 : y ≠ 8 + 12 * t + 2) (h3 : y ≠ 440 + uB u) (h4 : y ≠ 450) (h5 : y ≠ 453) : gb3 u t y = u y := by
  unfold gb3
  rw [up_ne h5, up_ne h4, up_ne h3, up_ne h2, up_ne h1]
theorem bnU_o {u : Nat → Int32} {t y : Nat} (hu : MdD u) (ht : t < 6) (hb : uB u < 6) (h : y < 4 ∨ 440 ≤ y) (h1 : y ≠ 448) (h2 : y ≠ 449) (h3 : y ≠ 440 + uB u) (h4 : y ≠ 450) (h5 : y ≠ 453) : bnU u t y = u y := by
  have e : uB (gb2 (gbP (bnB u t) t 4) t) = uB u := by
    unfold uB
    rw [gb2_o (by omega), gbP_o ht (by omega) 4 (by omega), bnB_o hu (by omega) (by omega) (by omega)]
  unfold bnU
  rw [gb3_o (by omega) (by omega) (by omega) h4 h5, gb2_o (by omega), gbP_o ht (by omega) 4 (by omega), bnB_o hu (by omega) h1 h2]
theorem bnU_ub {u : Nat → Int32} {t : Nat} (hu : MdD u) (ht : t < 6) : uB (gb2 (gbP (bnB u t) t 4) t) = uB u := by
  unfold uB
  rw [gb2_o (by omega), gbP_o ht (by omega) 4 (by omega), bnB_o hu (by omega) (by omega) (by omega)]
theorem bnU_450 {u : Nat → Int32} {t : Nat} (hu : MdD u) (ht : t < 6) : bnU u t 450 = nI (uB u + 1) := by
  unfold bnU gb3
  rw [up_ne (by omega), up_at, bnU_ub hu ht]
theorem bnU_q {u : Nat → Int32} {t : Nat} (hu : MdD u) (ht : t < 6) (hb : uB u < 6) : bnU u t (440 + uB u) = nI t := by
  unfold bnU gb3
  rw [bnU_ub hu ht, up_ne (by omega), up_ne (by omega), up_at]
theorem bnU_448 {u : Nat → Int32} {t : Nat} (hu : MdD u) (ht : t < 6) (hb : uB u < 6) : bnU u t 448 = bnB u t 448 ∧ bnU u t 449 = bnB u t 449 := by
  have e := bnU_ub (t := t) hu ht
  unfold bnU
  refine ⟨?_, ?_⟩
  · rw [gb3_o (by omega) (by omega) (by omega) (by omega) (by omega), gb2_o (by omega), gbP_o ht (by omega) 4 (by omega)]
  · rw [gb3_o (by omega) (by omega) (by omega) (by omega) (by omega), gb2_o (by omega), gbP_o ht (by omega) 4 (by omega)]
theorem bnU_D {u : Nat → Int32} {t : Nat} (hu : MdD u) (ht : t < 6) (hb : uB u < 6) : MdD (bnU u t) := by
  have hD := bnB_D (t := t) hu
  have h1 := bnU_448 hu ht hb
  have e7 : bnU u t 447 = bnB u t 447 := by rw [bnU_o hu ht hb (by omega) (by omega) (by omega) (by omega) (by omega) (by omega), bnB_o hu (by omega) (by omega) (by omega)]
  exact MdD_b (s := uB u + 1) hD e7 h1.1 h1.2 (bnU_450 hu ht) (by omega)
theorem gb1_s {u : Nat → Int32} {t r k : Nat} (ht : t < 6) (hk : k < 6) (hr : r < 4) : gb1 u t r (8 + 12 * k + 3) = u (8 + 12 * k + 3) := gb1_o (by omega) (by omega) (by omega)
theorem gbP_s {u : Nat → Int32} {t k : Nat} (ht : t < 6) (hk : k < 6) : ∀ r, r ≤ 4 → gbP u t r (8 + 12 * k + 3) = u (8 + 12 * k + 3)
  | 0, _ => rfl
  | r + 1, hr => by
    unfold gbP
    rw [gb1_s ht hk (by omega), gbP_s ht hk r (by omega)]
theorem bnU_so {u : Nat → Int32} {t k : Nat} (hu : MdD u) (ht : t < 6) (hk : k < 6) (hb : uB u < 6) (hne : k ≠ t) : bnU u t (8 + 12 * k + 3) = u (8 + 12 * k + 3) := by
  have e := bnU_ub (t := t) hu ht
  unfold bnU
  rw [gb3_o (by omega) (by omega) (by omega) (by omega) (by omega), gb2_o (by omega), gbP_s ht hk 4 (by omega), bnB_o hu (by omega) (by omega) (by omega)]
theorem bnU_st {u : Nat → Int32} {t : Nat} (hu : MdD u) (ht : t < 6) (hb : uB u < 6) : bnU u t (8 + 12 * t + 3) = nI 0 := by
  have e := bnU_ub (t := t) hu ht
  unfold bnU gb3
  rw [e, up_ne (by omega), up_ne (by omega), up_ne (by omega), up_ne (by omega), up_at]
theorem n0n1 : ¬ nI 0 = nI 1 := by decide
theorem bnU_Sq {u : Nat → Int32} {t : Nat} (hu : MdD u) (h : SqOk u) (ht : t < uT u) (hs : u (8 + 12 * t + 3) = nI 1) : SqOk (bnU u t) := by
  have h6 := hu.1.2
  have hb := slU_pos ht hs h h6
  have ht6 : t < 6 := by omega
  have e1 : uT (bnU u t) = uT u := by
    unfold uT
    rw [bnU_o hu ht6 hb (by omega) (by omega) (by omega) (by omega) (by omega) (by omega)]
  have e2 : uB (bnU u t) = uB u + 1 := tN_of (bnU_450 hu ht6) (by omega)
  refine ⟨?_, fun k hk => ?_⟩
  · rw [e1, e2]
    have := fcnt_rem (p := fun t => u (8 + 12 * t + 3) = nI 1) (q := fun k => bnU u t (8 + 12 * k + 3) = nI 1) (t := t) hs (by rw [bnU_st hu ht6 hb]; exact n0n1) (uT u) ht (fun k hk hne => by rw [bnU_so hu ht6 (by omega) hb hne])
    have h1 := h.1
    unfold slU at h1 ⊢
    omega
  · rw [e2] at hk
    by_cases z : k = uB u
    · rw [z, bnU_q hu ht6 hb]
      exact ⟨t, ht6, rfl⟩
    · rw [bnU_o hu ht6 hb (by omega) (by omega) (by omega) (by omega) (by omega) (by omega)]
      exact h.2 k (by omega)
theorem tAU_o {u : Nat → Int32} {t y : Nat} (h : y ≠ 8 + 12 * t + 1) : tAU u t y = u y := up_ne h
theorem tBU_o {u : Nat → Int32} {t y : Nat} (h : y ≠ 8 + 12 * t + 1) : tBU u t y = u y := up_ne h
theorem tAP_o {u : Nat → Int32} {y : Nat} (h : y < 9 ∨ 80 ≤ y ∨ y % 12 ≠ 9) : ∀ t, t ≤ 6 → tAP u t y = u y
  | 0, _ => rfl
  | t + 1, ht => by
    unfold tAP
    rw [tAU_o (by omega), tAP_o h t (by omega)]
theorem tBP_o {u : Nat → Int32} {y : Nat} (h : y < 9 ∨ 80 ≤ y ∨ y % 12 ≠ 9) : ∀ t, t ≤ 6 → tBP u t y = u y
  | 0, _ => rfl
  | t + 1, ht => by
    unfold tBP
    rw [tBU_o (by omega), tBP_o h t (by omega)]
theorem tAP_D {u : Nat → Int32} (h : MdD u) {t : Nat} (ht : t ≤ 6) : MdD (tAP u t) := MdD_cg h (tAP_o (by omega) t ht) (tAP_o (by omega) t ht) (tAP_o (by omega) t ht) (tAP_o (by omega) t ht)
theorem tBP_D {u : Nat → Int32} (h : MdD u) {t : Nat} (ht : t ≤ 6) : MdD (tBP u t) := MdD_cg h (tBP_o (by omega) t ht) (tBP_o (by omega) t ht) (tBP_o (by omega) t ht) (tBP_o (by omega) t ht)
theorem tK0_D {u : Nat → Int32} (h : MdD u) : MdD (tK0 u) := MdD_cg h (up_ne (by omega)) (up_ne (by omega)) (up_ne (by omega)) (up_ne (by omega))
theorem tK0_Sq {u : Nat → Int32} (hu : MdD u) (h : SqOk u) : SqOk (tK0 u) := SqOk_cg h (up_ne (by omega)) (up_ne (by omega)) (fun t ht => up_ne (by have := hu.1.2; omega)) (fun k hk => up_ne (by omega)) hu.2.2.2.2
theorem tAP_Sq {u : Nat → Int32} (hu : MdD u) (h : SqOk u) {t : Nat} (ht : t ≤ 6) : SqOk (tAP u t) := SqOk_cg h (tAP_o (by omega) t ht) (tAP_o (by omega) t ht) (fun k hk => tAP_o (by omega) t ht) (fun k hk => tAP_o (by omega) t ht) hu.2.2.2.2
theorem tBP_Sq {u : Nat → Int32} (hu : MdD u) (h : SqOk u) {t : Nat} (ht : t ≤ 6) : SqOk (tBP u t) := SqOk_cg h (tBP_o (by omega) t ht) (tBP_o (by omega) t ht) (fun k hk => tBP_o (by omega) t ht) (fun k hk => tBP_o (by omega) t ht) hu.2.2.2.2
def CqOk (u : Nat → Int32) (T : Nat) : Prop := MdD u ∧ SqOk u ∧ uT u = T
theorem tCU_ok {u : Nat → Int32} {T t : Nat} (h : CqOk u T) (ht : t < T) : CqOk (tCU u t) T := by
  obtain ⟨hu, hs, hT⟩ := h
  have h6 := hu.1.2
  unfold tCU
  split
  · next q =>
    have hb := slU_pos (t := t) (by omega) q.1 hs h6
    refine ⟨bnU_D hu (by omega) hb, bnU_Sq hu hs (by omega) q.1, ?_⟩
    rw [← hT]
    unfold uT
    rw [bnU_o hu (by omega) hb (by omega) (by omega) (by omega) (by omega) (by omega) (by omega)]
  · exact ⟨hu, hs, hT⟩
theorem tCP_ok {u : Nat → Int32} {T : Nat} (h : CqOk u T) : ∀ t, t ≤ T → CqOk (tCP u t) T
  | 0, _ => h
  | t + 1, ht => tCU_ok (tCP_ok h t (by omega)) (by omega)
theorem tDP_0 (u : Nat → Int32) (hq : (u 440).toNatClampNeg < 6) : upF (upF u (8 + 12 * (u 440).toNatClampNeg + 3) (nI 1)) 450 (nI (uB u - 1)) = tDP u 0 := by
  funext y
  unfold upF tDP
  by_cases h : y = 450
  · rw [if_pos h, if_pos h]
  · rw [if_neg h, if_neg h]
    by_cases h2 : y = 8 + 12 * (u 440).toNatClampNeg + 3
    · rw [if_pos h2, if_pos h2]
    · rw [if_neg h2, if_neg h2, if_neg (by omega)]
theorem tDP_s {u : Nat → Int32} {i : Nat} (hi : i < 6) (hq : (u 440).toNatClampNeg < 6) : upF (tDP u i) (440 + i) (u (440 + i + 1)) = tDP u (i + 1) := by
  funext y
  unfold upF tDP
  by_cases h : y = 440 + i
  · rw [if_pos h, if_neg (by omega), if_neg (by omega), if_pos (by omega), h]
  · rw [if_neg h]
    by_cases h3 : y = 450
    · rw [if_pos h3, if_pos h3]
    · rw [if_neg h3, if_neg h3]
      by_cases h4 : y = 8 + 12 * (u 440).toNatClampNeg + 3
      · rw [if_pos h4, if_pos h4]
      · rw [if_neg h4, if_neg h4]
        by_cases h5 : 440 ≤ y ∧ y < 440 + i
        · rw [if_pos h5, if_pos (by omega)]
        · rw [if_neg h5, if_neg (by omega)]
theorem tDP_c (u : Nat → Int32) (i : Nat) : tDP u i 450 = nI (uB u - 1) := if_pos rfl
theorem tDP_r {u : Nat → Int32} {i j : Nat} (h : i ≤ j) (h2 : j < 6) (hq : (u 440).toNatClampNeg < 6) : tDP u i (440 + j) = u (440 + j) := by
  unfold tDP
  rw [if_neg (by omega), if_neg (by omega), if_neg (by omega)]
theorem tDU_ok {u : Nat → Int32} {T : Nat} (h : CqOk u T) : CqOk (tDU u) T := by
  obtain ⟨hu, hs, hT⟩ := h
  have h6 := hu.1.2
  have hb6 := hu.2.2.2.2
  unfold tDU
  split
  · next hc =>
    obtain ⟨q, hq, eq⟩ := hs.2 0 hc.1
    rw [Nat.add_zero] at eq
    have eN : (u 440).toNatClampNeg = q := tN_of eq (by omega)
    have hq6 : (u 440).toNatClampNeg < 6 := by omega
    have o : ∀ y, (y < 11 ∨ 446 ≤ y) → y ≠ 450 → tDP u (uB u - 1) y = u y := fun y h1 h2 => by
      unfold tDP
      rw [if_neg h2, if_neg (by omega), if_neg (by omega)]
    have e1 : uT (tDP u (uB u - 1)) = uT u := by unfold uT; rw [o 447 (by omega) (by omega)]
    have e2 : uB (tDP u (uB u - 1)) = uB u - 1 := tN_of (tDP_c u _) (by omega)
    refine ⟨MdD_b (s := uB u - 1) hu (o _ (by omega) (by omega)) (o _ (by omega) (by omega)) (o _ (by omega) (by omega)) (tDP_c u _) (by omega), ⟨?_, fun k hk => ?_⟩, by rw [e1]; exact hT⟩
    · rw [e1, e2]
      have := fcnt_add (p := fun t => u (8 + 12 * t + 3) = nI 1) (q := fun k => tDP u (uB u - 1) (8 + 12 * k + 3) = nI 1) (t := q) (uT u) (fun k hk hne => by
        have : tDP u (uB u - 1) (8 + 12 * k + 3) = u (8 + 12 * k + 3) := by
          unfold tDP
          rw [if_neg (by omega), if_neg (by omega), if_neg (by omega)]
        rw [this])
      have h1 := hs.1
      have h2 := hc.1
      unfold slU at h1 ⊢
      omega
    · rw [e2] at hk
      have : tDP u (uB u - 1) (440 + k) = u (440 + (k + 1)) := by
        unfold tDP
        rw [if_neg (by omega), if_neg (by omega), if_pos (by omega)]
        rfl
      rw [this]
      exact hs.2 (k + 1) (by omega)
  · exact ⟨hu, hs, hT⟩
def TkOk (u : Nat → Int32) : Prop := MdD u ∧ SqOk u
theorem tk_A {u : Nat → Int32} (h : TkOk u) : CqOk (tKB u) (uT u) := by
  have h6 := h.1.1.2
  have h1 := tAP_D (t := uT u) (tK0_D h.1) h6
  have h2 := tAP_Sq (t := uT u) (tK0_D h.1) (tK0_Sq h.1 h.2) h6
  refine ⟨tBP_D h1 h6, tBP_Sq h1 h2 h6, ?_⟩
  unfold uT tKB tKA
  rw [tBP_o (by omega) _ h6, tAP_o (by omega) _ h6]
  unfold tK0
  rw [up_ne (by omega)]
theorem tkU_ok {u : Nat → Int32} (h : TkOk u) : CqOk (tkU u) (uT u) := tDU_ok (tCP_ok (tk_A h) _ (Nat.le_refl _))
theorem tkU_T {u : Nat → Int32} (h : TkOk u) : TkOk (tkU u) := ⟨(tkU_ok h).1, (tkU_ok h).2.1⟩
def e_M_tick : Ent := (fun av M => ∃ (o : Nat), av = [.ref o] ∧ (o = 174 ∧ BkS M ∧ TkOk (mI M 175)), fun av M r_ M_ => ∀ (o : Nat), av = [.ref o] → r_ = (none) ∧ M_ = (mW M (rwF (mI M) 175 (tkU (mI M 175)))))
theorem pc_M_tick {o : Nat} {M : Mem} {K : Option Value → Mem → Prop} (hp : o = 174 ∧ BkS M ∧ TkOk (mI M 175)) : pcall e_M_tick [.ref o] M K = K (none) (mW M (rwF (mI M) 175 (tkU (mI M 175)))) := propext ⟨fun h => h.2 _ _ (fun o' e => by simp only [List.cons.injEq, Value.ref.injEq, Value.int.injEq, Value.long.injEq, and_true] at e; have q0 := e; obtain rfl := q0; exact ⟨rfl, rfl⟩), fun h => ⟨⟨o, rfl, hp⟩, fun r_ M_ q => by obtain ⟨rfl, rfl⟩ := q _ rfl; exact h⟩⟩
theorem mk_M_tick {Z : Zt} {d : Nat} (h : ∀ (o : Nat) (M : Mem), (o = 174 ∧ BkS M ∧ TkOk (mI M 175)) → Gm Z d s_M_tick [.ref o] M (ex (none) (mW M (rwF (mI M) 175 (tkU (mI M 175)))))) : okE Z d i_M_tick e_M_tick := by
  rintro av M ⟨o, rfl, hp⟩
  exact Gm.cons (h o M  hp) (fun r_ M_ q o' e => by simp only [List.cons.injEq, Value.ref.injEq, Value.int.injEq, Value.long.injEq, and_true] at e; have q0 := e; obtain rfl := q0; exact q)
def C_M_tick : List (Nat × Ent) := [(i_M_of, e_M_of), (i_M_price, e_M_price), (i_M_adds, e_M_adds), (i_M_goesBankrupt, e_M_goesBankrupt)]
abbrev S_M_tick : List Nat := [14, 30, 97, 157, 289]
def t_M_tick_329 : List PI := (329, 9, 5, 0, 0, 0, []) :: []
def t_M_tick_301 : List PI := (301, 1, 1, 0, 0, 0, []) :: (302, 8, 1, 5, 0, 0, [7]) :: (305, 0, 0, 0, 2, 440, []) :: (308, 1, 0, 1, 0, 0, []) :: (309, 2, 0, 0, 0, 0, []) :: (310, 1, 1, 0, 0, 0, []) :: (311, 8, 1, 5, 0, 0, [7]) :: (314, 0, 0, 0, 2, 440, []) :: (317, 1, 0, 1, 0, 0, []) :: (318, 2, 0, 0, 0, 0, []) :: (319, 0, 0, 0, 0, 1, []) :: (320, 2, 0, 0, 0, 0, []) :: (321, 8, 4, 0, 0, 0, []) :: (322, 10, 4, 0, 0, 0, []) :: (323, 1, 6, 1, 0, 1, []) :: (326, 6, 0, 289, 0, 0, []) :: t_M_tick_329
def t_M_tick_289 : List PI := (289, 1, 0, 1, 0, 0, []) :: (290, 1, 1, 0, 0, 0, []) :: (291, 8, 1, 5, 0, 0, [7]) :: (294, 0, 0, 0, 2, 450, []) :: (297, 8, 4, 0, 0, 0, []) :: (298, 4, 3, 329, 0, 0, []) :: t_M_tick_301
def t_M_tick_287 : List PI := (287, 0, 0, 0, 0, 0, []) :: (288, 1, 3, 1, 0, 0, []) :: t_M_tick_289
def t_M_tick_253 : List PI := (253, 1, 1, 0, 0, 0, []) :: (254, 8, 1, 5, 0, 0, [7]) :: (257, 0, 0, 0, 1, 8, []) :: (259, 0, 0, 0, 1, 12, []) :: (261, 1, 1, 0, 0, 0, []) :: (262, 8, 1, 5, 0, 0, [7]) :: (265, 0, 0, 0, 2, 440, []) :: (268, 8, 4, 0, 0, 0, []) :: (269, 2, 2, 0, 0, 0, []) :: (270, 2, 0, 0, 0, 0, []) :: (271, 0, 0, 0, 0, 3, []) :: (272, 2, 0, 0, 0, 0, []) :: (273, 0, 0, 0, 0, 1, []) :: (274, 10, 4, 0, 0, 0, []) :: (275, 1, 1, 0, 0, 0, []) :: (276, 8, 1, 5, 0, 0, [7]) :: (279, 0, 0, 0, 2, 450, []) :: (282, 7, 1, 0, 0, 0, []) :: (283, 8, 4, 0, 0, 0, []) :: (284, 0, 0, 0, 0, 1, []) :: (285, 2, 1, 0, 0, 0, []) :: (286, 10, 4, 0, 0, 0, []) :: t_M_tick_287
def t_M_tick_241 : List PI := (241, 2, 1, 0, 0, 0, []) :: (242, 1, 1, 0, 0, 0, []) :: (243, 8, 1, 5, 0, 0, [7]) :: (246, 0, 0, 0, 2, 452, []) :: (249, 8, 4, 0, 0, 0, []) :: (250, 4, 2, 329, 0, 0, []) :: t_M_tick_253
def t_M_tick_220 : List PI := (220, 1, 1, 0, 0, 0, []) :: (221, 8, 1, 5, 0, 0, [7]) :: (224, 0, 0, 0, 2, 446, []) :: (227, 8, 4, 0, 0, 0, []) :: (228, 1, 1, 0, 0, 0, []) :: (229, 1, 1, 0, 0, 0, []) :: (230, 8, 1, 5, 0, 0, [7]) :: (233, 0, 0, 0, 2, 440, []) :: (236, 8, 4, 0, 0, 0, []) :: (237, 0, 0, 0, 0, 2, []) :: (238, 11, 0, 5, 105, 0, [84, 3]) :: t_M_tick_241
def t_M_tick_209 : List PI := (209, 1, 1, 0, 0, 0, []) :: (210, 8, 1, 5, 0, 0, [7]) :: (213, 0, 0, 0, 2, 450, []) :: (216, 8, 4, 0, 0, 0, []) :: (217, 5, 5, 329, 0, 0, []) :: t_M_tick_220
def t_M_tick_203 : List PI := (203, 1, 6, 1, 0, 1, []) :: (206, 6, 0, 157, 0, 0, []) :: t_M_tick_209
def t_M_tick_198 : List PI := (198, 1, 1, 0, 0, 0, []) :: (199, 1, 0, 1, 0, 0, []) :: (200, 11, 0, 5, 149, 0, [145, 2]) :: t_M_tick_203
def t_M_tick_194 : List PI := (194, 2, 2, 0, 0, 0, []) :: (195, 4, 5, 203, 0, 0, []) :: t_M_tick_198
def t_M_tick_185 : List PI := (185, 2, 5, 0, 0, 0, []) :: (186, 0, 0, 0, 1, 50, []) :: (188, 1, 1, 0, 0, 0, []) :: (189, 1, 0, 1, 0, 0, []) :: (190, 0, 0, 0, 0, 0, []) :: (191, 11, 0, 5, 105, 0, [84, 3]) :: t_M_tick_194
def t_M_tick_179 : List PI := (179, 1, 1, 0, 0, 0, []) :: (180, 1, 0, 1, 0, 0, []) :: (181, 0, 0, 0, 0, 1, []) :: (182, 11, 0, 5, 105, 0, [84, 3]) :: t_M_tick_185
def t_M_tick_175 : List PI := (175, 0, 0, 0, 0, 1, []) :: (176, 4, 1, 203, 0, 0, []) :: t_M_tick_179
def t_M_tick_169 : List PI := (169, 1, 1, 0, 0, 0, []) :: (170, 1, 0, 1, 0, 0, []) :: (171, 0, 0, 0, 0, 3, []) :: (172, 11, 0, 5, 105, 0, [84, 3]) :: t_M_tick_175
def t_M_tick_157 : List PI := (157, 1, 0, 1, 0, 0, []) :: (158, 1, 1, 0, 0, 0, []) :: (159, 8, 1, 5, 0, 0, [7]) :: (162, 0, 0, 0, 2, 447, []) :: (165, 8, 4, 0, 0, 0, []) :: (166, 4, 3, 209, 0, 0, []) :: t_M_tick_169
def t_M_tick_155 : List PI := (155, 0, 0, 0, 0, 0, []) :: (156, 1, 3, 1, 0, 0, []) :: t_M_tick_157
def t_M_tick_149 : List PI := (149, 1, 6, 1, 0, 1, []) :: (152, 6, 0, 97, 0, 0, []) :: t_M_tick_155
def t_M_tick_146 : List PI := (146, 11, 0, 5, 106, 0, [134, 4]) :: t_M_tick_149
def t_M_tick_145 : List PI := (145, 0, 0, 0, 0, 0, []) :: t_M_tick_146
def t_M_tick_134 : List PI := (134, 1, 0, 2, 0, 0, []) :: (135, 0, 0, 0, 1, 9, []) :: (137, 2, 0, 0, 0, 0, []) :: (138, 0, 0, 0, 1, 10, []) :: (140, 2, 3, 0, 0, 0, []) :: (141, 2, 5, 0, 0, 0, []) :: (142, 6, 0, 146, 0, 0, []) :: t_M_tick_145
def t_M_tick_130 : List PI := (130, 1, 0, 2, 0, 0, []) :: (131, 5, 5, 145, 0, 0, []) :: t_M_tick_134
def t_M_tick_126 : List PI := (126, 0, 0, 0, 0, 1, []) :: (127, 4, 1, 145, 0, 0, []) :: t_M_tick_130
def t_M_tick_115 : List PI := (115, 2, 5, 0, 0, 0, []) :: (116, 1, 3, 2, 0, 0, []) :: (117, 1, 1, 0, 0, 0, []) :: (118, 1, 0, 1, 0, 0, []) :: (119, 0, 0, 0, 0, 1, []) :: (120, 1, 1, 0, 0, 0, []) :: (121, 1, 0, 1, 0, 0, []) :: (122, 0, 0, 0, 0, 3, []) :: (123, 11, 0, 5, 105, 0, [84, 3]) :: t_M_tick_126
def t_M_tick_109 : List PI := (109, 1, 1, 0, 0, 0, []) :: (110, 1, 0, 1, 0, 0, []) :: (111, 0, 0, 0, 0, 1, []) :: (112, 11, 0, 5, 105, 0, [84, 3]) :: t_M_tick_115
def t_M_tick_97 : List PI := (97, 1, 0, 1, 0, 0, []) :: (98, 1, 1, 0, 0, 0, []) :: (99, 8, 1, 5, 0, 0, [7]) :: (102, 0, 0, 0, 2, 447, []) :: (105, 8, 4, 0, 0, 0, []) :: (106, 4, 3, 155, 0, 0, []) :: t_M_tick_109
def t_M_tick_95 : List PI := (95, 0, 0, 0, 0, 0, []) :: (96, 1, 3, 1, 0, 0, []) :: t_M_tick_97
def t_M_tick_89 : List PI := (89, 1, 6, 1, 0, 1, []) :: (92, 6, 0, 14, 0, 0, []) :: t_M_tick_95
def t_M_tick_86 : List PI := (86, 11, 0, 5, 106, 0, [134, 4]) :: t_M_tick_89
def t_M_tick_85 : List PI := (85, 0, 0, 0, 0, 0, []) :: t_M_tick_86
def t_M_tick_79 : List PI := (79, 2, 2, 0, 0, 0, []) :: (80, 1, 0, 2, 0, 0, []) :: (81, 2, 1, 0, 0, 0, []) :: (82, 6, 0, 86, 0, 0, []) :: t_M_tick_85
def t_M_tick_72 : List PI := (72, 0, 0, 0, 0, 5, []) :: (73, 1, 1, 0, 0, 0, []) :: (74, 1, 0, 1, 0, 0, []) :: (75, 0, 0, 0, 0, 0, []) :: (76, 11, 0, 5, 105, 0, [84, 3]) :: t_M_tick_79
def t_M_tick_68 : List PI := (68, 0, 0, 0, 0, 1, []) :: (69, 4, 1, 85, 0, 0, []) :: t_M_tick_72
def t_M_tick_59 : List PI := (59, 1, 1, 0, 0, 0, []) :: (60, 1, 0, 1, 0, 0, []) :: (61, 0, 0, 0, 0, 1, []) :: (62, 1, 1, 0, 0, 0, []) :: (63, 1, 0, 1, 0, 0, []) :: (64, 0, 0, 0, 0, 3, []) :: (65, 11, 0, 5, 105, 0, [84, 3]) :: t_M_tick_68
def t_M_tick_50 : List PI := (50, 2, 2, 0, 0, 0, []) :: (51, 2, 0, 0, 0, 0, []) :: (52, 1, 3, 2, 0, 0, []) :: (53, 1, 6, 3, 0, 1, []) :: (56, 6, 0, 30, 0, 0, []) :: t_M_tick_59
def t_M_tick_45 : List PI := (45, 1, 1, 0, 0, 0, []) :: (46, 1, 0, 3, 0, 0, []) :: (47, 11, 0, 5, 124, 0, [131, 2]) :: t_M_tick_50
def t_M_tick_35 : List PI := (35, 1, 0, 2, 0, 0, []) :: (36, 1, 1, 0, 0, 0, []) :: (37, 1, 0, 1, 0, 0, []) :: (38, 0, 0, 0, 1, 8, []) :: (40, 1, 0, 3, 0, 0, []) :: (41, 2, 0, 0, 0, 0, []) :: (42, 11, 0, 5, 105, 0, [84, 3]) :: t_M_tick_45
def t_M_tick_30 : List PI := (30, 1, 0, 3, 0, 0, []) :: (31, 0, 0, 0, 0, 4, []) :: (32, 4, 3, 59, 0, 0, []) :: t_M_tick_35
def t_M_tick_26 : List PI := (26, 0, 0, 0, 0, 0, []) :: (27, 1, 3, 2, 0, 0, []) :: (28, 0, 0, 0, 0, 0, []) :: (29, 1, 3, 3, 0, 0, []) :: t_M_tick_30
def t_M_tick_14 : List PI := (14, 1, 0, 1, 0, 0, []) :: (15, 1, 1, 0, 0, 0, []) :: (16, 8, 1, 5, 0, 0, [7]) :: (19, 0, 0, 0, 2, 447, []) :: (22, 8, 4, 0, 0, 0, []) :: (23, 4, 3, 95, 0, 0, []) :: t_M_tick_26
def t_M_tick_0 : List PI := (0, 1, 1, 0, 0, 0, []) :: (1, 8, 1, 5, 0, 0, [7]) :: (4, 0, 0, 0, 2, 446, []) :: (7, 7, 1, 0, 0, 0, []) :: (8, 8, 4, 0, 0, 0, []) :: (9, 0, 0, 0, 0, 1, []) :: (10, 2, 0, 0, 0, 0, []) :: (11, 10, 4, 0, 0, 0, []) :: (12, 0, 0, 0, 0, 0, []) :: (13, 1, 3, 1, 0, 0, []) :: t_M_tick_14
theorem kt_M_tick : okP s_M_tick t_M_tick_0 := k_M_tick
theorem g_M_tick_0 {Z : Zt} {nF f : Nat} {Kx : Nat → Kt} {Q : Option Value → Mem → Prop} {M : Mem} {x1 : Nat} : run Z nF C_M_tick S_M_tick Kx Q (f + 10) t_M_tick_0 [some (.ref (x1)), none, none, none] [] M = (isO (M) (x1) 5 ∧ isA (M) (mR (M) (x1) 0) ((nI 446)) ∧ isA (M) (mR (M) (x1) 0) ((nI 446)) ∧ Kx 14 [some (.ref (x1)), some (.int ((nI 0))), none, none] [] (stI (M) (mR (M) (x1) 0) (Int32.toNatClampNeg ((nI 446))) ((mI (M) (mR (M) (x1) 0) (Int32.toNatClampNeg ((nI 446)))) + ((nI 1))))) := rfl
theorem g_M_tick_14 {Z : Zt} {nF f : Nat} {Kx : Nat → Kt} {Q : Option Value → Mem → Prop} {M : Mem} {x1 : Nat} {x2 : Int32} {x3 : Option Value} {x4 : Option Value} : run Z nF C_M_tick S_M_tick Kx Q (f + 6) t_M_tick_14 [some (.ref (x1)), some (.int (x2)), x3, x4] [] M = (isO (M) (x1) 5 ∧ isA (M) (mR (M) (x1) 0) ((nI 447)) ∧ (if (mI (M) (mR (M) (x1) 0) (Int32.toNatClampNeg ((nI 447)))) ≤ (x2) then run Z nF C_M_tick S_M_tick Kx Q f t_M_tick_95 [some (.ref (x1)), some (.int (x2)), x3, x4] [] (M) else run Z nF C_M_tick S_M_tick Kx Q f t_M_tick_26 [some (.ref (x1)), some (.int (x2)), x3, x4] [] (M))) := rfl
theorem g_M_tick_26 {Z : Zt} {nF f : Nat} {Kx : Nat → Kt} {Q : Option Value → Mem → Prop} {M : Mem} {x1 : Nat} {x2 : Int32} {x3 : Option Value} {x4 : Option Value} : run Z nF C_M_tick S_M_tick Kx Q (f + 4) t_M_tick_26 [some (.ref (x1)), some (.int (x2)), x3, x4] [] M = (Kx 30 [some (.ref (x1)), some (.int (x2)), some (.int ((nI 0))), some (.int ((nI 0)))] [] (M)) := rfl
theorem g_M_tick_30 {Z : Zt} {nF f : Nat} {Kx : Nat → Kt} {Q : Option Value → Mem → Prop} {M : Mem} {x1 : Nat} {x2 : Int32} {x3 : Int32} {x4 : Int32} : run Z nF C_M_tick S_M_tick Kx Q (f + 3) t_M_tick_30 [some (.ref (x1)), some (.int (x2)), some (.int (x3)), some (.int (x4))] [] M = ((if ((nI 4)) ≤ (x4) then run Z nF C_M_tick S_M_tick Kx Q f t_M_tick_59 [some (.ref (x1)), some (.int (x2)), some (.int (x3)), some (.int (x4))] [] (M) else run Z nF C_M_tick S_M_tick Kx Q f t_M_tick_35 [some (.ref (x1)), some (.int (x2)), some (.int (x3)), some (.int (x4))] [] (M))) := rfl
theorem g_M_tick_35 {Z : Zt} {nF f : Nat} {Kx : Nat → Kt} {Q : Option Value → Mem → Prop} {M : Mem} {x1 : Nat} {x2 : Int32} {x3 : Int32} {x4 : Int32} : run Z nF C_M_tick S_M_tick Kx Q (f + 7) t_M_tick_35 [some (.ref (x1)), some (.int (x2)), some (.int (x3)), some (.int (x4))] [] M = (((isO (M) (x1) 5) ∧ wsum [.int (x3)] ≤ 8) ∧ pcall e_M_of [.ref (x1), .int (x2), .int (((nI 8)) + (x4))] (M) (fun v M_ => run Z nF C_M_tick S_M_tick Kx Q f t_M_tick_45 [some (.ref (x1)), some (.int (x2)), some (.int (x3)), some (.int (x4))] (v.toList ++ [.int (x3)]) M_)) := rfl
theorem g_M_tick_45 {Z : Zt} {nF f : Nat} {Kx : Nat → Kt} {Q : Option Value → Mem → Prop} {M : Mem} {x1 : Nat} {x2 : Int32} {x3 : Int32} {x4 : Int32} {x5 : Int32} {x6 : Int32} : run Z nF C_M_tick S_M_tick Kx Q (f + 3) t_M_tick_45 [some (.ref (x1)), some (.int (x2)), some (.int (x3)), some (.int (x4))] [.int (x5), .int (x6)] M = (((isO (M) (x1) 5) ∧ wsum [.int (x5), .int (x6)] ≤ 8) ∧ pcall e_M_price [.ref (x1), .int (x4)] (M) (fun v M_ => run Z nF C_M_tick S_M_tick Kx Q f t_M_tick_50 [some (.ref (x1)), some (.int (x2)), some (.int (x3)), some (.int (x4))] (v.toList ++ [.int (x5), .int (x6)]) M_)) := rfl
theorem g_M_tick_50 {Z : Zt} {nF f : Nat} {Kx : Nat → Kt} {Q : Option Value → Mem → Prop} {M : Mem} {x1 : Nat} {x2 : Int32} {x3 : Int32} {x4 : Int32} {x5 : Int32} {x6 : Int32} {x7 : Int32} : run Z nF C_M_tick S_M_tick Kx Q (f + 5) t_M_tick_50 [some (.ref (x1)), some (.int (x2)), some (.int (x3)), some (.int (x4))] [.int (x5), .int (x6), .int (x7)] M = (Kx 30 [some (.ref (x1)), some (.int (x2)), some (.int ((x7) + ((x6) * (x5)))), some (.int (x4 + (nI 1)))] [] (M)) := rfl
theorem g_M_tick_59 {Z : Zt} {nF f : Nat} {Kx : Nat → Kt} {Q : Option Value → Mem → Prop} {M : Mem} {x1 : Nat} {x2 : Int32} {x3 : Int32} {x4 : Int32} : run Z nF C_M_tick S_M_tick Kx Q (f + 7) t_M_tick_59 [some (.ref (x1)), some (.int (x2)), some (.int (x3)), some (.int (x4))] [] M = (((isO (M) (x1) 5) ∧ wsum [.int ((nI 1)), .int (x2), .ref (x1)] ≤ 8) ∧ pcall e_M_of [.ref (x1), .int (x2), .int ((nI 3))] (M) (fun v M_ => run Z nF C_M_tick S_M_tick Kx Q f t_M_tick_68 [some (.ref (x1)), some (.int (x2)), some (.int (x3)), some (.int (x4))] (v.toList ++ [.int ((nI 1)), .int (x2), .ref (x1)]) M_)) := rfl
theorem g_M_tick_68 {Z : Zt} {nF f : Nat} {Kx : Nat → Kt} {Q : Option Value → Mem → Prop} {M : Mem} {x1 : Nat} {x2 : Int32} {x3 : Int32} {x4 : Int32} {x5 : Int32} {x6 : Int32} {x7 : Int32} {x8 : Nat} : run Z nF C_M_tick S_M_tick Kx Q (f + 2) t_M_tick_68 [some (.ref (x1)), some (.int (x2)), some (.int (x3)), some (.int (x4))] [.int (x5), .int (x6), .int (x7), .ref (x8)] M = ((if (x5) = ((nI 1)) then run Z nF C_M_tick S_M_tick Kx Q f t_M_tick_72 [some (.ref (x1)), some (.int (x2)), some (.int (x3)), some (.int (x4))] [.int (x6), .int (x7), .ref (x8)] (M) else run Z nF C_M_tick S_M_tick Kx Q f t_M_tick_85 [some (.ref (x1)), some (.int (x2)), some (.int (x3)), some (.int (x4))] [.int (x6), .int (x7), .ref (x8)] (M))) := rfl
theorem g_M_tick_72 {Z : Zt} {nF f : Nat} {Kx : Nat → Kt} {Q : Option Value → Mem → Prop} {M : Mem} {x1 : Nat} {x2 : Int32} {x3 : Int32} {x4 : Int32} {x5 : Int32} {x6 : Int32} {x7 : Nat} : run Z nF C_M_tick S_M_tick Kx Q (f + 5) t_M_tick_72 [some (.ref (x1)), some (.int (x2)), some (.int (x3)), some (.int (x4))] [.int (x5), .int (x6), .ref (x7)] M = (((isO (M) (x1) 5) ∧ wsum [.int ((nI 5)), .int (x5), .int (x6), .ref (x7)] ≤ 8) ∧ pcall e_M_of [.ref (x1), .int (x2), .int ((nI 0))] (M) (fun v M_ => run Z nF C_M_tick S_M_tick Kx Q f t_M_tick_79 [some (.ref (x1)), some (.int (x2)), some (.int (x3)), some (.int (x4))] (v.toList ++ [.int ((nI 5)), .int (x5), .int (x6), .ref (x7)]) M_)) := rfl
theorem g_M_tick_79 {Z : Zt} {nF f : Nat} {Kx : Nat → Kt} {Q : Option Value → Mem → Prop} {M : Mem} {x1 : Nat} {x2 : Int32} {x3 : Int32} {x4 : Int32} {x5 : Int32} {x6 : Int32} {x7 : Int32} {x8 : Int32} {x9 : Nat} : run Z nF C_M_tick S_M_tick Kx Q (f + 4) t_M_tick_79 [some (.ref (x1)), some (.int (x2)), some (.int (x3)), some (.int (x4))] [.int (x5), .int (x6), .int (x7), .int (x8), .ref (x9)] M = (run Z nF C_M_tick S_M_tick Kx Q f t_M_tick_86 [some (.ref (x1)), some (.int (x2)), some (.int (x3)), some (.int (x4))] [.int (((x6) * (x5)) - (x3)), .int (x7), .int (x8), .ref (x9)] (M)) := rfl
theorem g_M_tick_85 {Z : Zt} {nF f : Nat} {Kx : Nat → Kt} {Q : Option Value → Mem → Prop} {M : Mem} {x1 : Nat} {x2 : Int32} {x3 : Int32} {x4 : Int32} {x5 : Int32} {x6 : Int32} {x7 : Nat} : run Z nF C_M_tick S_M_tick Kx Q (f + 1) t_M_tick_85 [some (.ref (x1)), some (.int (x2)), some (.int (x3)), some (.int (x4))] [.int (x5), .int (x6), .ref (x7)] M = (run Z nF C_M_tick S_M_tick Kx Q f t_M_tick_86 [some (.ref (x1)), some (.int (x2)), some (.int (x3)), some (.int (x4))] [.int ((nI 0)), .int (x5), .int (x6), .ref (x7)] (M)) := rfl
theorem g_M_tick_86 {Z : Zt} {nF f : Nat} {Kx : Nat → Kt} {Q : Option Value → Mem → Prop} {M : Mem} {x1 : Nat} {x2 : Int32} {x3 : Int32} {x4 : Int32} {x5 : Int32} {x6 : Int32} {x7 : Int32} {x8 : Nat} : run Z nF C_M_tick S_M_tick Kx Q (f + 1) t_M_tick_86 [some (.ref (x1)), some (.int (x2)), some (.int (x3)), some (.int (x4))] [.int (x5), .int (x6), .int (x7), .ref (x8)] M = (((isO (M) (x8) 5) ∧ wsum [] ≤ 8) ∧ pcall e_M_adds [.ref (x8), .int (x7), .int (x6), .int (x5)] (M) (fun v M_ => run Z nF C_M_tick S_M_tick Kx Q f t_M_tick_89 [some (.ref (x1)), some (.int (x2)), some (.int (x3)), some (.int (x4))] (v.toList ++ []) M_)) := rfl
theorem g_M_tick_89 {Z : Zt} {nF f : Nat} {Kx : Nat → Kt} {Q : Option Value → Mem → Prop} {M : Mem} {x1 : Nat} {x2 : Int32} {x3 : Int32} {x4 : Int32} : run Z nF C_M_tick S_M_tick Kx Q (f + 2) t_M_tick_89 [some (.ref (x1)), some (.int (x2)), some (.int (x3)), some (.int (x4))] [] M = (Kx 14 [some (.ref (x1)), some (.int (x2 + (nI 1))), some (.int (x3)), some (.int (x4))] [] (M)) := rfl
theorem g_M_tick_95 {Z : Zt} {nF f : Nat} {Kx : Nat → Kt} {Q : Option Value → Mem → Prop} {M : Mem} {x1 : Nat} {x2 : Int32} {x3 : Option Value} {x4 : Option Value} : run Z nF C_M_tick S_M_tick Kx Q (f + 2) t_M_tick_95 [some (.ref (x1)), some (.int (x2)), x3, x4] [] M = (Kx 97 [some (.ref (x1)), some (.int ((nI 0))), x3, x4] [] (M)) := rfl
theorem g_M_tick_97 {Z : Zt} {nF f : Nat} {Kx : Nat → Kt} {Q : Option Value → Mem → Prop} {M : Mem} {x1 : Nat} {x2 : Int32} {x3 : Option Value} {x4 : Option Value} : run Z nF C_M_tick S_M_tick Kx Q (f + 6) t_M_tick_97 [some (.ref (x1)), some (.int (x2)), x3, x4] [] M = (isO (M) (x1) 5 ∧ isA (M) (mR (M) (x1) 0) ((nI 447)) ∧ (if (mI (M) (mR (M) (x1) 0) (Int32.toNatClampNeg ((nI 447)))) ≤ (x2) then run Z nF C_M_tick S_M_tick Kx Q f t_M_tick_155 [some (.ref (x1)), some (.int (x2)), x3, x4] [] (M) else run Z nF C_M_tick S_M_tick Kx Q f t_M_tick_109 [some (.ref (x1)), some (.int (x2)), x3, x4] [] (M))) := rfl
theorem g_M_tick_109 {Z : Zt} {nF f : Nat} {Kx : Nat → Kt} {Q : Option Value → Mem → Prop} {M : Mem} {x1 : Nat} {x2 : Int32} {x3 : Option Value} {x4 : Option Value} : run Z nF C_M_tick S_M_tick Kx Q (f + 4) t_M_tick_109 [some (.ref (x1)), some (.int (x2)), x3, x4] [] M = (((isO (M) (x1) 5) ∧ wsum [] ≤ 8) ∧ pcall e_M_of [.ref (x1), .int (x2), .int ((nI 1))] (M) (fun v M_ => run Z nF C_M_tick S_M_tick Kx Q f t_M_tick_115 [some (.ref (x1)), some (.int (x2)), x3, x4] (v.toList ++ []) M_)) := rfl
theorem g_M_tick_115 {Z : Zt} {nF f : Nat} {Kx : Nat → Kt} {Q : Option Value → Mem → Prop} {M : Mem} {x1 : Nat} {x2 : Int32} {x3 : Option Value} {x4 : Option Value} {x5 : Int32} : run Z nF C_M_tick S_M_tick Kx Q (f + 9) t_M_tick_115 [some (.ref (x1)), some (.int (x2)), x3, x4] [.int (x5)] M = (((isO (M) (x1) 5) ∧ wsum [.int ((nI 1)), .int (x2), .ref (x1)] ≤ 8) ∧ pcall e_M_of [.ref (x1), .int (x2), .int ((nI 3))] (M) (fun v M_ => run Z nF C_M_tick S_M_tick Kx Q f t_M_tick_126 [some (.ref (x1)), some (.int (x2)), some (.int (-(x5))), x4] (v.toList ++ [.int ((nI 1)), .int (x2), .ref (x1)]) M_)) := rfl
theorem g_M_tick_126 {Z : Zt} {nF f : Nat} {Kx : Nat → Kt} {Q : Option Value → Mem → Prop} {M : Mem} {x1 : Nat} {x2 : Int32} {x3 : Int32} {x4 : Option Value} {x5 : Int32} {x6 : Int32} {x7 : Int32} {x8 : Nat} : run Z nF C_M_tick S_M_tick Kx Q (f + 2) t_M_tick_126 [some (.ref (x1)), some (.int (x2)), some (.int (x3)), x4] [.int (x5), .int (x6), .int (x7), .ref (x8)] M = ((if (x5) = ((nI 1)) then run Z nF C_M_tick S_M_tick Kx Q f t_M_tick_130 [some (.ref (x1)), some (.int (x2)), some (.int (x3)), x4] [.int (x6), .int (x7), .ref (x8)] (M) else run Z nF C_M_tick S_M_tick Kx Q f t_M_tick_145 [some (.ref (x1)), some (.int (x2)), some (.int (x3)), x4] [.int (x6), .int (x7), .ref (x8)] (M))) := rfl
theorem g_M_tick_130 {Z : Zt} {nF f : Nat} {Kx : Nat → Kt} {Q : Option Value → Mem → Prop} {M : Mem} {x1 : Nat} {x2 : Int32} {x3 : Int32} {x4 : Option Value} {x5 : Int32} {x6 : Int32} {x7 : Nat} : run Z nF C_M_tick S_M_tick Kx Q (f + 2) t_M_tick_130 [some (.ref (x1)), some (.int (x2)), some (.int (x3)), x4] [.int (x5), .int (x6), .ref (x7)] M = ((if (x3) ≤ nI 0 then run Z nF C_M_tick S_M_tick Kx Q f t_M_tick_145 [some (.ref (x1)), some (.int (x2)), some (.int (x3)), x4] [.int (x5), .int (x6), .ref (x7)] (M) else run Z nF C_M_tick S_M_tick Kx Q f t_M_tick_134 [some (.ref (x1)), some (.int (x2)), some (.int (x3)), x4] [.int (x5), .int (x6), .ref (x7)] (M))) := rfl
theorem g_M_tick_134 {Z : Zt} {nF f : Nat} {Kx : Nat → Kt} {Q : Option Value → Mem → Prop} {M : Mem} {x1 : Nat} {x2 : Int32} {x3 : Int32} {x4 : Option Value} {x5 : Int32} {x6 : Int32} {x7 : Nat} : run Z nF C_M_tick S_M_tick Kx Q (f + 7) t_M_tick_134 [some (.ref (x1)), some (.int (x2)), some (.int (x3)), x4] [.int (x5), .int (x6), .ref (x7)] M = (¬ ((nI 10)) = nI 0 ∧ run Z nF C_M_tick S_M_tick Kx Q f t_M_tick_146 [some (.ref (x1)), some (.int (x2)), some (.int (x3)), x4] [.int (-(((x3) + ((nI 9))) / ((nI 10)))), .int (x5), .int (x6), .ref (x7)] (M)) := rfl
theorem g_M_tick_145 {Z : Zt} {nF f : Nat} {Kx : Nat → Kt} {Q : Option Value → Mem → Prop} {M : Mem} {x1 : Nat} {x2 : Int32} {x3 : Int32} {x4 : Option Value} {x5 : Int32} {x6 : Int32} {x7 : Nat} : run Z nF C_M_tick S_M_tick Kx Q (f + 1) t_M_tick_145 [some (.ref (x1)), some (.int (x2)), some (.int (x3)), x4] [.int (x5), .int (x6), .ref (x7)] M = (run Z nF C_M_tick S_M_tick Kx Q f t_M_tick_146 [some (.ref (x1)), some (.int (x2)), some (.int (x3)), x4] [.int ((nI 0)), .int (x5), .int (x6), .ref (x7)] (M)) := rfl
theorem g_M_tick_146 {Z : Zt} {nF f : Nat} {Kx : Nat → Kt} {Q : Option Value → Mem → Prop} {M : Mem} {x1 : Nat} {x2 : Int32} {x3 : Int32} {x4 : Option Value} {x5 : Int32} {x6 : Int32} {x7 : Int32} {x8 : Nat} : run Z nF C_M_tick S_M_tick Kx Q (f + 1) t_M_tick_146 [some (.ref (x1)), some (.int (x2)), some (.int (x3)), x4] [.int (x5), .int (x6), .int (x7), .ref (x8)] M = (((isO (M) (x8) 5) ∧ wsum [] ≤ 8) ∧ pcall e_M_adds [.ref (x8), .int (x7), .int (x6), .int (x5)] (M) (fun v M_ => run Z nF C_M_tick S_M_tick Kx Q f t_M_tick_149 [some (.ref (x1)), some (.int (x2)), some (.int (x3)), x4] (v.toList ++ []) M_)) := rfl
theorem g_M_tick_149 {Z : Zt} {nF f : Nat} {Kx : Nat → Kt} {Q : Option Value → Mem → Prop} {M : Mem} {x1 : Nat} {x2 : Int32} {x3 : Int32} {x4 : Option Value} : run Z nF C_M_tick S_M_tick Kx Q (f + 2) t_M_tick_149 [some (.ref (x1)), some (.int (x2)), some (.int (x3)), x4] [] M = (Kx 97 [some (.ref (x1)), some (.int (x2 + (nI 1))), some (.int (x3)), x4] [] (M)) := rfl
theorem g_M_tick_155 {Z : Zt} {nF f : Nat} {Kx : Nat → Kt} {Q : Option Value → Mem → Prop} {M : Mem} {x1 : Nat} {x2 : Int32} {x3 : Option Value} {x4 : Option Value} : run Z nF C_M_tick S_M_tick Kx Q (f + 2) t_M_tick_155 [some (.ref (x1)), some (.int (x2)), x3, x4] [] M = (Kx 157 [some (.ref (x1)), some (.int ((nI 0))), x3, x4] [] (M)) := rfl
theorem g_M_tick_157 {Z : Zt} {nF f : Nat} {Kx : Nat → Kt} {Q : Option Value → Mem → Prop} {M : Mem} {x1 : Nat} {x2 : Int32} {x3 : Option Value} {x4 : Option Value} : run Z nF C_M_tick S_M_tick Kx Q (f + 6) t_M_tick_157 [some (.ref (x1)), some (.int (x2)), x3, x4] [] M = (isO (M) (x1) 5 ∧ isA (M) (mR (M) (x1) 0) ((nI 447)) ∧ (if (mI (M) (mR (M) (x1) 0) (Int32.toNatClampNeg ((nI 447)))) ≤ (x2) then run Z nF C_M_tick S_M_tick Kx Q f t_M_tick_209 [some (.ref (x1)), some (.int (x2)), x3, x4] [] (M) else run Z nF C_M_tick S_M_tick Kx Q f t_M_tick_169 [some (.ref (x1)), some (.int (x2)), x3, x4] [] (M))) := rfl
theorem g_M_tick_169 {Z : Zt} {nF f : Nat} {Kx : Nat → Kt} {Q : Option Value → Mem → Prop} {M : Mem} {x1 : Nat} {x2 : Int32} {x3 : Option Value} {x4 : Option Value} : run Z nF C_M_tick S_M_tick Kx Q (f + 4) t_M_tick_169 [some (.ref (x1)), some (.int (x2)), x3, x4] [] M = (((isO (M) (x1) 5) ∧ wsum [] ≤ 8) ∧ pcall e_M_of [.ref (x1), .int (x2), .int ((nI 3))] (M) (fun v M_ => run Z nF C_M_tick S_M_tick Kx Q f t_M_tick_175 [some (.ref (x1)), some (.int (x2)), x3, x4] (v.toList ++ []) M_)) := rfl
theorem g_M_tick_175 {Z : Zt} {nF f : Nat} {Kx : Nat → Kt} {Q : Option Value → Mem → Prop} {M : Mem} {x1 : Nat} {x2 : Int32} {x3 : Option Value} {x4 : Option Value} {x5 : Int32} : run Z nF C_M_tick S_M_tick Kx Q (f + 2) t_M_tick_175 [some (.ref (x1)), some (.int (x2)), x3, x4] [.int (x5)] M = ((if (x5) = ((nI 1)) then run Z nF C_M_tick S_M_tick Kx Q f t_M_tick_179 [some (.ref (x1)), some (.int (x2)), x3, x4] [] (M) else run Z nF C_M_tick S_M_tick Kx Q f t_M_tick_203 [some (.ref (x1)), some (.int (x2)), x3, x4] [] (M))) := rfl
theorem g_M_tick_179 {Z : Zt} {nF f : Nat} {Kx : Nat → Kt} {Q : Option Value → Mem → Prop} {M : Mem} {x1 : Nat} {x2 : Int32} {x3 : Option Value} {x4 : Option Value} : run Z nF C_M_tick S_M_tick Kx Q (f + 4) t_M_tick_179 [some (.ref (x1)), some (.int (x2)), x3, x4] [] M = (((isO (M) (x1) 5) ∧ wsum [] ≤ 8) ∧ pcall e_M_of [.ref (x1), .int (x2), .int ((nI 1))] (M) (fun v M_ => run Z nF C_M_tick S_M_tick Kx Q f t_M_tick_185 [some (.ref (x1)), some (.int (x2)), x3, x4] (v.toList ++ []) M_)) := rfl
theorem g_M_tick_185 {Z : Zt} {nF f : Nat} {Kx : Nat → Kt} {Q : Option Value → Mem → Prop} {M : Mem} {x1 : Nat} {x2 : Int32} {x3 : Option Value} {x4 : Option Value} {x5 : Int32} : run Z nF C_M_tick S_M_tick Kx Q (f + 6) t_M_tick_185 [some (.ref (x1)), some (.int (x2)), x3, x4] [.int (x5)] M = (((isO (M) (x1) 5) ∧ wsum [.int ((nI 50)), .int (-(x5))] ≤ 8) ∧ pcall e_M_of [.ref (x1), .int (x2), .int ((nI 0))] (M) (fun v M_ => run Z nF C_M_tick S_M_tick Kx Q f t_M_tick_194 [some (.ref (x1)), some (.int (x2)), x3, x4] (v.toList ++ [.int ((nI 50)), .int (-(x5))]) M_)) := rfl
theorem g_M_tick_194 {Z : Zt} {nF f : Nat} {Kx : Nat → Kt} {Q : Option Value → Mem → Prop} {M : Mem} {x1 : Nat} {x2 : Int32} {x3 : Option Value} {x4 : Option Value} {x5 : Int32} {x6 : Int32} {x7 : Int32} : run Z nF C_M_tick S_M_tick Kx Q (f + 2) t_M_tick_194 [some (.ref (x1)), some (.int (x2)), x3, x4] [.int (x5), .int (x6), .int (x7)] M = ((if (x7) ≤ ((x6) * (x5)) then run Z nF C_M_tick S_M_tick Kx Q f t_M_tick_203 [some (.ref (x1)), some (.int (x2)), x3, x4] [] (M) else run Z nF C_M_tick S_M_tick Kx Q f t_M_tick_198 [some (.ref (x1)), some (.int (x2)), x3, x4] [] (M))) := rfl
theorem g_M_tick_198 {Z : Zt} {nF f : Nat} {Kx : Nat → Kt} {Q : Option Value → Mem → Prop} {M : Mem} {x1 : Nat} {x2 : Int32} {x3 : Option Value} {x4 : Option Value} : run Z nF C_M_tick S_M_tick Kx Q (f + 3) t_M_tick_198 [some (.ref (x1)), some (.int (x2)), x3, x4] [] M = (((isO (M) (x1) 5) ∧ wsum [] ≤ 8) ∧ pcall e_M_goesBankrupt [.ref (x1), .int (x2)] (M) (fun v M_ => run Z nF C_M_tick S_M_tick Kx Q f t_M_tick_203 [some (.ref (x1)), some (.int (x2)), x3, x4] (v.toList ++ []) M_)) := rfl
theorem g_M_tick_203 {Z : Zt} {nF f : Nat} {Kx : Nat → Kt} {Q : Option Value → Mem → Prop} {M : Mem} {x1 : Nat} {x2 : Int32} {x3 : Option Value} {x4 : Option Value} : run Z nF C_M_tick S_M_tick Kx Q (f + 2) t_M_tick_203 [some (.ref (x1)), some (.int (x2)), x3, x4] [] M = (Kx 157 [some (.ref (x1)), some (.int (x2 + (nI 1))), x3, x4] [] (M)) := rfl
theorem g_M_tick_209 {Z : Zt} {nF f : Nat} {Kx : Nat → Kt} {Q : Option Value → Mem → Prop} {M : Mem} {x1 : Nat} {x2 : Int32} {x3 : Option Value} {x4 : Option Value} : run Z nF C_M_tick S_M_tick Kx Q (f + 5) t_M_tick_209 [some (.ref (x1)), some (.int (x2)), x3, x4] [] M = (isO (M) (x1) 5 ∧ isA (M) (mR (M) (x1) 0) ((nI 450)) ∧ (if (mI (M) (mR (M) (x1) 0) (Int32.toNatClampNeg ((nI 450)))) ≤ nI 0 then run Z nF C_M_tick S_M_tick Kx Q f t_M_tick_329 [some (.ref (x1)), some (.int (x2)), x3, x4] [] (M) else run Z nF C_M_tick S_M_tick Kx Q f t_M_tick_220 [some (.ref (x1)), some (.int (x2)), x3, x4] [] (M))) := rfl
theorem g_M_tick_220 {Z : Zt} {nF f : Nat} {Kx : Nat → Kt} {Q : Option Value → Mem → Prop} {M : Mem} {x1 : Nat} {x2 : Int32} {x3 : Option Value} {x4 : Option Value} : run Z nF C_M_tick S_M_tick Kx Q (f + 11) t_M_tick_220 [some (.ref (x1)), some (.int (x2)), x3, x4] [] M = (isO (M) (x1) 5 ∧ isA (M) (mR (M) (x1) 0) ((nI 446)) ∧ isO (M) (x1) 5 ∧ isA (M) (mR (M) (x1) 0) ((nI 440)) ∧ ((isO (M) (x1) 5) ∧ wsum [.int (mI (M) (mR (M) (x1) 0) (Int32.toNatClampNeg ((nI 446))))] ≤ 8) ∧ pcall e_M_of [.ref (x1), .int (mI (M) (mR (M) (x1) 0) (Int32.toNatClampNeg ((nI 440)))), .int ((nI 2))] (M) (fun v M_ => run Z nF C_M_tick S_M_tick Kx Q f t_M_tick_241 [some (.ref (x1)), some (.int (x2)), x3, x4] (v.toList ++ [.int (mI (M) (mR (M) (x1) 0) (Int32.toNatClampNeg ((nI 446))))]) M_)) := rfl
theorem g_M_tick_241 {Z : Zt} {nF f : Nat} {Kx : Nat → Kt} {Q : Option Value → Mem → Prop} {M : Mem} {x1 : Nat} {x2 : Int32} {x3 : Option Value} {x4 : Option Value} {x5 : Int32} {x6 : Int32} : run Z nF C_M_tick S_M_tick Kx Q (f + 6) t_M_tick_241 [some (.ref (x1)), some (.int (x2)), x3, x4] [.int (x5), .int (x6)] M = (isO (M) (x1) 5 ∧ isA (M) (mR (M) (x1) 0) ((nI 452)) ∧ (if ((x6) - (x5)) < (mI (M) (mR (M) (x1) 0) (Int32.toNatClampNeg ((nI 452)))) then run Z nF C_M_tick S_M_tick Kx Q f t_M_tick_329 [some (.ref (x1)), some (.int (x2)), x3, x4] [] (M) else run Z nF C_M_tick S_M_tick Kx Q f t_M_tick_253 [some (.ref (x1)), some (.int (x2)), x3, x4] [] (M))) := rfl
theorem g_M_tick_253 {Z : Zt} {nF f : Nat} {Kx : Nat → Kt} {Q : Option Value → Mem → Prop} {M : Mem} {x1 : Nat} {x2 : Int32} {x3 : Option Value} {x4 : Option Value} : run Z nF C_M_tick S_M_tick Kx Q (f + 22) t_M_tick_253 [some (.ref (x1)), some (.int (x2)), x3, x4] [] M = (isO (M) (x1) 5 ∧ isO (M) (x1) 5 ∧ isA (M) (mR (M) (x1) 0) ((nI 440)) ∧ isA (M) (mR (M) (x1) 0) ((((nI 8)) + (((nI 12)) * (mI (M) (mR (M) (x1) 0) (Int32.toNatClampNeg ((nI 440)))))) + ((nI 3))) ∧ isO (stI (M) (mR (M) (x1) 0) (Int32.toNatClampNeg ((((nI 8)) + (((nI 12)) * (mI (M) (mR (M) (x1) 0) (Int32.toNatClampNeg ((nI 440)))))) + ((nI 3)))) ((nI 1))) (x1) 5 ∧ isA (stI (M) (mR (M) (x1) 0) (Int32.toNatClampNeg ((((nI 8)) + (((nI 12)) * (mI (M) (mR (M) (x1) 0) (Int32.toNatClampNeg ((nI 440)))))) + ((nI 3)))) ((nI 1))) (mR (stI (M) (mR (M) (x1) 0) (Int32.toNatClampNeg ((((nI 8)) + (((nI 12)) * (mI (M) (mR (M) (x1) 0) (Int32.toNatClampNeg ((nI 440)))))) + ((nI 3)))) ((nI 1))) (x1) 0) ((nI 450)) ∧ isA (stI (M) (mR (M) (x1) 0) (Int32.toNatClampNeg ((((nI 8)) + (((nI 12)) * (mI (M) (mR (M) (x1) 0) (Int32.toNatClampNeg ((nI 440)))))) + ((nI 3)))) ((nI 1))) (mR (stI (M) (mR (M) (x1) 0) (Int32.toNatClampNeg ((((nI 8)) + (((nI 12)) * (mI (M) (mR (M) (x1) 0) (Int32.toNatClampNeg ((nI 440)))))) + ((nI 3)))) ((nI 1))) (x1) 0) ((nI 450)) ∧ run Z nF C_M_tick S_M_tick Kx Q f t_M_tick_287 [some (.ref (x1)), some (.int (x2)), x3, x4] [] (stI (stI (M) (mR (M) (x1) 0) (Int32.toNatClampNeg ((((nI 8)) + (((nI 12)) * (mI (M) (mR (M) (x1) 0) (Int32.toNatClampNeg ((nI 440)))))) + ((nI 3)))) ((nI 1))) (mR (stI (M) (mR (M) (x1) 0) (Int32.toNatClampNeg ((((nI 8)) + (((nI 12)) * (mI (M) (mR (M) (x1) 0) (Int32.toNatClampNeg ((nI 440)))))) + ((nI 3)))) ((nI 1))) (x1) 0) (Int32.toNatClampNeg ((nI 450))) ((mI (stI (M) (mR (M) (x1) 0) (Int32.toNatClampNeg ((((nI 8)) + (((nI 12)) * (mI (M) (mR (M) (x1) 0) (Int32.toNatClampNeg ((nI 440)))))) + ((nI 3)))) ((nI 1))) (mR (stI (M) (mR (M) (x1) 0) (Int32.toNatClampNeg ((((nI 8)) + (((nI 12)) * (mI (M) (mR (M) (x1) 0) (Int32.toNatClampNeg ((nI 440)))))) + ((nI 3)))) ((nI 1))) (x1) 0) (Int32.toNatClampNeg ((nI 450)))) - ((nI 1))))) := rfl
theorem g_M_tick_287 {Z : Zt} {nF f : Nat} {Kx : Nat → Kt} {Q : Option Value → Mem → Prop} {M : Mem} {x1 : Nat} {x2 : Int32} {x3 : Option Value} {x4 : Option Value} : run Z nF C_M_tick S_M_tick Kx Q (f + 2) t_M_tick_287 [some (.ref (x1)), some (.int (x2)), x3, x4] [] M = (Kx 289 [some (.ref (x1)), some (.int ((nI 0))), x3, x4] [] (M)) := rfl
theorem g_M_tick_289 {Z : Zt} {nF f : Nat} {Kx : Nat → Kt} {Q : Option Value → Mem → Prop} {M : Mem} {x1 : Nat} {x2 : Int32} {x3 : Option Value} {x4 : Option Value} : run Z nF C_M_tick S_M_tick Kx Q (f + 6) t_M_tick_289 [some (.ref (x1)), some (.int (x2)), x3, x4] [] M = (isO (M) (x1) 5 ∧ isA (M) (mR (M) (x1) 0) ((nI 450)) ∧ (if (mI (M) (mR (M) (x1) 0) (Int32.toNatClampNeg ((nI 450)))) ≤ (x2) then run Z nF C_M_tick S_M_tick Kx Q f t_M_tick_329 [some (.ref (x1)), some (.int (x2)), x3, x4] [] (M) else run Z nF C_M_tick S_M_tick Kx Q f t_M_tick_301 [some (.ref (x1)), some (.int (x2)), x3, x4] [] (M))) := rfl
theorem g_M_tick_301 {Z : Zt} {nF f : Nat} {Kx : Nat → Kt} {Q : Option Value → Mem → Prop} {M : Mem} {x1 : Nat} {x2 : Int32} {x3 : Option Value} {x4 : Option Value} : run Z nF C_M_tick S_M_tick Kx Q (f + 16) t_M_tick_301 [some (.ref (x1)), some (.int (x2)), x3, x4] [] M = (isO (M) (x1) 5 ∧ isO (M) (x1) 5 ∧ isA (M) (mR (M) (x1) 0) ((((nI 440)) + (x2)) + ((nI 1))) ∧ isA (M) (mR (M) (x1) 0) (((nI 440)) + (x2)) ∧ Kx 289 [some (.ref (x1)), some (.int (x2 + (nI 1))), x3, x4] [] (stI (M) (mR (M) (x1) 0) (Int32.toNatClampNeg (((nI 440)) + (x2))) (mI (M) (mR (M) (x1) 0) (Int32.toNatClampNeg ((((nI 440)) + (x2)) + ((nI 1))))))) := rfl
theorem g_M_tick_329 {Z : Zt} {nF f : Nat} {Kx : Nat → Kt} {Q : Option Value → Mem → Prop} {M : Mem} {x1 : Nat} {x2 : Int32} {x3 : Option Value} {x4 : Option Value} : run Z nF C_M_tick S_M_tick Kx Q (f + 1) t_M_tick_329 [some (.ref (x1)), some (.int (x2)), x3, x4] [] M = (Q none (M)) := rfl
set_option maxRecDepth 100000 in
set_option maxHeartbeats 4000000 in
theorem lp_M_tick5 (Z : Zt) (d : Nat) {M : Mem} {u : Nat → Int32} (hB : BkS M) (hb : uB u ≤ 6) (hq : (u 440).toNatClampNeg < 6) : ∀ n i w2 w3, i + n = uB u - 1 → X Z (d + 4) s_M_tick (mN M) (mN M) (ex none (mW M (rwF (mI M) 175 (tDP u (uB u - 1))))) 289 [some (.ref 174), some (.int (nI i)), w2, w3] [] (mW M (rwF (mI M) 175 (tDP u i))) := by
  intro n
  induction n with
  | zero =>
    intro i w2 w3 hi
    obtain rfl : i = uB u - 1 := by omega
    refine X_runT (C := C_M_tick) (S := S_M_tick) (T := t_M_tick_289) 1000 kt_M_tick (okE_cons (ok_M_of Z (d + 2)) (okE_cons (ok_M_price Z d) (okE_cons (ok_M_adds Z (d + 2)) (okE_cons (ok_M_goesBankrupt Z d) okE_nil)))) ?_
    simp (maxSteps := 3000000) (disch := first | exact True.intro | assumption | omega) only [↓eq_self, Option.toList_some, Option.toList_none, List.nil_append, List.cons_append, wsum_0, wsum_1, wsum_2, wsum_3, wsum_4, lkill, ↓reduceIte, if_true, if_false, Bool.false_eq_true, and_true, true_and, and_self, or_self, true_or, or_true, not_true, not_false_iff, mR_stI, mN_stI, isO_stI, isA_stI, mI_stI, mR_mW, mN_mW, isO_mW, isA_mW, mI_mW, mW_mW, stI_mW, vp_0, nI_add, nI_ltI, nI_leI, nI_eq, vpi, nI_clamp, nI_toN, nI_geT, nI_lt4, pk_mul, pk_sub, bv_0n, bv_1n, ↓bv_01n, n01a, n01b, Nat.reduceSub, u2_rw, rw_rw, rw_at, rw_ne, rw_175_174, rw_176_174, rw_176_175, rw_177_174, rw_177_175, rw_177_176, rw_178_174, rw_178_175, rw_178_176, rw_178_177, rw_179_174, rw_179_175, rw_179_176, rw_179_177, rw_179_178, rw_180_174, rw_180_175, rw_180_176, rw_180_177, rw_180_178, rw_180_179, up_at, up_ne, Nat.zero_add, Nat.add_zero, bk_oM hB, bk_m0 hB, bk_m1 hB, bk_m2 hB, bk_m4 hB, bk_m6 hB, bk_m9 hB, md_a hB, md_p hB, md_s hB, md_t hB, md_r hB, md_v hB, ite_nt, ↓g_M_tick_289, ↓g_M_tick_301, ↓g_M_tick_329, tDP_c, Nat.le_refl]
    exact ⟨rfl, rfl⟩
  | succ n ih =>
    intro i w2 w3 hi
    have h1 : ¬ uB u - 1 ≤ i := by omega
    have hr : tDP u i (440 + i + 1) = u (440 + i + 1) := tDP_r (j := i + 1) (by omega) (by omega) hq
    have hs := tDP_s (u := u) (i := i) (by omega) hq
    refine X_runT (C := C_M_tick) (S := S_M_tick) (T := t_M_tick_289) 1000 kt_M_tick (okE_cons (ok_M_of Z (d + 2)) (okE_cons (ok_M_price Z d) (okE_cons (ok_M_adds Z (d + 2)) (okE_cons (ok_M_goesBankrupt Z d) okE_nil)))) ?_
    simp (maxSteps := 3000000) (disch := first | exact True.intro | assumption | omega) only [↓eq_self, Option.toList_some, Option.toList_none, List.nil_append, List.cons_append, wsum_0, wsum_1, wsum_2, wsum_3, wsum_4, lkill, ↓reduceIte, if_true, if_false, Bool.false_eq_true, and_true, true_and, and_self, or_self, true_or, or_true, not_true, not_false_iff, mR_stI, mN_stI, isO_stI, isA_stI, mI_stI, mR_mW, mN_mW, isO_mW, isA_mW, mI_mW, mW_mW, stI_mW, vp_0, nI_add, nI_ltI, nI_leI, nI_eq, vpi, nI_clamp, nI_toN, nI_geT, nI_lt4, pk_mul, pk_sub, bv_0n, bv_1n, ↓bv_01n, n01a, n01b, Nat.reduceSub, u2_rw, rw_rw, rw_at, rw_ne, rw_175_174, rw_176_174, rw_176_175, rw_177_174, rw_177_175, rw_177_176, rw_178_174, rw_178_175, rw_178_176, rw_178_177, rw_179_174, rw_179_175, rw_179_176, rw_179_177, rw_179_178, rw_180_174, rw_180_175, rw_180_176, rw_180_177, rw_180_178, rw_180_179, up_at, up_ne, Nat.zero_add, Nat.add_zero, bk_oM hB, bk_m0 hB, bk_m1 hB, bk_m2 hB, bk_m4 hB, bk_m6 hB, bk_m9 hB, md_a hB, md_p hB, md_s hB, md_t hB, md_r hB, md_v hB, ite_nt, ↓g_M_tick_289, ↓g_M_tick_301, ↓g_M_tick_329, tDP_c, h1, hr, hs]
    exact ih (i + 1) w2 w3 (by omega)
theorem of_v {M : Mem} {v : Nat → Int32} {t w : Nat} {K : Option Value → Mem → Prop} (hB : BkS M) (ht : t < 6) (hw : w < 12) : pcall e_M_of [.ref 174, .int (nI t), .int (nI w)] (mW M (rwF (mI M) 175 v)) K = K (some (.int (v (8 + 12 * t + w)))) (mW M (rwF (mI M) 175 v)) := by
  rw [pc_M_of (o := 174) (t := t) (w := w) (M := mW M (rwF (mI M) 175 v)) ⟨rfl, hB, ht, hw⟩ (by omega) (by omega), mI_mW, rw_at]
theorem adds_v {M : Mem} {v : Nat → Int32} {t w : Nat} {x : Int32} {K : Option Value → Mem → Prop} (hB : BkS M) (ht : t < 6) (hw : w < 12) : pcall e_M_adds [.ref 174, .int (nI t), .int (nI w), .int x] (mW M (rwF (mI M) 175 v)) K = K none (mW M (rwF (mI M) 175 (upF v (8 + 12 * t + w) (v (8 + 12 * t + w) + x)))) := by
  rw [pc_M_adds (o := 174) (t := t) (w := w) (n := x) (M := mW M (rwF (mI M) 175 v)) ⟨rfl, hB, ht, hw⟩ (by omega) (by omega), mI_mW, rw_at, rw_rw, mW_mW]
set_option maxRecDepth 100000 in
set_option maxHeartbeats 4000000 in
theorem lp_M_tick4 (Z : Zt) (d : Nat) {M : Mem} {T : Nat} {u0 : Nat → Int32} (hB : BkS M) (hT6 : T ≤ 6) (h0 : CqOk u0 T) : ∀ n t w2 w3, t + n = T → X Z (d + 4) s_M_tick (mN M) (mN M) (ex none (mW M (rwF (mI M) 175 (tDU (tCP u0 T))))) 157 [some (.ref 174), some (.int (nI t)), w2, w3] [] (mW M (rwF (mI M) 175 (tCP u0 t))) := by
  intro n
  induction n with
  | zero =>
    intro t w2 w3 ht
    obtain rfl : t = T := by omega
    obtain ⟨hv, hs, hvT⟩ := tCP_ok h0 t (Nat.le_refl _)
    generalize tCP u0 t = v at *
    have e447 : v 447 = nI t := by rw [hv.1.1, hvT]
    have e450 := hv.2.2.2.1
    have hb6 := hv.2.2.2.2
    refine X_runT (C := C_M_tick) (S := S_M_tick) (T := t_M_tick_157) 1000 kt_M_tick (okE_cons (ok_M_of Z (d + 2)) (okE_cons (ok_M_price Z d) (okE_cons (ok_M_adds Z (d + 2)) (okE_cons (ok_M_goesBankrupt Z d) okE_nil)))) ?_
    by_cases h1 : uB v = 0
    · rw [show tDU v = v from if_neg (fun q => by have := q.1; omega)]
      simp (maxSteps := 3000000) (disch := first | exact True.intro | assumption | omega) only [↓eq_self, Option.toList_some, Option.toList_none, List.nil_append, List.cons_append, wsum_0, wsum_1, wsum_2, wsum_3, wsum_4, lkill, ↓reduceIte, if_true, if_false, Bool.false_eq_true, and_true, true_and, and_self, or_self, true_or, or_true, not_true, not_false_iff, mR_stI, mN_stI, isO_stI, isA_stI, mI_stI, mR_mW, mN_mW, isO_mW, isA_mW, mI_mW, mW_mW, stI_mW, vp_0, nI_add, nI_ltI, nI_leI, nI_eq, vpi, nI_clamp, nI_toN, nI_geT, nI_lt4, pk_mul, pk_sub, bv_0n, bv_1n, ↓bv_01n, n01a, n01b, Nat.reduceSub, u2_rw, rw_rw, rw_at, rw_ne, rw_175_174, rw_176_174, rw_176_175, rw_177_174, rw_177_175, rw_177_176, rw_178_174, rw_178_175, rw_178_176, rw_178_177, rw_179_174, rw_179_175, rw_179_176, rw_179_177, rw_179_178, rw_180_174, rw_180_175, rw_180_176, rw_180_177, rw_180_178, rw_180_179, up_at, up_ne, Nat.zero_add, Nat.add_zero, bk_oM hB, bk_m0 hB, bk_m1 hB, bk_m2 hB, bk_m4 hB, bk_m6 hB, bk_m9 hB, md_a hB, md_p hB, md_s hB, md_t hB, md_r hB, md_v hB, ite_nt, ↓g_M_tick_157, ↓g_M_tick_169, ↓g_M_tick_175, ↓g_M_tick_179, ↓g_M_tick_185, ↓g_M_tick_194, ↓g_M_tick_198, ↓g_M_tick_209, ↓g_M_tick_220, ↓g_M_tick_241, ↓g_M_tick_253, ↓g_M_tick_287, ↓g_M_tick_289, ↓g_M_tick_301, ↓g_M_tick_329, e447, e450, h1, Nat.le_refl]
      exact ⟨rfl, rfl⟩
    · obtain ⟨q, hq, eq⟩ := hs.2 0 (by omega)
      rw [Nat.add_zero] at eq
      have eN : (v 440).toNatClampNeg = q := tN_of eq (by omega)
      have h1' : ¬ uB v ≤ 0 := by omega
      have hof : ∀ {K : Option Value → Mem → Prop}, pcall e_M_of [.ref 174, .int (nI q), .int (nI 2)] (mW M (rwF (mI M) 175 v)) K = K (some (.int (v (8 + 12 * q + 2)))) (mW M (rwF (mI M) 175 v)) := of_v hB hq (by omega)
      by_cases hc : v 452 ≤ v 446 - v (8 + 12 * q + 2)
      · have hc' : ¬ v 446 - v (8 + 12 * q + 2) < v 452 := Int32.not_lt.mpr hc
        rw [show tDU v = tDP v (uB v - 1) from if_pos ⟨by omega, by rw [eN]; exact hc⟩]
        have h0 := tDP_0 v (by rw [eN]; exact hq)
        rw [eN] at h0
        simp (maxSteps := 3000000) (disch := first | exact True.intro | assumption | omega) only [↓eq_self, Option.toList_some, Option.toList_none, List.nil_append, List.cons_append, wsum_0, wsum_1, wsum_2, wsum_3, wsum_4, lkill, ↓reduceIte, if_true, if_false, Bool.false_eq_true, and_true, true_and, and_self, or_self, true_or, or_true, not_true, not_false_iff, mR_stI, mN_stI, isO_stI, isA_stI, mI_stI, mR_mW, mN_mW, isO_mW, isA_mW, mI_mW, mW_mW, stI_mW, vp_0, nI_add, nI_ltI, nI_leI, nI_eq, vpi, nI_clamp, nI_toN, nI_geT, nI_lt4, pk_mul, pk_sub, bv_0n, bv_1n, ↓bv_01n, n01a, n01b, Nat.reduceSub, u2_rw, rw_rw, rw_at, rw_ne, rw_175_174, rw_176_174, rw_176_175, rw_177_174, rw_177_175, rw_177_176, rw_178_174, rw_178_175, rw_178_176, rw_178_177, rw_179_174, rw_179_175, rw_179_176, rw_179_177, rw_179_178, rw_180_174, rw_180_175, rw_180_176, rw_180_177, rw_180_178, rw_180_179, up_at, up_ne, Nat.zero_add, Nat.add_zero, bk_oM hB, bk_m0 hB, bk_m1 hB, bk_m2 hB, bk_m4 hB, bk_m6 hB, bk_m9 hB, md_a hB, md_p hB, md_s hB, md_t hB, md_r hB, md_v hB, ite_nt, ↓g_M_tick_157, ↓g_M_tick_169, ↓g_M_tick_175, ↓g_M_tick_179, ↓g_M_tick_185, ↓g_M_tick_194, ↓g_M_tick_198, ↓g_M_tick_209, ↓g_M_tick_220, ↓g_M_tick_241, ↓g_M_tick_253, ↓g_M_tick_287, e447, e450, eq, h1', hof, hc', h0, Nat.le_refl]
        exact lp_M_tick5 Z d hB hb6 (by rw [eN]; exact hq) _ 0 w2 w3 (Nat.zero_add _)
      · have hc' : v 446 - v (8 + 12 * q + 2) < v 452 := Int32.not_le.mp hc
        rw [show tDU v = v from if_neg (fun z => hc (by have := z.2; rw [eN] at this; exact this))]
        simp (maxSteps := 3000000) (disch := first | exact True.intro | assumption | omega) only [↓eq_self, Option.toList_some, Option.toList_none, List.nil_append, List.cons_append, wsum_0, wsum_1, wsum_2, wsum_3, wsum_4, lkill, ↓reduceIte, if_true, if_false, Bool.false_eq_true, and_true, true_and, and_self, or_self, true_or, or_true, not_true, not_false_iff, mR_stI, mN_stI, isO_stI, isA_stI, mI_stI, mR_mW, mN_mW, isO_mW, isA_mW, mI_mW, mW_mW, stI_mW, vp_0, nI_add, nI_ltI, nI_leI, nI_eq, vpi, nI_clamp, nI_toN, nI_geT, nI_lt4, pk_mul, pk_sub, bv_0n, bv_1n, ↓bv_01n, n01a, n01b, Nat.reduceSub, u2_rw, rw_rw, rw_at, rw_ne, rw_175_174, rw_176_174, rw_176_175, rw_177_174, rw_177_175, rw_177_176, rw_178_174, rw_178_175, rw_178_176, rw_178_177, rw_179_174, rw_179_175, rw_179_176, rw_179_177, rw_179_178, rw_180_174, rw_180_175, rw_180_176, rw_180_177, rw_180_178, rw_180_179, up_at, up_ne, Nat.zero_add, Nat.add_zero, bk_oM hB, bk_m0 hB, bk_m1 hB, bk_m2 hB, bk_m4 hB, bk_m6 hB, bk_m9 hB, md_a hB, md_p hB, md_s hB, md_t hB, md_r hB, md_v hB, ite_nt, ↓g_M_tick_157, ↓g_M_tick_169, ↓g_M_tick_175, ↓g_M_tick_179, ↓g_M_tick_185, ↓g_M_tick_194, ↓g_M_tick_198, ↓g_M_tick_209, ↓g_M_tick_220, ↓g_M_tick_241, ↓g_M_tick_253, ↓g_M_tick_287, ↓g_M_tick_289, ↓g_M_tick_301, ↓g_M_tick_329, e447, e450, eq, h1', hof, hc', Nat.le_refl]
        exact ⟨rfl, rfl⟩
  | succ n ih =>
    intro t w2 w3 ht
    have hx := fun w2 w3 => ih (t + 1) w2 w3 (by omega)
    rw [show tCP u0 (t + 1) = tCU (tCP u0 t) t from rfl] at hx
    obtain ⟨hv, hs, hvT⟩ := tCP_ok h0 t (by omega)
    generalize tCP u0 t = v at *
    have e447 : v 447 = nI T := by rw [hv.1.1, hvT]
    have h1 : ¬ T ≤ t := by omega
    have ht6 : t < 6 := by omega
    have hof : ∀ {w : Nat} {K : Option Value → Mem → Prop}, w < 12 → pcall e_M_of [.ref 174, .int (nI t), .int (nI w)] (mW M (rwF (mI M) 175 v)) K = K (some (.int (v (8 + 12 * t + w)))) (mW M (rwF (mI M) 175 v)) := fun {w K} h => of_v hB ht6 h
    refine X_runT (C := C_M_tick) (S := S_M_tick) (T := t_M_tick_157) 1000 kt_M_tick (okE_cons (ok_M_of Z (d + 2)) (okE_cons (ok_M_price Z d) (okE_cons (ok_M_adds Z (d + 2)) (okE_cons (ok_M_goesBankrupt Z d) okE_nil)))) ?_
    by_cases h2 : v (8 + 12 * t + 3) = nI 1
    · by_cases h3 : nI 50 * v (8 + 12 * t) < -v (8 + 12 * t + 1)
      · have h3' : ¬ -v (8 + 12 * t + 1) ≤ nI 50 * v (8 + 12 * t) := Int32.not_le.mpr h3
        have hb := slU_pos (t := t) (by omega) h2 hs hv.1.2
        have hbn : ∀ {K : Option Value → Mem → Prop}, pcall e_M_goesBankrupt [.ref 174, .int (nI t)] (mW M (rwF (mI M) 175 v)) K = K none (mW M (rwF (mI M) 175 (bnU v t))) := by
          intro K
          rw [pc_M_goesBankrupt (o := 174) (t := t) (M := mW M (rwF (mI M) 175 v)) ⟨rfl, MO_rw hB hv, ht6, by rw [mI_mW, rw_at]; exact hb⟩ (by omega), mI_mW, rw_at, rw_rw, mW_mW]
        rw [show tCU v t = bnU v t from if_pos ⟨h2, h3⟩] at hx
        simp (maxSteps := 3000000) (disch := first | exact True.intro | assumption | omega) only [↓eq_self, Option.toList_some, Option.toList_none, List.nil_append, List.cons_append, wsum_0, wsum_1, wsum_2, wsum_3, wsum_4, lkill, ↓reduceIte, if_true, if_false, Bool.false_eq_true, and_true, true_and, and_self, or_self, true_or, or_true, not_true, not_false_iff, mR_stI, mN_stI, isO_stI, isA_stI, mI_stI, mR_mW, mN_mW, isO_mW, isA_mW, mI_mW, mW_mW, stI_mW, vp_0, nI_add, nI_ltI, nI_leI, nI_eq, vpi, nI_clamp, nI_toN, nI_geT, nI_lt4, pk_mul, pk_sub, bv_0n, bv_1n, ↓bv_01n, n01a, n01b, Nat.reduceSub, u2_rw, rw_rw, rw_at, rw_ne, rw_175_174, rw_176_174, rw_176_175, rw_177_174, rw_177_175, rw_177_176, rw_178_174, rw_178_175, rw_178_176, rw_178_177, rw_179_174, rw_179_175, rw_179_176, rw_179_177, rw_179_178, rw_180_174, rw_180_175, rw_180_176, rw_180_177, rw_180_178, rw_180_179, up_at, up_ne, Nat.zero_add, Nat.add_zero, bk_oM hB, bk_m0 hB, bk_m1 hB, bk_m2 hB, bk_m4 hB, bk_m6 hB, bk_m9 hB, md_a hB, md_p hB, md_s hB, md_t hB, md_r hB, md_v hB, ite_nt, ↓g_M_tick_157, ↓g_M_tick_169, ↓g_M_tick_175, ↓g_M_tick_179, ↓g_M_tick_185, ↓g_M_tick_194, ↓g_M_tick_198, ↓g_M_tick_203, e447, h1, hof, h2, h3', hbn]
        exact hx _ _
      · have h3' : -v (8 + 12 * t + 1) ≤ nI 50 * v (8 + 12 * t) := Int32.not_lt.mp h3
        rw [show tCU v t = v from if_neg (fun q => h3 q.2)] at hx
        simp (maxSteps := 3000000) (disch := first | exact True.intro | assumption | omega) only [↓eq_self, Option.toList_some, Option.toList_none, List.nil_append, List.cons_append, wsum_0, wsum_1, wsum_2, wsum_3, wsum_4, lkill, ↓reduceIte, if_true, if_false, Bool.false_eq_true, and_true, true_and, and_self, or_self, true_or, or_true, not_true, not_false_iff, mR_stI, mN_stI, isO_stI, isA_stI, mI_stI, mR_mW, mN_mW, isO_mW, isA_mW, mI_mW, mW_mW, stI_mW, vp_0, nI_add, nI_ltI, nI_leI, nI_eq, vpi, nI_clamp, nI_toN, nI_geT, nI_lt4, pk_mul, pk_sub, bv_0n, bv_1n, ↓bv_01n, n01a, n01b, Nat.reduceSub, u2_rw, rw_rw, rw_at, rw_ne, rw_175_174, rw_176_174, rw_176_175, rw_177_174, rw_177_175, rw_177_176, rw_178_174, rw_178_175, rw_178_176, rw_178_177, rw_179_174, rw_179_175, rw_179_176, rw_179_177, rw_179_178, rw_180_174, rw_180_175, rw_180_176, rw_180_177, rw_180_178, rw_180_179, up_at, up_ne, Nat.zero_add, Nat.add_zero, bk_oM hB, bk_m0 hB, bk_m1 hB, bk_m2 hB, bk_m4 hB, bk_m6 hB, bk_m9 hB, md_a hB, md_p hB, md_s hB, md_t hB, md_r hB, md_v hB, ite_nt, ↓g_M_tick_157, ↓g_M_tick_169, ↓g_M_tick_175, ↓g_M_tick_179, ↓g_M_tick_185, ↓g_M_tick_194, ↓g_M_tick_198, ↓g_M_tick_203, e447, h1, hof, h2, h3']
        exact hx _ _
    · rw [show tCU v t = v from if_neg (fun q => h2 q.1)] at hx
      simp (maxSteps := 3000000) (disch := first | exact True.intro | assumption | omega) only [↓eq_self, Option.toList_some, Option.toList_none, List.nil_append, List.cons_append, wsum_0, wsum_1, wsum_2, wsum_3, wsum_4, lkill, ↓reduceIte, if_true, if_false, Bool.false_eq_true, and_true, true_and, and_self, or_self, true_or, or_true, not_true, not_false_iff, mR_stI, mN_stI, isO_stI, isA_stI, mI_stI, mR_mW, mN_mW, isO_mW, isA_mW, mI_mW, mW_mW, stI_mW, vp_0, nI_add, nI_ltI, nI_leI, nI_eq, vpi, nI_clamp, nI_toN, nI_geT, nI_lt4, pk_mul, pk_sub, bv_0n, bv_1n, ↓bv_01n, n01a, n01b, Nat.reduceSub, u2_rw, rw_rw, rw_at, rw_ne, rw_175_174, rw_176_174, rw_176_175, rw_177_174, rw_177_175, rw_177_176, rw_178_174, rw_178_175, rw_178_176, rw_178_177, rw_179_174, rw_179_175, rw_179_176, rw_179_177, rw_179_178, rw_180_174, rw_180_175, rw_180_176, rw_180_177, rw_180_178, rw_180_179, up_at, up_ne, Nat.zero_add, Nat.add_zero, bk_oM hB, bk_m0 hB, bk_m1 hB, bk_m2 hB, bk_m4 hB, bk_m6 hB, bk_m9 hB, md_a hB, md_p hB, md_s hB, md_t hB, md_r hB, md_v hB, ite_nt, ↓g_M_tick_157, ↓g_M_tick_169, ↓g_M_tick_175, ↓g_M_tick_179, ↓g_M_tick_185, ↓g_M_tick_194, ↓g_M_tick_198, ↓g_M_tick_203, e447, h1, hof, h2]
      exact hx _ _
theorem n10 : (nI 10 = nI 0) = False := by decide
set_option maxRecDepth 100000 in
set_option maxHeartbeats 4000000 in
theorem lp_M_tick3 (Z : Zt) (d : Nat) {M : Mem} {T : Nat} {u0 : Nat → Int32} (hB : BkS M) (hT6 : T ≤ 6) (h0 : MdD u0) (h1T : uT u0 = T) (h0s : SqOk u0) : ∀ n t w2 w3, t + n = T → X Z (d + 4) s_M_tick (mN M) (mN M) (ex none (mW M (rwF (mI M) 175 (tDU (tCP (tBP u0 T) T))))) 97 [some (.ref 174), some (.int (nI t)), w2, w3] [] (mW M (rwF (mI M) 175 (tBP u0 t))) := by
  have hT0 : ∀ t, t ≤ 6 → uT (tBP u0 t) = T := fun t ht => by
    rw [← h1T]
    unfold uT
    rw [tBP_o (by omega) t ht]
  intro n
  induction n with
  | zero =>
    intro t w2 w3 ht
    obtain rfl : t = T := by omega
    have hv := tBP_D h0 hT6
    have e447 : tBP u0 t 447 = nI t := by rw [hv.1.1, hT0 t hT6]
    refine X_runT (C := C_M_tick) (S := S_M_tick) (T := t_M_tick_97) 1000 kt_M_tick (okE_cons (ok_M_of Z (d + 2)) (okE_cons (ok_M_price Z d) (okE_cons (ok_M_adds Z (d + 2)) (okE_cons (ok_M_goesBankrupt Z d) okE_nil)))) ?_
    simp (maxSteps := 3000000) (disch := first | exact True.intro | assumption | omega) only [↓eq_self, Option.toList_some, Option.toList_none, List.nil_append, List.cons_append, wsum_0, wsum_1, wsum_2, wsum_3, wsum_4, lkill, ↓reduceIte, if_true, if_false, Bool.false_eq_true, and_true, true_and, and_self, or_self, true_or, or_true, not_true, not_false_iff, mR_stI, mN_stI, isO_stI, isA_stI, mI_stI, mR_mW, mN_mW, isO_mW, isA_mW, mI_mW, mW_mW, stI_mW, vp_0, nI_add, nI_ltI, nI_leI, nI_eq, vpi, nI_clamp, nI_toN, nI_geT, nI_lt4, pk_mul, pk_sub, bv_0n, bv_1n, ↓bv_01n, n01a, n01b, Nat.reduceSub, u2_rw, rw_rw, rw_at, rw_ne, rw_175_174, rw_176_174, rw_176_175, rw_177_174, rw_177_175, rw_177_176, rw_178_174, rw_178_175, rw_178_176, rw_178_177, rw_179_174, rw_179_175, rw_179_176, rw_179_177, rw_179_178, rw_180_174, rw_180_175, rw_180_176, rw_180_177, rw_180_178, rw_180_179, up_at, up_ne, Nat.zero_add, Nat.add_zero, bk_oM hB, bk_m0 hB, bk_m1 hB, bk_m2 hB, bk_m4 hB, bk_m6 hB, bk_m9 hB, md_a hB, md_p hB, md_s hB, md_t hB, md_r hB, md_v hB, ite_nt, ↓g_M_tick_97, ↓g_M_tick_109, ↓g_M_tick_115, ↓g_M_tick_126, ↓g_M_tick_130, ↓g_M_tick_134, ↓g_M_tick_145, ↓g_M_tick_146, ↓g_M_tick_149, ↓g_M_tick_155, e447, Nat.le_refl]
    exact lp_M_tick4 Z d hB hT6 ⟨hv, tBP_Sq h0 h0s hT6, hT0 t hT6⟩ t 0 w2 w3 (Nat.zero_add _)
  | succ n ih =>
    intro t w2 w3 ht
    have hx := fun w2 w3 => ih (t + 1) w2 w3 (by omega)
    rw [show tBP u0 (t + 1) = tBU (tBP u0 t) t from rfl] at hx
    have hv := tBP_D h0 (t := t) (by omega)
    have hvT := hT0 t (by omega)
    generalize tBP u0 t = v at *
    have e447 : v 447 = nI T := by rw [hv.1.1, hvT]
    have h1 : ¬ T ≤ t := by omega
    have ht6 : t < 6 := by omega
    have hof : ∀ {w : Nat} {K : Option Value → Mem → Prop}, w < 12 → pcall e_M_of [.ref 174, .int (nI t), .int (nI w)] (mW M (rwF (mI M) 175 v)) K = K (some (.int (v (8 + 12 * t + w)))) (mW M (rwF (mI M) 175 v)) := fun {w K} h => of_v hB ht6 h
    have had : ∀ {w : Nat} {x : Int32} {K : Option Value → Mem → Prop}, w < 12 → pcall e_M_adds [.ref 174, .int (nI t), .int (nI w), .int x] (mW M (rwF (mI M) 175 v)) K = K none (mW M (rwF (mI M) 175 (upF v (8 + 12 * t + w) (v (8 + 12 * t + w) + x)))) := fun {w x K} h => adds_v hB ht6 h
    unfold tBU at hx
    refine X_runT (C := C_M_tick) (S := S_M_tick) (T := t_M_tick_97) 1000 kt_M_tick (okE_cons (ok_M_of Z (d + 2)) (okE_cons (ok_M_price Z d) (okE_cons (ok_M_adds Z (d + 2)) (okE_cons (ok_M_goesBankrupt Z d) okE_nil)))) ?_
    by_cases h2 : v (8 + 12 * t + 3) = nI 1
    · by_cases h3 : nI 0 < -v (8 + 12 * t + 1)
      · have h3' : ¬ -v (8 + 12 * t + 1) ≤ nI 0 := Int32.not_le.mpr h3
        rw [if_pos ⟨h2, h3⟩] at hx
        simp (maxSteps := 3000000) (disch := first | exact True.intro | assumption | omega) only [↓eq_self, Option.toList_some, Option.toList_none, List.nil_append, List.cons_append, wsum_0, wsum_1, wsum_2, wsum_3, wsum_4, lkill, ↓reduceIte, if_true, if_false, Bool.false_eq_true, and_true, true_and, and_self, or_self, true_or, or_true, not_true, not_false_iff, mR_stI, mN_stI, isO_stI, isA_stI, mI_stI, mR_mW, mN_mW, isO_mW, isA_mW, mI_mW, mW_mW, stI_mW, vp_0, nI_add, nI_ltI, nI_leI, nI_eq, vpi, nI_clamp, nI_toN, nI_geT, nI_lt4, pk_mul, pk_sub, bv_0n, bv_1n, ↓bv_01n, n01a, n01b, Nat.reduceSub, u2_rw, rw_rw, rw_at, rw_ne, rw_175_174, rw_176_174, rw_176_175, rw_177_174, rw_177_175, rw_177_176, rw_178_174, rw_178_175, rw_178_176, rw_178_177, rw_179_174, rw_179_175, rw_179_176, rw_179_177, rw_179_178, rw_180_174, rw_180_175, rw_180_176, rw_180_177, rw_180_178, rw_180_179, up_at, up_ne, Nat.zero_add, Nat.add_zero, bk_oM hB, bk_m0 hB, bk_m1 hB, bk_m2 hB, bk_m4 hB, bk_m6 hB, bk_m9 hB, md_a hB, md_p hB, md_s hB, md_t hB, md_r hB, md_v hB, ite_nt, ↓g_M_tick_97, ↓g_M_tick_109, ↓g_M_tick_115, ↓g_M_tick_126, ↓g_M_tick_130, ↓g_M_tick_134, ↓g_M_tick_145, ↓g_M_tick_146, ↓g_M_tick_149, e447, h1, hof, had, h2, h3', n10]
        exact ⟨by decide, hx _ _⟩
      · have h3' : -v (8 + 12 * t + 1) ≤ nI 0 := Int32.not_lt.mp h3
        rw [if_neg (fun q => h3 q.2)] at hx
        simp (maxSteps := 3000000) (disch := first | exact True.intro | assumption | omega) only [↓eq_self, Option.toList_some, Option.toList_none, List.nil_append, List.cons_append, wsum_0, wsum_1, wsum_2, wsum_3, wsum_4, lkill, ↓reduceIte, if_true, if_false, Bool.false_eq_true, and_true, true_and, and_self, or_self, true_or, or_true, not_true, not_false_iff, mR_stI, mN_stI, isO_stI, isA_stI, mI_stI, mR_mW, mN_mW, isO_mW, isA_mW, mI_mW, mW_mW, stI_mW, vp_0, nI_add, nI_ltI, nI_leI, nI_eq, vpi, nI_clamp, nI_toN, nI_geT, nI_lt4, pk_mul, pk_sub, bv_0n, bv_1n, ↓bv_01n, n01a, n01b, Nat.reduceSub, u2_rw, rw_rw, rw_at, rw_ne, rw_175_174, rw_176_174, rw_176_175, rw_177_174, rw_177_175, rw_177_176, rw_178_174, rw_178_175, rw_178_176, rw_178_177, rw_179_174, rw_179_175, rw_179_176, rw_179_177, rw_179_178, rw_180_174, rw_180_175, rw_180_176, rw_180_177, rw_180_178, rw_180_179, up_at, up_ne, Nat.zero_add, Nat.add_zero, bk_oM hB, bk_m0 hB, bk_m1 hB, bk_m2 hB, bk_m4 hB, bk_m6 hB, bk_m9 hB, md_a hB, md_p hB, md_s hB, md_t hB, md_r hB, md_v hB, ite_nt, ↓g_M_tick_97, ↓g_M_tick_109, ↓g_M_tick_115, ↓g_M_tick_126, ↓g_M_tick_130, ↓g_M_tick_134, ↓g_M_tick_145, ↓g_M_tick_146, ↓g_M_tick_149, e447, h1, hof, had, h2, h3']
        exact hx _ _
    · rw [if_neg (fun q => h2 q.1)] at hx
      simp (maxSteps := 3000000) (disch := first | exact True.intro | assumption | omega) only [↓eq_self, Option.toList_some, Option.toList_none, List.nil_append, List.cons_append, wsum_0, wsum_1, wsum_2, wsum_3, wsum_4, lkill, ↓reduceIte, if_true, if_false, Bool.false_eq_true, and_true, true_and, and_self, or_self, true_or, or_true, not_true, not_false_iff, mR_stI, mN_stI, isO_stI, isA_stI, mI_stI, mR_mW, mN_mW, isO_mW, isA_mW, mI_mW, mW_mW, stI_mW, vp_0, nI_add, nI_ltI, nI_leI, nI_eq, vpi, nI_clamp, nI_toN, nI_geT, nI_lt4, pk_mul, pk_sub, bv_0n, bv_1n, ↓bv_01n, n01a, n01b, Nat.reduceSub, u2_rw, rw_rw, rw_at, rw_ne, rw_175_174, rw_176_174, rw_176_175, rw_177_174, rw_177_175, rw_177_176, rw_178_174, rw_178_175, rw_178_176, rw_178_177, rw_179_174, rw_179_175, rw_179_176, rw_179_177, rw_179_178, rw_180_174, rw_180_175, rw_180_176, rw_180_177, rw_180_178, rw_180_179, up_at, up_ne, Nat.zero_add, Nat.add_zero, bk_oM hB, bk_m0 hB, bk_m1 hB, bk_m2 hB, bk_m4 hB, bk_m6 hB, bk_m9 hB, md_a hB, md_p hB, md_s hB, md_t hB, md_r hB, md_v hB, ite_nt, ↓g_M_tick_97, ↓g_M_tick_109, ↓g_M_tick_115, ↓g_M_tick_126, ↓g_M_tick_130, ↓g_M_tick_134, ↓g_M_tick_145, ↓g_M_tick_146, ↓g_M_tick_149, e447, h1, hof, had, h2]
      exact hx _ _
set_option maxRecDepth 100000 in
set_option maxHeartbeats 4000000 in
theorem lp_M_tick2 (Z : Zt) (d : Nat) {M : Mem} {Q : Option Value → Mem → Prop} {t : Nat} {v : Nat → Int32} (hB : BkS M) (hv : MdD v) (ht6 : t < 6) (hx : ∀ w2 w3, X Z (d + 4) s_M_tick (mN M) (mN M) Q 14 [some (.ref 174), some (.int (nI (t + 1))), w2, w3] [] (mW M (rwF (mI M) 175 (tAU v t)))) : ∀ n r, r + n = 4 → X Z (d + 4) s_M_tick (mN M) (mN M) Q 30 [some (.ref 174), some (.int (nI t)), some (.int (duU v t r)), some (.int (nI r))] [] (mW M (rwF (mI M) 175 v)) := by
  have hof : ∀ {w : Nat} {K : Option Value → Mem → Prop}, w < 12 → pcall e_M_of [.ref 174, .int (nI t), .int (nI w)] (mW M (rwF (mI M) 175 v)) K = K (some (.int (v (8 + 12 * t + w)))) (mW M (rwF (mI M) 175 v)) := fun {w K} h => of_v hB ht6 h
  have had : ∀ {w : Nat} {x : Int32} {K : Option Value → Mem → Prop}, w < 12 → pcall e_M_adds [.ref 174, .int (nI t), .int (nI w), .int x] (mW M (rwF (mI M) 175 v)) K = K none (mW M (rwF (mI M) 175 (upF v (8 + 12 * t + w) (v (8 + 12 * t + w) + x)))) := fun {w x K} h => adds_v hB ht6 h
  intro n
  induction n with
  | zero =>
    intro r hr
    obtain rfl : r = 4 := by omega
    unfold tAU at hx
    refine X_runT (C := C_M_tick) (S := S_M_tick) (T := t_M_tick_30) 1000 kt_M_tick (okE_cons (ok_M_of Z (d + 2)) (okE_cons (ok_M_price Z d) (okE_cons (ok_M_adds Z (d + 2)) (okE_cons (ok_M_goesBankrupt Z d) okE_nil)))) ?_
    by_cases h2 : v (8 + 12 * t + 3) = nI 1
    · rw [if_pos h2] at hx
      simp (maxSteps := 3000000) (disch := first | exact True.intro | assumption | omega) only [↓eq_self, Option.toList_some, Option.toList_none, List.nil_append, List.cons_append, wsum_0, wsum_1, wsum_2, wsum_3, wsum_4, lkill, ↓reduceIte, if_true, if_false, Bool.false_eq_true, and_true, true_and, and_self, or_self, true_or, or_true, not_true, not_false_iff, mR_stI, mN_stI, isO_stI, isA_stI, mI_stI, mR_mW, mN_mW, isO_mW, isA_mW, mI_mW, mW_mW, stI_mW, vp_0, nI_add, nI_ltI, nI_leI, nI_eq, vpi, nI_clamp, nI_toN, nI_geT, nI_lt4, pk_mul, pk_sub, bv_0n, bv_1n, ↓bv_01n, n01a, n01b, Nat.reduceSub, u2_rw, rw_rw, rw_at, rw_ne, rw_175_174, rw_176_174, rw_176_175, rw_177_174, rw_177_175, rw_177_176, rw_178_174, rw_178_175, rw_178_176, rw_178_177, rw_179_174, rw_179_175, rw_179_176, rw_179_177, rw_179_178, rw_180_174, rw_180_175, rw_180_176, rw_180_177, rw_180_178, rw_180_179, up_at, up_ne, Nat.zero_add, Nat.add_zero, bk_oM hB, bk_m0 hB, bk_m1 hB, bk_m2 hB, bk_m4 hB, bk_m6 hB, bk_m9 hB, md_a hB, md_p hB, md_s hB, md_t hB, md_r hB, md_v hB, ite_nt, ↓g_M_tick_30, ↓g_M_tick_35, ↓g_M_tick_45, ↓g_M_tick_50, ↓g_M_tick_59, ↓g_M_tick_68, ↓g_M_tick_72, ↓g_M_tick_79, ↓g_M_tick_85, ↓g_M_tick_86, ↓g_M_tick_89, hof, had, h2, Nat.le_refl]
      exact hx _ _
    · rw [if_neg h2] at hx
      simp (maxSteps := 3000000) (disch := first | exact True.intro | assumption | omega) only [↓eq_self, Option.toList_some, Option.toList_none, List.nil_append, List.cons_append, wsum_0, wsum_1, wsum_2, wsum_3, wsum_4, lkill, ↓reduceIte, if_true, if_false, Bool.false_eq_true, and_true, true_and, and_self, or_self, true_or, or_true, not_true, not_false_iff, mR_stI, mN_stI, isO_stI, isA_stI, mI_stI, mR_mW, mN_mW, isO_mW, isA_mW, mI_mW, mW_mW, stI_mW, vp_0, nI_add, nI_ltI, nI_leI, nI_eq, vpi, nI_clamp, nI_toN, nI_geT, nI_lt4, pk_mul, pk_sub, bv_0n, bv_1n, ↓bv_01n, n01a, n01b, Nat.reduceSub, u2_rw, rw_rw, rw_at, rw_ne, rw_175_174, rw_176_174, rw_176_175, rw_177_174, rw_177_175, rw_177_176, rw_178_174, rw_178_175, rw_178_176, rw_178_177, rw_179_174, rw_179_175, rw_179_176, rw_179_177, rw_179_178, rw_180_174, rw_180_175, rw_180_176, rw_180_177, rw_180_178, rw_180_179, up_at, up_ne, Nat.zero_add, Nat.add_zero, bk_oM hB, bk_m0 hB, bk_m1 hB, bk_m2 hB, bk_m4 hB, bk_m6 hB, bk_m9 hB, md_a hB, md_p hB, md_s hB, md_t hB, md_r hB, md_v hB, ite_nt, ↓g_M_tick_30, ↓g_M_tick_35, ↓g_M_tick_45, ↓g_M_tick_50, ↓g_M_tick_59, ↓g_M_tick_68, ↓g_M_tick_72, ↓g_M_tick_79, ↓g_M_tick_85, ↓g_M_tick_86, ↓g_M_tick_89, hof, had, h2, Nat.le_refl]
      exact hx _ _
  | succ n ih =>
    intro r hr
    have h1 : ¬ 4 ≤ r := by omega
    have hpr : ∀ {K : Option Value → Mem → Prop}, pcall e_M_price [.ref 174, .int (nI r)] (mW M (rwF (mI M) 175 v)) K = K (some (.int (prU v r))) (mW M (rwF (mI M) 175 v)) := by
      intro K
      rw [pc_M_price (o := 174) (r := r) (M := mW M (rwF (mI M) 175 v)) ⟨rfl, MO_rw hB hv, by omega⟩ (by omega), mI_mW, rw_at]
    have hy := ih (r + 1) (by omega)
    refine X_runT (C := C_M_tick) (S := S_M_tick) (T := t_M_tick_30) 1000 kt_M_tick (okE_cons (ok_M_of Z (d + 2)) (okE_cons (ok_M_price Z d) (okE_cons (ok_M_adds Z (d + 2)) (okE_cons (ok_M_goesBankrupt Z d) okE_nil)))) ?_
    simp (maxSteps := 3000000) (disch := first | exact True.intro | assumption | omega) only [↓eq_self, Option.toList_some, Option.toList_none, List.nil_append, List.cons_append, wsum_0, wsum_1, wsum_2, wsum_3, wsum_4, lkill, ↓reduceIte, if_true, if_false, Bool.false_eq_true, and_true, true_and, and_self, or_self, true_or, or_true, not_true, not_false_iff, mR_stI, mN_stI, isO_stI, isA_stI, mI_stI, mR_mW, mN_mW, isO_mW, isA_mW, mI_mW, mW_mW, stI_mW, vp_0, nI_add, nI_ltI, nI_leI, nI_eq, vpi, nI_clamp, nI_toN, nI_geT, nI_lt4, pk_mul, pk_sub, bv_0n, bv_1n, ↓bv_01n, n01a, n01b, Nat.reduceSub, u2_rw, rw_rw, rw_at, rw_ne, rw_175_174, rw_176_174, rw_176_175, rw_177_174, rw_177_175, rw_177_176, rw_178_174, rw_178_175, rw_178_176, rw_178_177, rw_179_174, rw_179_175, rw_179_176, rw_179_177, rw_179_178, rw_180_174, rw_180_175, rw_180_176, rw_180_177, rw_180_178, rw_180_179, up_at, up_ne, Nat.zero_add, Nat.add_zero, bk_oM hB, bk_m0 hB, bk_m1 hB, bk_m2 hB, bk_m4 hB, bk_m6 hB, bk_m9 hB, md_a hB, md_p hB, md_s hB, md_t hB, md_r hB, md_v hB, ite_nt, ↓g_M_tick_30, ↓g_M_tick_35, ↓g_M_tick_45, ↓g_M_tick_50, hof, hpr, h1]
    exact hy
set_option maxRecDepth 100000 in
set_option maxHeartbeats 4000000 in
theorem lp_M_tick1 (Z : Zt) (d : Nat) {M : Mem} {T : Nat} {u0 : Nat → Int32} (hB : BkS M) (hT6 : T ≤ 6) (h0 : MdD u0) (h1T : uT u0 = T) (h0s : SqOk u0) : ∀ n t w2 w3, t + n = T → X Z (d + 4) s_M_tick (mN M) (mN M) (ex none (mW M (rwF (mI M) 175 (tDU (tCP (tBP (tAP u0 T) T) T))))) 14 [some (.ref 174), some (.int (nI t)), w2, w3] [] (mW M (rwF (mI M) 175 (tAP u0 t))) := by
  have hT0 : ∀ t, t ≤ 6 → uT (tAP u0 t) = T := fun t ht => by
    rw [← h1T]
    unfold uT
    rw [tAP_o (by omega) t ht]
  intro n
  induction n with
  | zero =>
    intro t w2 w3 ht
    obtain rfl : t = T := by omega
    have hv := tAP_D h0 hT6
    have e447 : tAP u0 t 447 = nI t := by rw [hv.1.1, hT0 t hT6]
    refine X_runT (C := C_M_tick) (S := S_M_tick) (T := t_M_tick_14) 1000 kt_M_tick (okE_cons (ok_M_of Z (d + 2)) (okE_cons (ok_M_price Z d) (okE_cons (ok_M_adds Z (d + 2)) (okE_cons (ok_M_goesBankrupt Z d) okE_nil)))) ?_
    simp (maxSteps := 3000000) (disch := first | exact True.intro | assumption | omega) only [↓eq_self, Option.toList_some, Option.toList_none, List.nil_append, List.cons_append, wsum_0, wsum_1, wsum_2, wsum_3, wsum_4, lkill, ↓reduceIte, if_true, if_false, Bool.false_eq_true, and_true, true_and, and_self, or_self, true_or, or_true, not_true, not_false_iff, mR_stI, mN_stI, isO_stI, isA_stI, mI_stI, mR_mW, mN_mW, isO_mW, isA_mW, mI_mW, mW_mW, stI_mW, vp_0, nI_add, nI_ltI, nI_leI, nI_eq, vpi, nI_clamp, nI_toN, nI_geT, nI_lt4, pk_mul, pk_sub, bv_0n, bv_1n, ↓bv_01n, n01a, n01b, Nat.reduceSub, u2_rw, rw_rw, rw_at, rw_ne, rw_175_174, rw_176_174, rw_176_175, rw_177_174, rw_177_175, rw_177_176, rw_178_174, rw_178_175, rw_178_176, rw_178_177, rw_179_174, rw_179_175, rw_179_176, rw_179_177, rw_179_178, rw_180_174, rw_180_175, rw_180_176, rw_180_177, rw_180_178, rw_180_179, up_at, up_ne, Nat.zero_add, Nat.add_zero, bk_oM hB, bk_m0 hB, bk_m1 hB, bk_m2 hB, bk_m4 hB, bk_m6 hB, bk_m9 hB, md_a hB, md_p hB, md_s hB, md_t hB, md_r hB, md_v hB, ite_nt, ↓g_M_tick_14, ↓g_M_tick_26, ↓g_M_tick_30, ↓g_M_tick_35, ↓g_M_tick_45, ↓g_M_tick_50, ↓g_M_tick_59, ↓g_M_tick_68, ↓g_M_tick_72, ↓g_M_tick_79, ↓g_M_tick_85, ↓g_M_tick_86, ↓g_M_tick_89, ↓g_M_tick_95, e447, Nat.le_refl]
    exact lp_M_tick3 Z d hB hT6 hv (hT0 t hT6) (tAP_Sq h0 h0s hT6) t 0 w2 w3 (Nat.zero_add _)
  | succ n ih =>
    intro t w2 w3 ht
    have hx := fun w2 w3 => ih (t + 1) w2 w3 (by omega)
    rw [show tAP u0 (t + 1) = tAU (tAP u0 t) t from rfl] at hx
    have hv := tAP_D h0 (t := t) (by omega)
    have hvT := hT0 t (by omega)
    generalize tAP u0 t = v at *
    have e447 : v 447 = nI T := by rw [hv.1.1, hvT]
    have h1 : ¬ T ≤ t := by omega
    refine X_runT (C := C_M_tick) (S := S_M_tick) (T := t_M_tick_14) 1000 kt_M_tick (okE_cons (ok_M_of Z (d + 2)) (okE_cons (ok_M_price Z d) (okE_cons (ok_M_adds Z (d + 2)) (okE_cons (ok_M_goesBankrupt Z d) okE_nil)))) ?_
    simp (maxSteps := 3000000) (disch := first | exact True.intro | assumption | omega) only [↓eq_self, Option.toList_some, Option.toList_none, List.nil_append, List.cons_append, wsum_0, wsum_1, wsum_2, wsum_3, wsum_4, lkill, ↓reduceIte, if_true, if_false, Bool.false_eq_true, and_true, true_and, and_self, or_self, true_or, or_true, not_true, not_false_iff, mR_stI, mN_stI, isO_stI, isA_stI, mI_stI, mR_mW, mN_mW, isO_mW, isA_mW, mI_mW, mW_mW, stI_mW, vp_0, nI_add, nI_ltI, nI_leI, nI_eq, vpi, nI_clamp, nI_toN, nI_geT, nI_lt4, pk_mul, pk_sub, bv_0n, bv_1n, ↓bv_01n, n01a, n01b, Nat.reduceSub, u2_rw, rw_rw, rw_at, rw_ne, rw_175_174, rw_176_174, rw_176_175, rw_177_174, rw_177_175, rw_177_176, rw_178_174, rw_178_175, rw_178_176, rw_178_177, rw_179_174, rw_179_175, rw_179_176, rw_179_177, rw_179_178, rw_180_174, rw_180_175, rw_180_176, rw_180_177, rw_180_178, rw_180_179, up_at, up_ne, Nat.zero_add, Nat.add_zero, bk_oM hB, bk_m0 hB, bk_m1 hB, bk_m2 hB, bk_m4 hB, bk_m6 hB, bk_m9 hB, md_a hB, md_p hB, md_s hB, md_t hB, md_r hB, md_v hB, ite_nt, ↓g_M_tick_14, ↓g_M_tick_26, e447, h1]
    exact lp_M_tick2 Z d hB hv (by omega) hx 4 0 rfl
set_option maxRecDepth 100000 in
set_option maxHeartbeats 4000000 in
theorem ok_M_tick (Z : Zt) (d : Nat) : okE Z (d + 4) i_M_tick e_M_tick := mk_M_tick fun o M hp => by
  obtain ⟨rfl, hB, hu, hs⟩ := hp
  have hT : uT (tK0 (mI M 175)) = uT (mI M 175) := by
    unfold uT tK0
    rw [up_ne (by omega)]
  refine Gm_run (C := C_M_tick) (S := S_M_tick) [some (.ref 174), none, none, none] 1000 kt_M_tick (okE_cons (ok_M_of Z (d + 2)) (okE_cons (ok_M_price Z d) (okE_cons (ok_M_adds Z (d + 2)) (okE_cons (ok_M_goesBankrupt Z d) okE_nil)))) (ex_n rfl) ?_
  simp (maxSteps := 3000000) (disch := first | exact True.intro | assumption | omega) only [↓eq_self, Option.toList_some, Option.toList_none, List.nil_append, List.cons_append, wsum_0, wsum_1, wsum_2, wsum_3, wsum_4, lkill, ↓reduceIte, if_true, if_false, Bool.false_eq_true, and_true, true_and, and_self, or_self, true_or, or_true, not_true, not_false_iff, mR_stI, mN_stI, isO_stI, isA_stI, mI_stI, mR_mW, mN_mW, isO_mW, isA_mW, mI_mW, mW_mW, stI_mW, vp_0, nI_add, nI_ltI, nI_leI, nI_eq, vpi, nI_clamp, nI_toN, nI_geT, nI_lt4, pk_mul, pk_sub, bv_0n, bv_1n, ↓bv_01n, n01a, n01b, Nat.reduceSub, u2_rw, rw_rw, rw_at, rw_ne, rw_175_174, rw_176_174, rw_176_175, rw_177_174, rw_177_175, rw_177_176, rw_178_174, rw_178_175, rw_178_176, rw_178_177, rw_179_174, rw_179_175, rw_179_176, rw_179_177, rw_179_178, rw_180_174, rw_180_175, rw_180_176, rw_180_177, rw_180_178, rw_180_179, up_at, up_ne, Nat.zero_add, Nat.add_zero, bk_oM hB, bk_m0 hB, bk_m1 hB, bk_m2 hB, bk_m4 hB, bk_m6 hB, bk_m9 hB, md_a hB, md_p hB, md_s hB, md_t hB, md_r hB, md_v hB, ite_nt, ↓g_M_tick_0]
  exact lp_M_tick1 Z d hB hu.1.2 (tK0_D hu) hT (tK0_Sq hu hs) (uT (mI M 175)) 0 none none (Nat.zero_add _)
