theorem ti_add {a b : Int32} (h1 : -2147483648 ≤ a.toInt + b.toInt) (h2 : a.toInt + b.toInt < 2147483648) : (a + b).toInt = a.toInt + b.toInt := by
  rw [Int32.toInt_add]
  exact Int.bmod_eq_of_le (by omega) (by omega)
theorem ti_sub {a b : Int32} (h1 : -2147483648 ≤ a.toInt - b.toInt) (h2 : a.toInt - b.toInt < 2147483648) : (a - b).toInt = a.toInt - b.toInt := by
  rw [Int32.toInt_sub]
  exact Int.bmod_eq_of_le (by omega) (by omega)
theorem ti_neg {a : Int32} (h1 : -2147483648 < a.toInt) : (-a).toInt = -a.toInt := by
  rw [Int32.toInt_neg]
  have := a.toInt_lt
  exact Int.bmod_eq_of_le (by omega) (by omega)
theorem ti_mul {a b : Int32} (h1 : -2147483648 ≤ a.toInt * b.toInt) (h2 : a.toInt * b.toInt < 2147483648) : (a * b).toInt = a.toInt * b.toInt := by
  rw [Int32.toInt_mul]
  exact Int.bmod_eq_of_le (by omega) (by omega)
theorem ti_m1 : (-1 : Int32).toInt = -1 := by decide
theorem ti_div {a b : Int32} (h : 0 < b.toInt) : (a / b).toInt = a.toInt.tdiv b.toInt := by
  refine Int32.toInt_div_of_ne_right a b (fun e => ?_)
  rw [e, ti_m1] at h
  omega
theorem tiL (n : Nat) (h : (OfNat.ofNat n : Nat) < 2 ^ 31) : ((no_index (OfNat.ofNat n : Int32))).toInt = ((OfNat.ofNat n : Nat) : Int) := nI_toInt h
theorem ti_0 : (0 : Int32).toInt = 0 := by decide
theorem ti_1 : (1 : Int32).toInt = 1 := by decide
theorem ti_9 : (9 : Int32).toInt = 9 := by decide
theorem ti_10 : (10 : Int32).toInt = 10 := by decide
theorem ti_50 : (50 : Int32).toInt = 50 := by decide
theorem ti_99 : (99 : Int32).toInt = 99 := by decide
theorem ti_999 : (999 : Int32).toInt = 999 := by decide
theorem ti_9999 : (9999 : Int32).toInt = 9999 := by decide
theorem ti_10000 : (10000 : Int32).toInt = 10000 := by decide
theorem ti_N : (-1000003 : Int32).toInt = -1000003 := by decide
theorem nn_0 : nI 0 = 0 := rfl
theorem nn_1 : nI 1 = 1 := rfl
theorem nn_5 : nI 5 = 5 := rfl
theorem nn_9 : nI 9 = 9 := rfl
theorem nn_10 : nI 10 = 10 := rfl
theorem nn_50 : nI 50 = 50 := rfl
theorem nn_99 : nI 99 = 99 := rfl
theorem nn_127 : nI 127 = 127 := rfl
theorem nn_999 : nI 999 = 999 := rfl
theorem nn_9999 : nI 9999 = 9999 := rfl
theorem nn_10000 : nI 10000 = 10000 := rfl
theorem ti_ne {a b : Int32} (h : ¬ a = b) : a.toInt ≠ b.toInt := fun e => h (Int32.toInt_inj.mp e)
theorem nI_neM {k : Nat} (h : k < 2 ^ 31) : ¬ nI k < 0 := by
  rw [fa_lt', nI_toInt h, ti_0]
  omega
theorem nI_ge0 {k : Nat} (h : k < 2 ^ 31) : 0 ≤ nI k := by
  rw [fa_le', nI_toInt h, ti_0]
  omega
theorem m1_lt : (-1 : Int32) < 0 := by decide
theorem m1_ge : ¬ (0 : Int32) ≤ -1 := by decide
theorem ffU {p q : Nat → Prop} [DecidablePred p] [DecidablePred q] : ∀ n i, (∀ k, i ≤ k → k < i + n → (p k ↔ q k)) → (fwR p n i = -1 ∧ fiU q n i = -1000003 ∧ ∀ k, i ≤ k → k < i + n → ¬ q k) ∨ ∃ k, i ≤ k ∧ k < i + n ∧ q k ∧ (∀ j, i ≤ j → j < k → ¬ q j) ∧ fwR p n i = nI k ∧ fiU q n i = nI k
  | 0, i, _ => Or.inl ⟨rfl, rfl, fun k h1 h2 => by omega⟩
  | n + 1, i, h => by
    unfold fwR fiU
    by_cases hp : p i
    · have hq := (h i (Nat.le_refl _) (by omega)).mp hp
      rw [if_pos hp, if_pos hq]
      exact Or.inr ⟨i, Nat.le_refl _, by omega, hq, fun j h1 h2 => by omega, rfl, rfl⟩
    · have hq : ¬ q i := fun z => hp ((h i (Nat.le_refl _) (by omega)).mpr z)
      rw [if_neg hp, if_neg hq]
      rcases ffU n (i + 1) (fun k h1 h2 => h k (by omega) (by omega)) with ⟨h1, h2, h3⟩ | ⟨k, h1, h2, h3, h4, h5, h6⟩
      · exact Or.inl ⟨h1, h2, fun k h4 h5 => by
          by_cases z : k = i
          · rw [z]; exact hq
          · exact h3 k (by omega) (by omega)⟩
      · exact Or.inr ⟨k, by omega, by omega, h3, fun j h7 h8 => by
          by_cases z : j = i
          · rw [z]; exact hq
          · exact h4 j (by omega) h8, h5, h6⟩
def sm (g : Nat → Int32) : Nat → Int32
  | 0 => 0
  | n + 1 => sm g n + g n
theorem sm_cg {g h : Nat → Int32} : ∀ n, (∀ k, k < n → g k = h k) → sm g n = sm h n
  | 0, _ => rfl
  | n + 1, e => by
    unfold sm
    rw [sm_cg n (fun k hk => e k (by omega)), e n (by omega)]
theorem sm_rm {g : Nat → Int32} {k : Nat} : ∀ m, k ≤ m → sm (fun j => if j < k then g j else g (j + 1)) m + g k = sm g (m + 1)
  | 0, h => by
    obtain rfl : k = 0 := by omega
    rfl
  | m + 1, h => by
    by_cases z : k = m + 1
    · rw [sm_cg (h := g) (m + 1) (fun j hj => if_pos (by omega)), z]
      rfl
    · have ih := sm_rm (g := g) (k := k) m (by omega)
      rw [sm, if_neg (by omega), Int32.add_assoc, Int32.add_comm (g (m + 1)), ← Int32.add_assoc, ih]
      rfl
theorem usP_sm (u : Nat → Int32) (r : Nat) (t : Int32) : ∀ n, usP u r t n = sm (usT u r t) n
  | 0 => rfl
  | n + 1 => by rw [usP, usP_sm u r t n, sm]
theorem usU_sm (u : Nat → Int32) (r : Nat) (t : Int32) : usU u r t = sm (usT u r t) (uG u) := usP_sm _ _ _ _
theorem sm_bd {g : Nat → Int32} : ∀ n, n ≤ 40 → (∀ k, k < n → 0 ≤ (g k).toInt ∧ (g k).toInt ≤ 99) → 0 ≤ (sm g n).toInt ∧ (sm g n).toInt ≤ 99 * n
  | 0, _, _ => by
    rw [sm, ti_0]
    omega
  | n + 1, hn, h => by
    have ih := sm_bd (g := g) n (by omega) (fun k hk => h k (by omega))
    have h2 := h n (by omega)
    rw [sm, ti_add (by omega) (by omega)]
    omega
def RA (f : Nat → Nat → Int32) (b : Nat) (u : Nat → Int32) : Prop := ∀ r, r < 4 → f (b + 1) r = u r ∧ f (b + 2) r = u (4 + r)
def RT (f : Nat → Nat → Int32) (b : Nat) (u : Nat → Int32) : Prop := ∀ t, t < uT u → f (b + 4) t = u (8 + 12 * t) ∧ f (b + 5) t = u (8 + 12 * t + 1) ∧ f (b + 6) t = u (8 + 12 * t + 2) ∧ ∀ r, r < 4 → f (b + 7) (t * 4 + r) = u (8 + 12 * t + (4 + r)) ∧ f (b + 8) (t * 4 + r) = u (8 + 12 * t + (8 + r))
def TG (f : Nat → Nat → Int32) (c : Nat) (u : Nat → Int32) : Prop := f c 2 = u 448 ∧ ∀ k, k < uG u → f (c + 1) (k * 6 + 5) = u (80 + 6 * k) ∧ ∀ j, j < 5 → f (c + 1) (k * 6 + j) = u (80 + 6 * k + (1 + j))
def TD (f : Nat → Nat → Int32) (c : Nat) (u : Nat → Int32) : Prop := f c 2 = u 449 ∧ ∀ k, k < uD u → ∀ j, j < 5 → f (c + 1) (k * 6 + j) = u (320 + 5 * k + j)
def RQ (f : Nat → Nat → Int32) (b : Nat) (u : Nat → Int32) : Prop := ∀ k, k < uB u → f (b + 14) k = u (440 + k)
def RU (f : Nat → Nat → Int32) (b : Nat) (u : Nat → Int32) : Prop := ∀ r, r < 4 → f (b + 3) r = usU u r (-1000003) ∧ ∀ t, t < uT u → f (b + 9) (t * 4 + r) = usU u r (nI t)
def RS (f : Nat → Nat → Int32) (b : Nat) (u : Nat → Int32) : Prop := f b 12 = u 450 ∧ f b 13 = u 447 ∧ f b 14 = u 446 ∧ f b 15 = u 452 ∧ f b 16 = u 451 ∧ f b 17 = u 453
def RN (f : Nat → Nat → Int32) (b : Nat) (u : Nat → Int32) : Prop := ∀ t, uT u ≤ t → t < 6 → f (b + 5) t = 0 ∧ f (b + 6) t = -1000003 ∧ ∀ r, r < 4 → f (b + 7) (t * 4 + r) = 0 ∧ f (b + 8) (t * 4 + r) = 0 ∧ f (b + 9) (t * 4 + r) = 0
def RL (f : Nat → Nat → Int32) (b : Nat) (u : Nat → Int32) : Prop := RA f b u ∧ RT f b u ∧ TG f (b + 10) u ∧ TD f (b + 12) u ∧ RQ f b u ∧ RU f b u ∧ RS f b u ∧ RN f b u
def IB (u : Nat → Int32) : Prop := ∀ r, r < 4 → 0 ≤ (u r).toInt ∧ (u r).toInt ≤ 999
def IW (u : Nat → Int32) : Prop := ∀ t, t < uT u → (1 ≤ (u (8 + 12 * t)).toInt ∧ (u (8 + 12 * t)).toInt ≤ 9) ∧ (u (8 + 12 * t + 2)).toInt ≤ (u 446).toInt ∧ ∀ r, r < 4 → 0 ≤ (u (8 + 12 * t + (8 + r))).toInt ∧ (u (8 + 12 * t + (8 + r))).toInt ≤ (u (8 + 12 * t + (4 + r))).toInt ∧ (u (8 + 12 * t + (4 + r))).toInt ≤ 9999
def IG (u : Nat → Int32) : Prop := ∀ k, k < uG u → 0 ≤ (u (80 + 6 * k)).toInt ∧ (∀ r, r < 4 → 0 ≤ (u (80 + 6 * k + (1 + r))).toInt ∧ (u (80 + 6 * k + (1 + r))).toInt ≤ 99) ∧ ∃ q, q < uT u ∧ u (80 + 6 * k + 5) = nI q
def ID (u : Nat → Int32) : Prop := ∀ k, k < uD u → (∀ r, r < 4 → 0 ≤ (u (320 + 5 * k + r)).toInt ∧ (u (320 + 5 * k + r)).toInt ≤ 99) ∧ ∃ q, q < uT u ∧ u (320 + 5 * k + 4) = nI q
def IQ (u : Nat → Int32) : Prop := (∀ k, k < uB u → ∃ q, q < uT u ∧ u (440 + k) = nI q) ∧ ∀ j k, j < uB u → k < uB u → u (440 + j) = u (440 + k) → j = k
def IS (u : Nat → Int32) : Prop := ∀ t, t < uT u → (u (8 + 12 * t + 3) = nI 0 ∧ ∃ k, k < uB u ∧ u (440 + k) = nI t) ∨ (u (8 + 12 * t + 3) = nI 1 ∧ ∀ k, k < uB u → ¬ u (440 + k) = nI t)
def IT (u : Nat → Int32) (c : Nat) : Prop := 0 ≤ (u 446).toInt ∧ (1 ≤ (u 452).toInt ∧ (u 452).toInt ≤ 99) ∧ 0 ≤ (u 451).toInt ∧ (u 451).toInt + uD u ≤ c
def IV (u : Nat → Int32) (c : Nat) : Prop := MdD u ∧ SqOk u ∧ IB u ∧ IW u ∧ IG u ∧ ID u ∧ IQ u ∧ IS u ∧ IT u c
section RLr
variable {f : Nat → Nat → Int32} {b c : Nat} {u : Nat → Int32}
theorem rl_T (h : RL f b u) : lnT f b = uT u := by
  unfold lnT uT
  rw [h.2.2.2.2.2.2.1.2.1]
theorem rl_B (h : RL f b u) : lnB f b = uB u := by
  unfold lnB uB
  rw [h.2.2.2.2.2.2.1.1]
theorem tg_n (h : TG f c u) : csz f c = uG u := by
  unfold csz uG
  rw [h.1]
theorem td_n (h : TD f c u) : csz f c = uD u := by
  unfold csz uD
  rw [h.1]
theorem rl_G (h : RL f b u) : csz f (b + 10) = uG u := tg_n h.2.2.1
theorem rl_D (h : RL f b u) : csz f (b + 12) = uD u := td_n h.2.2.2.1
theorem rl_dd (h : RL f b u) {k j : Nat} (hk : k < uD u) (hj : j < 5) : f (b + 13) (k * 6 + j) = u (320 + 5 * k + j) := h.2.2.2.1.2 k hk j hj
theorem rl_gg (h : RL f b u) {k j : Nat} (hk : k < uG u) (hj : j < 5) : f (b + 11) (k * 6 + j) = u (80 + 6 * k + (1 + j)) := (h.2.2.1.2 k hk).2 j hj
theorem rl_LedD (h : RL f b u) (hi : MdD u) : LedD f b := by
  have e1 := rl_G h
  have e2 := rl_D h
  have e3 := rl_T h
  have e4 := rl_B h
  refine ⟨by rw [e1, h.2.2.1.1]; exact hi.2.1.1, by rw [e1]; exact hi.2.1.2, by rw [e2, h.2.2.2.1.1]; exact hi.2.2.1.1, by rw [e2]; exact hi.2.2.1.2, by rw [e3, h.2.2.2.2.2.2.1.2.1]; exact hi.1.1, by rw [e3]; exact hi.1.2, by rw [e4, h.2.2.2.2.2.2.1.1]; exact hi.2.2.2.1, by rw [e4]; exact hi.2.2.2.2⟩
theorem us_bd (hi : IV u c) {r : Nat} (hr : r < 4) (t : Int32) : 0 ≤ (usU u r t).toInt ∧ (usU u r t).toInt ≤ 3960 := by
  have hg := hi.1.2.1.2
  rw [usU_sm]
  have := sm_bd (g := usT u r t) (uG u) hg (fun k hk => by
    have h1 := (hi.2.2.2.2.1 k hk).2.1 r hr
    unfold usT
    by_cases z : t = -1000003
    · rw [if_pos z]; exact h1
    · rw [if_neg z]
      by_cases z2 : u (80 + 6 * k + 5) = t
      · rw [if_pos z2]; exact h1
      · rw [if_neg z2, nn_0, ti_0]; omega)
  omega
theorem pr_bd (hi : IV u c) {r : Nat} (hr : r < 4) : 1 ≤ (prU u r).toInt ∧ (prU u r).toInt ≤ 35641 := by
  have h1 := us_bd hi hr (-1000003)
  have h2 := hi.2.2.1 r hr
  unfold prU
  by_cases z : u r = nI 0
  · rw [if_pos z, nn_10, ti_10]
    omega
  · have h3 := ti_ne z
    rw [nn_0, ti_0] at h3
    have h4 : (nI 9 * usU u r (-1000003)).toInt = 9 * (usU u r (-1000003)).toInt := by
      rw [nn_9, ti_mul (by rw [ti_9]; omega) (by rw [ti_9]; omega), ti_9]
    have h5 : (nI 9 * usU u r (-1000003) / u r).toInt = (9 * (usU u r (-1000003)).toInt) / (u r).toInt := by
      rw [ti_div (by omega), h4, Int.tdiv_eq_ediv_of_nonneg (by omega)]
    have h6 : 0 ≤ (9 * (usU u r (-1000003)).toInt) / (u r).toInt := Int.ediv_nonneg (by omega) (by omega)
    have h7 : (9 * (usU u r (-1000003)).toInt) / (u r).toInt ≤ 9 * (usU u r (-1000003)).toInt := Int.ediv_le_self _ (by omega)
    rw [if_neg z, ti_add (by rw [h5, nn_1, ti_1]; omega) (by rw [h5, nn_1, ti_1]; omega), h5, nn_1, ti_1]
    omega
theorem pr_ok (hi : IV u c) : PrOk u := fun r hr e => by
  have := pr_bd hi hr
  rw [e, nn_0, ti_0] at this
  omega
theorem rl_pr (h : RL f b u) (hi : IV u c) {r : Nat} (hr : r < 4) : prF f b r = prU u r := by
  have h2 := hi.2.2.1 r hr
  unfold prF prU
  rw [(h.1 r hr).1, (h.2.2.2.2.2.1 r hr).1]
  by_cases z : u r = nI 0
  · rw [if_pos (by rw [z]; decide), if_pos z, nn_10]
  · have h3 := ti_ne z
    rw [nn_0, ti_0] at h3
    rw [if_neg (by rw [fa_lt', ti_1]; omega), if_neg z, nn_1, nn_9]
theorem cw_pos (hi : IV u c) {t r : Nat} (ht : t < uT u) (hr : r < 4) : (u r * u (8 + 12 * t)).toInt = (u r).toInt * (u (8 + 12 * t)).toInt := by
  have h1 := hi.2.2.1 r hr
  have h2 := (hi.2.2.2.1 t ht).1
  have h3 : 0 ≤ (u r).toInt * (u (8 + 12 * t)).toInt := Int.mul_nonneg h1.1 (by omega)
  have h4 : (u r).toInt * (u (8 + 12 * t)).toInt ≤ 999 * 9 := Int.mul_le_mul h1.2 h2.2 (by omega) (by omega)
  exact ti_mul (by omega) (by omega)
theorem ds_ok (hi : IV u c) : DsAll u := fun t ht r hr e q => by
  have h1 := hi.2.2.1 r hr
  have h2 := (hi.2.2.2.1 t ht).1
  have h3 := ti_ne e
  have h4 := cw_pos hi ht hr
  rw [q] at h4
  rw [nn_0, ti_0] at h3 h4
  have := Int.mul_pos (a := (u r).toInt) (b := (u (8 + 12 * t)).toInt) (by omega) (by omega)
  omega
theorem ds_nn (u : Nat → Int32) (t : Nat) : ∀ n, 0 ≤ (dsU u t n).toInt
  | 0 => by rw [dsU, nn_0, ti_0]; omega
  | n + 1 => by
    have ih := ds_nn u t n
    rw [dsU]
    by_cases z : dsS u t n ≤ dsU u t n
    · rw [if_pos z]; exact ih
    · rw [if_neg z]
      rw [fa_le'] at z
      omega
theorem rl_sh (h : RL f b u) (hi : IV u c) {t : Nat} (ht : t < uT u) : ∀ n, n ≤ 4 → shP f b t n = dsU u t n
  | 0, _ => rfl
  | r + 1, hn => by
    have hr : r < 4 := by omega
    have h1 := hi.2.2.1 r hr
    have h2 := (hi.2.2.2.1 t ht).1
    have h4 := cw_pos hi ht hr
    have ih := rl_sh h hi ht r (by omega)
    have hnn := ds_nn u t r
    unfold shP dsU
    rw [ih, (h.1 r hr).1, (h.2.1 t ht).1, (h.2.2.2.2.2.1 r hr).2 t ht]
    unfold dsS
    by_cases z : u r = nI 0
    · rw [if_neg (by rw [fa_lt', h4, z, nn_0, ti_0]; omega), if_pos z, if_pos (by rw [fa_le', nn_0, ti_0]; exact hnn)]
    · have h3 := ti_ne z
      rw [nn_0, ti_0] at h3
      have h5 := Int.mul_pos (a := (u r).toInt) (b := (u (8 + 12 * t)).toInt) (by omega) (by omega)
      rw [if_pos (by rw [fa_lt', h4, ti_0]; exact h5), if_neg z, nn_10000]
      generalize (10000 * usU u r (nI t) / (u r * u (8 + 12 * t))) = x
      by_cases q : x ≤ dsU u t r
      · rw [if_pos q, if_neg (by rw [fa_lt']; rw [fa_le'] at q; omega)]
      · rw [if_neg q, if_pos (by rw [fa_lt']; rw [fa_le'] at q; omega)]
theorem rl_fo (h : RL f b u) (hi : IV u c) (t : Int32) : (fwF f (b + 12) 4 t = -1 ∧ foU u t = -1000003) ∨ ∃ k, k < uD u ∧ u (320 + 5 * k + 4) = t ∧ fwF f (b + 12) 4 t = nI k ∧ foU u t = nI k := by
  have hd := hi.1.2.2.1.2
  have e := rl_D h
  have hs : f (b + 12) 2 = nI (uD u) := by rw [h.2.2.2.1.1]; exact hi.1.2.2.1.1
  unfold fwF foU
  rw [e]
  rcases ffU (p := fun k => cellF f (b + 12) (nI k) 4 = t) (q := fun k => u (320 + 5 * k + 4) = t) (uD u) 0 (fun k _ hk => by
    have e2 : cellF f (b + 12) (nI k) 4 = u (320 + 5 * k + 4) := by
      unfold cellF
      rw [if_pos ⟨⟨nI_ge0 (by omega), by rw [hs, nI_ltI (by omega) (by omega)]; omega⟩, by decide, by decide⟩, nI_clamp (by omega), ← rl_dd h (k := k) (j := 4) (by omega) (by omega)]
      rfl
    rw [e2]) with ⟨h1, h2, -⟩ | ⟨k, -, h2, h3, -, h5, h6⟩
  · exact Or.inl ⟨h1, h2⟩
  · exact Or.inr ⟨k, by omega, h3, h5, h6⟩
theorem rl_ow (h : RL f b u) (hi : IV u c) {k : Nat} (hk : k < uD u) : ∃ q, q < uT u ∧ u (320 + 5 * k + 4) = nI q ∧ owU u k = q ∧ f (b + 13) (k * 6 + 4) = nI q := by
  have h6 := hi.1.1.2
  obtain ⟨q, hq, e⟩ := (hi.2.2.2.2.2.1 k hk).2
  exact ⟨q, hq, e, by unfold owU; rw [e, nI_clamp (by omega)], by rw [rl_dd h hk (by omega), e]⟩
theorem rl_fit (h : RL f b u) (hi : IV u c) {k : Nat} (hk : k < uD u) : fitF f b k ↔ ftU u k 4 := by
  have h6 := hi.1.1.2
  obtain ⟨q, hq, e, eo, ef⟩ := rl_ow h hi hk
  unfold fitF ftU fcU
  rw [ef, nI_clamp (by omega), eo, rl_T h]
  have key : ∀ r, r < 4 → (fitR f b k q r ↔ (u (320 + 5 * k + r) ≤ frU u q r ∧ u (320 + 5 * k + r) + usU u r (-1000003) ≤ u r)) := fun r hr => by
    have hb := us_bd hi hr (nI q)
    have hb2 := us_bd hi hr (-1000003)
    have hu := (hi.2.2.2.2.2.1 k hk).1 r hr
    have hl := (hi.2.2.2.1 q hq).2.2 r hr
    have hc := hi.2.2.1 r hr
    unfold fitR frU
    rw [rl_dd h hk (by omega), ((h.2.1 q hq).2.2.2 r hr).1, (h.2.2.2.2.2.1 r hr).1, (h.2.2.2.2.2.1 r hr).2 q hq, (h.1 r hr).1]
    rw [fa_le', fa_le', fa_le', fa_le', ti_add (by omega) (by omega), ti_add (by omega) (by omega), ti_add (by omega) (by omega), ti_sub (by omega) (by omega)]
    omega
  constructor
  · rintro ⟨-, h2⟩ r hr
    exact (key r hr).mp (h2 r hr)
  · intro h2
    exact ⟨⟨nI_ge0 (by omega), (nI_ltI (by omega) (by omega)).mpr hq⟩, fun r hr => (key r hr).mpr (h2 r hr)⟩
theorem rl_ndP (h : RL f b u) (hi : IV u c) : ∀ n, n ≤ uT u → ((ndP f b n).1 = -1 ∧ (ndU u n).1 = -1000003 ∨ ∃ k, k < uD u ∧ (ndP f b n).1 = nI k ∧ (ndU u n).1 = nI k) ∧ (ndP f b n).2 = (ndU u n).2
  | 0, _ => ⟨Or.inl ⟨rfl, rfl⟩, rfl⟩
  | t + 1, hn => by
    have hd := hi.1.2.2.1.2
    have ih := rl_ndP h hi t (by omega)
    have hsh := rl_sh h hi (t := t) (by omega) 4 (Nat.le_refl _)
    unfold ndP ndU
    rcases rl_fo h hi (nI t) with ⟨e1, e2⟩ | ⟨k, hk, e0, e1, e2⟩
    · rw [if_neg (fun q => by rw [e1] at q; exact m1_ge q.1), if_neg (fun q => q.1 e2)]
      exact ih
    · have hf := rl_fit h hi hk
      have hor : ((ndP f b t).1 < 0 ∨ shP f b t 4 < (ndP f b t).2) ↔ ((ndU u t).1 = -1000003 ∨ dsU u t 4 < (ndU u t).2) := by
        rw [hsh, ih.2]
        rcases ih.1 with ⟨i1, i2⟩ | ⟨j, hj, i1, i2⟩
        · rw [i1, i2]
          exact ⟨fun _ => Or.inl rfl, fun _ => Or.inl m1_lt⟩
        · rw [i1, i2]
          exact ⟨fun z => z.elim (fun z => absurd z (nI_neM (by omega))) Or.inr, fun z => z.elim (fun z => absurd z (nI_neN (by omega))) Or.inr⟩
      rw [e1, e2, nI_clamp (by omega)]
      by_cases z : fitF f b k ∧ ((ndP f b t).1 < 0 ∨ shP f b t 4 < (ndP f b t).2)
      · rw [if_pos ⟨nI_ge0 (by omega), z.1, z.2⟩, if_pos ⟨nI_neN (by omega), hf.mp z.1, hor.mp z.2⟩]
        exact ⟨Or.inr ⟨k, hk, rfl, rfl⟩, hsh⟩
      · rw [if_neg (fun q => z ⟨q.2.1, q.2.2⟩), if_neg (fun q => z ⟨hf.mpr q.2.1, hor.mpr q.2.2⟩)]
        exact ih
theorem rl_nd (h : RL f b u) (hi : IV u c) : (ndF f b = -1 ∧ nxU u = -1000003) ∨ ∃ k, k < uD u ∧ ndF f b = nI k ∧ nxU u = nI k := by
  unfold ndF nxU
  rw [rl_T h]
  exact (rl_ndP h hi _ (Nat.le_refl _)).1
theorem rl_isB (h : RL f b u) (hi : IV u c) {t : Nat} (ht : t < uT u) : isB f b (nI t) ↔ u (8 + 12 * t + 3) = nI 0 := by
  have h6 := hi.1.2.2.2.2
  have e := rl_B h
  unfold isB plF
  rw [e]
  rcases ffU (p := fun k => f (b + 14) k = nI t) (q := fun k => u (440 + k) = nI t) (uB u) 0 (fun k _ hk => by rw [h.2.2.2.2.1 k (by omega)]) with ⟨h1, -, h3⟩ | ⟨k, -, h2, h3, -, h5, -⟩
  · rw [h1]
    rcases hi.2.2.2.2.2.2.2.1 t ht with ⟨-, k, hk, hk2⟩ | ⟨q, -⟩
    · exact absurd hk2 (h3 k (by omega) (by omega))
    · rw [q]
      exact ⟨fun z => absurd z m1_ge, fun z => absurd z.symm n0n1⟩
  · rw [h5]
    rcases hi.2.2.2.2.2.2.2.1 t ht with ⟨q, -⟩ | ⟨-, q⟩
    · exact ⟨fun _ => q, fun _ => nI_ge0 (by omega)⟩
    · exact absurd h3 (q k (by omega))
theorem is_01 (hi : IV u c) {t : Nat} (ht : t < uT u) : u (8 + 12 * t + 3) = nI 0 ∨ u (8 + 12 * t + 3) = nI 1 := (hi.2.2.2.2.2.2.2.1 t ht).elim (fun z => Or.inl z.1) (fun z => Or.inr z.1)
theorem rl_isS (h : RL f b u) (hi : IV u c) {t : Nat} (ht : t < uT u) : isS f b (nI t) ↔ u (8 + 12 * t + 3) = nI 1 := by
  have h6 := hi.1.1.2
  have e := rl_isB h hi ht
  unfold isS
  rw [e, rl_T h]
  constructor
  · rintro ⟨-, z⟩
    exact (is_01 hi ht).resolve_left z
  · intro z
    exact ⟨⟨nI_ge0 (by omega), (nI_ltI (by omega) (by omega)).mpr ht⟩, fun q => n0n1 (q.symm.trans z)⟩
theorem rl_rn (h : RL f b u) (hi : IV u c) {t : Nat} (ht : t < uT u) : ∀ n, n ≤ 4 → rnP f b t n = duU u t n
  | 0, _ => rfl
  | r + 1, hn => by
    unfold rnP duU
    rw [rl_rn h hi ht r (by omega), rl_pr h hi (by omega), ((h.2.1 t ht).2.2.2 r (by omega)).2]
theorem rl_lo (h : RL f b u) {t : Nat} (ht : t < uT u) : ∀ n, n ≤ 4 → lnP f b t n = loU u t n
  | 0, _ => rfl
  | r + 1, hn => by
    unfold lnP loU
    rw [rl_lo h ht r (by omega), ((h.2.1 t ht).2.2.2 r (by omega)).2]
end RLr
