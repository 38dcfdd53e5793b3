/-! ===== the law's rows, read as the model's row ===== -/
def Uw (a g y : Nat → Int32) : Nat → Int32 := fun i => if i < 44 then a i else if i < 80 then nI 0 else if i < 320 then (if (i - 80) % 6 = 0 then g (40 + (i - 80) / 6) else if (i - 80) % 6 = 5 then owV (g ((i - 80) / 6)) else unV (g ((i - 80) / 6)) ((i - 80) % 6 - 1)) else if i < 440 then (if (i - 320) % 5 = 4 then owV (y ((i - 320) / 5)) else unV (y ((i - 320) / 5)) ((i - 320) % 5)) else if i < 446 then a (51 + (i - 440)) else if i = 446 then a 45 else if i = 447 then a 44 else if i = 448 then g 63 else if i = 449 then y 63 else if i = 450 then a 50 else if i = 451 then a 48 else if i = 452 then a 46 else a 47
section Uw
variable {a g y : Nat → Int32}
theorem Uw_a {i : Nat} (h : i < 44) : Uw a g y i = a i := if_pos h
theorem Uw_z {i : Nat} (h : 44 ≤ i) (h2 : i < 80) : Uw a g y i = nI 0 := by
  unfold Uw
  rw [if_neg (by omega), if_pos h2]
theorem Uw_n {k : Nat} (h : k < 40) : Uw a g y (80 + 6 * k) = g (40 + k) := by
  unfold Uw
  rw [if_neg (by omega), if_neg (by omega), if_pos (by omega), if_pos (by omega), show (80 + 6 * k - 80) / 6 = k by omega]
theorem Uw_g {k r : Nat} (h : k < 40) (hr : r < 4) : Uw a g y (80 + 6 * k + (1 + r)) = unV (g k) r := by
  unfold Uw
  rw [if_neg (by omega), if_neg (by omega), if_pos (by omega), if_neg (by omega), if_neg (by omega), show (80 + 6 * k + (1 + r) - 80) / 6 = k by omega, show (80 + 6 * k + (1 + r) - 80) % 6 - 1 = r by omega]
theorem Uw_o {k : Nat} (h : k < 40) : Uw a g y (80 + 6 * k + 5) = owV (g k) := by
  unfold Uw
  rw [if_neg (by omega), if_neg (by omega), if_pos (by omega), if_neg (by omega), if_pos (by omega), show (80 + 6 * k + 5 - 80) / 6 = k by omega]
theorem Uw_d {k r : Nat} (h : k < 24) (hr : r < 4) : Uw a g y (320 + 5 * k + r) = unV (y k) r := by
  unfold Uw
  rw [if_neg (by omega), if_neg (by omega), if_neg (by omega), if_pos (by omega), if_neg (by omega), show (320 + 5 * k + r - 320) / 5 = k by omega, show (320 + 5 * k + r - 320) % 5 = r by omega]
theorem Uw_w {k : Nat} (h : k < 24) : Uw a g y (320 + 5 * k + 4) = owV (y k) := by
  unfold Uw
  rw [if_neg (by omega), if_neg (by omega), if_neg (by omega), if_pos (by omega), if_pos (by omega), show (320 + 5 * k + 4 - 320) / 5 = k by omega]
theorem Uw_q {k : Nat} (h : k < 6) : Uw a g y (440 + k) = a (51 + k) := by
  unfold Uw
  rw [if_neg (by omega), if_neg (by omega), if_neg (by omega), if_neg (by omega), if_pos (by omega), show 440 + k - 440 = k by omega]
theorem Uw_446 : Uw a g y 446 = a 45 := rfl
theorem Uw_447 : Uw a g y 447 = a 44 := rfl
theorem Uw_448 : Uw a g y 448 = g 63 := rfl
theorem Uw_449 : Uw a g y 449 = y 63 := rfl
theorem Uw_450 : Uw a g y 450 = a 50 := rfl
theorem Uw_451 : Uw a g y 451 = a 48 := rfl
theorem Uw_452 : Uw a g y 452 = a 46 := rfl
theorem Uw_453 : Uw a g y 453 = a 47 := rfl
theorem Uw_T : uT (Uw a g y) = aT a := rfl
theorem Uw_G : uG (Uw a g y) = wn g := rfl
theorem Uw_D : uD (Uw a g y) = wn y := rfl
theorem nI_m1 {k : Nat} (h : k < 2 ^ 31) : ¬ nI k = -1 := fun q => by
  have := congrArg Int32.toInt q
  rw [nI_toInt h, ti_m1] at this
  omega
/-! uses, prices, shares alike -/
theorem us_W (r : Nat) (hr : r < 4) {t : Nat} (ht : t < 2 ^ 31) : ∀ n, n ≤ 40 → usW g r (nI t) n = usP (Uw a g y) r (nI t) n
  | 0, _ => rfl
  | n + 1, hn => by
    rw [usW, usP, us_W r hr ht n (by omega)]
    congr 1
    unfold usT
    rw [if_neg (nI_neN ht), Uw_o (by omega), Uw_g (by omega) hr]
    by_cases z : owV (g n) = nI t
    · rw [if_pos (Or.inr z), if_pos z]
    · rw [if_neg (fun q => q.elim (nI_nn ht) z), if_neg z]
theorem us_WN (r : Nat) (hr : r < 4) : ∀ n, n ≤ 40 → usW g r (-1) n = usP (Uw a g y) r (-1000003) n
  | 0, _ => rfl
  | n + 1, hn => by
    rw [usW, usP, us_WN r hr n (by omega)]
    congr 1
    unfold usT
    rw [if_pos (Or.inl m1_n0), if_pos rfl, Uw_g (by omega) hr]
theorem us_L {r : Nat} (hr : r < 4) {t : Nat} (ht : t < 2 ^ 31) (hg : wn g ≤ 40) : usL g r (nI t) = usU (Uw a g y) r (nI t) := us_W r hr ht _ hg
theorem us_N {r : Nat} (hr : r < 4) (hg : wn g ≤ 40) : usL g r (-1) = usU (Uw a g y) r (-1000003) := us_WN r hr _ hg
theorem pr_L {r : Nat} (hr : r < 4) (hg : wn g ≤ 40) : prW a g r = prU (Uw a g y) r := by
  unfold prW prU
  rw [us_N (y := y) (a := a) hr hg, Uw_a (by omega)]
theorem sh_L {c t : Nat} (hi : IV (Uw a g y) c) (ht : t < 3) (hT : t < aT a) : ∀ n, n ≤ 4 → shW a g t n = dsU (Uw a g y) t n
  | 0, _ => rfl
  | r + 1, hn => by
    have hg : wn g ≤ 40 := hi.1.2.1.2
    have hb := hi.2.2.1 r (by omega)
    rw [Uw_a (by omega)] at hb
    have ih := sh_L hi ht hT r (by omega)
    have hnn := ds_nn (Uw a g y) t r
    unfold shW dsU
    rw [ih]
    unfold shS dsS
    rw [us_L (y := y) (a := a) (show r < 4 by omega) (show t < 2 ^ 31 by omega) hg, Uw_a (show r < 44 by omega), Uw_a (show 8 + 12 * t < 44 by omega)]
    by_cases z : a r = nI 0
    · rw [if_pos (by rw [z]; decide), if_pos z, if_pos (by rw [fa_le', nn_0, ti_0]; exact hnn)]
    · have h3 := ti_ne z
      rw [nn_0, ti_0] at h3
      rw [if_neg (by rw [fa_le', nn_0, ti_0]; omega), if_neg z]
theorem ShOk_L {c t : Nat} (hi : IV (Uw a g y) c) (ht : t < 3) (hT : t < aT a) : ShOk a t := fun r hr h => by
  have h4 := cw_pos hi (t := t) (r := r) hT hr
  have h2 := (hi.2.2.2.1 t hT).1
  rw [Uw_a (by omega), Uw_a (by omega)] at h4
  rw [Uw_a (by omega)] at h2
  rw [fa_le', nn_0, ti_0] at h
  intro q
  rw [q, nn_0, ti_0] at h4
  have := Int.mul_pos (a := (a r).toInt) (b := (a (8 + 12 * t)).toInt) (by omega) (by omega)
  omega
end Uw
/-! rows that agree where it matters -/
def RE (w u : Nat → Int32) : Prop := (∀ i, i < 80 ∨ (440 ≤ i ∧ i < 454) → w i = u i) ∧ (∀ k, k < uG u → ∀ j, j < 6 → w (80 + 6 * k + j) = u (80 + 6 * k + j)) ∧ ∀ k, k < uD u → ∀ j, j < 5 → w (320 + 5 * k + j) = u (320 + 5 * k + j)
section RE
variable {f : Nat → Nat → Int32} {b c c' : Nat} {u w : Nat → Int32}
theorem RE.T (h : RE w u) : uT w = uT u := by unfold uT; rw [h.1 _ (by omega)]
theorem RE.G (h : RE w u) : uG w = uG u := by unfold uG; rw [h.1 _ (by omega)]
theorem RE.D (h : RE w u) : uD w = uD u := by unfold uD; rw [h.1 _ (by omega)]
theorem RE.us (h : RE w u) {r : Nat} (hr : r < 4) (t : Int32) : usU w r t = usU u r t := us_cg hr (h.1 _ (by omega)) (fun k j hk hj => h.2.1 k hk j hj)
theorem RL_re (h : RL f b u) (hi : MdD u) (e : RE w u) : RL f b w := by
  refine RL_tab h hi (fun i hi => e.1 i (by omega)) (e.1 _ (by omega)) (fun _ _ _ => rfl) (fun _ _ => rfl) ?_ ⟨?_, fun k hk => ?_⟩ ⟨?_, fun k hk j hj => ?_⟩ (fun r hr => ?_) (fun _ _ _ _ _ => rfl)
  · rw [e.1 _ (by omega)]
    exact h.2.2.2.2.2.2.1.2.2.2.2.1
  · rw [e.1 _ (by omega)]
    exact h.2.2.1.1
  · rw [e.G] at hk
    have q := h.2.2.1.2 k hk
    have := e.2.1 k hk 0 (by omega)
    rw [Nat.add_zero] at this
    refine ⟨by rw [this]; exact q.1, fun j hj => ?_⟩
    rw [e.2.1 k hk (1 + j) (by omega)]
    exact q.2 j hj
  · rw [e.1 _ (by omega)]
    exact h.2.2.2.1.1
  · rw [e.D] at hk
    rw [e.2.2 k hk j hj]
    exact h.2.2.2.1.2 k hk j hj
  · rw [e.us hr]
    refine ⟨(h.2.2.2.2.2.1 r hr).1, fun t ht => ?_⟩
    rw [e.T] at ht
    rw [e.us hr]
    exact (h.2.2.2.2.2.1 r hr).2 t ht
def kaU (u : Nat → Int32) : Nat := (u 451).toInt.toNat + uD u
theorem IV_re (h : IV u c) (e : RE w u) : IV w (kaU w) := by
  have hT := h.2.2.2.2.2.2.2.2
  refine IV_tab h (MdD_cg h.1 (e.1 _ (by omega)) (e.1 _ (by omega)) (e.1 _ (by omega)) (e.1 _ (by omega))) (fun i hi => e.1 i (by omega)) (fun k hk => ?_) (fun k hk => ?_) ?_
  · rw [e.G] at hk
    have := e.2.1 k hk 0 (by omega)
    rw [Nat.add_zero] at this
    rw [this, e.2.1 k hk 5 (by omega), e.T]
    obtain ⟨q1, q2, q3⟩ := h.2.2.2.2.1 k hk
    exact ⟨q1, fun r hr => by rw [e.2.1 k hk (1 + r) (by omega)]; exact q2 r hr, q3⟩
  · rw [e.D] at hk
    rw [e.2.2 k hk 4 (by omega), e.T]
    obtain ⟨q2, q3⟩ := h.2.2.2.2.2.1 k hk
    exact ⟨fun r hr => by rw [e.2.2 k hk r (by omega)]; exact q2 r hr, q3⟩
  · unfold IT at hT ⊢
    unfold kaU
    rw [e.1 446 (by omega), e.1 452 (by omega), e.1 451 (by omega)]
    omega
theorem RE.rf (u : Nat → Int32) : RE u u := ⟨fun _ _ => rfl, fun _ _ _ _ => rfl, fun _ _ _ _ => rfl⟩
theorem IV_ka (h : IV u c) : IV u (kaU u) := IV_re h (RE.rf u)
theorem ka_le (h : IV u c) : kaU u ≤ c := by
  have hT := h.2.2.2.2.2.2.2.2
  unfold IT at hT
  unfold kaU
  omega
end RE
theorem fwR_cg {p q : Nat → Prop} [DecidablePred p] [DecidablePred q] : ∀ n i, (∀ k, i ≤ k → k < i + n → (p k ↔ q k)) → fwR p n i = fwR q n i
  | 0, _, _ => rfl
  | n + 1, i, h => by
    unfold fwR
    by_cases z : p i
    · rw [if_pos z, if_pos ((h i (Nat.le_refl _) (by omega)).mp z)]
    · rw [if_neg z, if_neg (fun y => z ((h i (Nat.le_refl _) (by omega)).mpr y)), fwR_cg n (i + 1) (fun k h1 h2 => h k (by omega) (by omega))]
/-! the next demand alike -/
section Nd
variable {f : Nat → Nat → Int32} {b c : Nat} {a g y : Nat → Int32}
theorem fo_L (h : RL f b (Uw a g y)) (hi : IV (Uw a g y) c) (t : Int32) : fwF f (b + 12) 4 t = foW y t := by
  have hd : wn y ≤ 24 := hi.1.2.2.1.2
  have e : csz f (b + 12) = wn y := rl_D h
  have hs : f (b + 12) 2 = nI (wn y) := by rw [h.2.2.2.1.1]; exact hi.1.2.2.1.1
  unfold fwF foW
  rw [e]
  refine fwR_cg _ _ (fun k _ hk => ?_)
  have e2 : cellF f (b + 12) (nI k) 4 = owV (y k) := by
    unfold cellF
    rw [if_pos ⟨⟨nI_ge0 (by omega), by rw [hs, nI_ltI (by omega) (by omega)]; omega⟩, by decide, by decide⟩, nI_clamp (by omega), ← Uw_w (a := a) (g := g) (y := y) (k := k) (by omega), ← rl_dd h (k := k) (j := 4) (by rw [Uw_D]; omega) (by omega)]
    rfl
  rw [e2]
theorem foW_own {t : Int32} {k : Nat} (h : foW y t = nI k) (hk : k < 2 ^ 31) : owV (y k) = t := by
  have : ∀ n i, fwR (fun k => owV (y k) = t) n i = nI k → i + n < 2 ^ 31 → owV (y k) = t := by
    intro n
    induction n with
    | zero => intro i h; exact absurd h (fun q => nI_m1 hk q.symm)
    | succ n ih =>
      intro i h hn
      unfold fwR at h
      by_cases z : owV (y i) = t
      · rw [if_pos z, nI_eq (by omega) hk] at h
        rw [← h]
        exact z
      · rw [if_neg z] at h
        exact ih (i + 1) h (by omega)
  have hw : wn y < 2 ^ 31 := by
    unfold wn
    have := (y 63).toInt_lt
    have : (y 63).toNatClampNeg = (y 63).toInt.toNat := rfl
    omega
  exact this _ 0 h (by omega)
theorem ft_L {k t : Nat} (h : RL f b (Uw a g y)) (hi : IV (Uw a g y) c) (hk : k < wn y) (ht : t < 3) (hT : t < aT a) (ho : owV (y k) = nI t) : fitF f b k ↔ ftW a g y k t := by
  have hd : wn y ≤ 24 := hi.1.2.2.1.2
  have hg : wn g ≤ 40 := hi.1.2.1.2
  rw [rl_fit h hi (k := k) hk]
  have eo : owU (Uw a g y) k = t := by
    unfold owU
    rw [Uw_w (by omega), ho, nI_clamp (by omega)]
  unfold ftU ftW fcU fcW
  rw [eo]
  have key : ∀ r, r < 4 → ((Uw a g y (320 + 5 * k + r) ≤ frU (Uw a g y) t r ∧ Uw a g y (320 + 5 * k + r) + usU (Uw a g y) r (-1000003) ≤ Uw a g y r) ↔ (¬ a (8 + 12 * t + 4 + r) < usL g r (nI t) + unV (y k) r ∧ ¬ a r < usL g r (-1) + unV (y k) r)) := fun r hr => by
    have hb := us_bd hi hr (nI t)
    have hb2 := us_bd hi hr (-1000003)
    have hu := (hi.2.2.2.2.2.1 k hk).1 r hr
    have hl := (hi.2.2.2.1 t hT).2.2 r hr
    have hc := hi.2.2.1 r hr
    unfold frU
    rw [us_L (y := y) (a := a) hr (show t < 2 ^ 31 by omega) hg, us_N (y := y) (a := a) hr hg]
    rw [Uw_a (show 8 + 12 * t + (4 + r) < 44 by omega), show 8 + 12 * t + (4 + r) = 8 + 12 * t + 4 + r by omega] at hl ⊢
    rw [Uw_a (show r < 44 by omega)] at hc ⊢
    rw [Uw_d (by omega) hr] at hu ⊢
    rw [fa_le', fa_le', fa_lt', fa_lt', ti_add (by omega) (by omega), ti_add (by omega) (by omega), ti_add (by omega) (by omega), ti_sub (by omega) (by omega)]
    omega
  exact ⟨fun z r hr => (key r hr).mp (z r hr), fun z r hr => (key r hr).mpr (z r hr)⟩
theorem nd_P (h : RL f b (Uw a g y)) (hi : IV (Uw a g y) c) (h3 : aT a ≤ 3) : ∀ n, n ≤ aT a → ndP f b n = nxP a g y n
  | 0, _ => rfl
  | t + 1, hn => by
    have hd : wn y ≤ 24 := hi.1.2.2.1.2
    have ih := nd_P h hi h3 t (by omega)
    have hsh : shP f b t 4 = shW a g t 4 := (rl_sh h hi (t := t) (by rw [Uw_T]; omega) 4 (Nat.le_refl _)).trans (sh_L hi (by omega) (by omega) 4 (Nat.le_refl _)).symm
    unfold ndP nxP
    rw [fo_L h hi, hsh, ih]
    rcases foW_cases y (nI t) with e | ⟨k, hk, e⟩
    · rw [if_neg (fun q => by rw [e] at q; exact m1_ge q.1), if_neg (fun q => q.1 (by rw [e]; exact m1_n0))]
    · have ho := foW_own e (by omega)
      have hf := ft_L h hi hk (t := t) (by omega) (by omega) ho
      rw [e, nI_clamp (by omega)]
      by_cases z : fitF f b k ∧ ((nxP a g y t).1 < 0 ∨ shW a g t 4 < (nxP a g y t).2)
      · rw [if_pos ⟨nI_ge0 (by omega), z.1, z.2⟩, if_pos ⟨nI_nn (by omega), hf.mp z.1, z.2.elim (fun q => Or.inl q) (fun q => Or.inr (Int32.not_le.mpr q))⟩]
      · rw [if_neg (fun q => z ⟨q.2.1, q.2.2⟩), if_neg (fun q => z ⟨hf.mpr q.2.1, q.2.2.elim (fun q => Or.inl q) (fun q => Or.inr (Int32.not_le.mp q))⟩)]
theorem nd_L (h : RL f b (Uw a g y)) (hi : IV (Uw a g y) c) (h3 : aT a ≤ 3) : ndF f b = nxW a g y := by
  unfold ndF nxW
  rw [rl_T h, Uw_T, nd_P h hi h3 _ (Nat.le_refl _)]
theorem nx_cases (a g y : Nat → Int32) : nxW a g y = -1 ∨ ∃ k, k < wn y ∧ nxW a g y = nI k := by
  unfold nxW
  generalize aT a = n
  induction n with
  | zero => exact Or.inl rfl
  | succ t ih =>
    unfold nxP
    rcases foW_cases y (nI t) with e | ⟨k, hk, e⟩
    · rw [if_neg (fun q => q.1 (by rw [e]; exact m1_n0))]
      exact ih
    · split
      · exact Or.inr ⟨k, hk, e⟩
      · exact ih
end Nd
/-! ===== what holds between the law's rows and the class ===== -/
def LX (a g : Nat → Int32) : Prop := aT a ≤ 3 ∧ a 45 = nI 0 ∧ a 47 = nI 0 ∧ a 50 = nI 0 ∧ (wn g : Int) ≤ (a 48).toInt ∧ (∀ j k, j < k → k < wn g → (g (40 + j)).toInt < (g (40 + k)).toInt) ∧ ∀ k, k < wn g → (g (40 + k)).toInt < (a 48).toInt
def UM (M : Mem) : Nat → Int32 := Uw (mI M 174) (mI M 175) (mI M 176)
def kaM (M : Mem) : Nat := kaU (UM M)
def PI_ (M : Mem) : Prop := WB M ∧ RL (mI M) 20 (UM M) ∧ IV (UM M) (kaM M) ∧ LX (mI M 174) (mI M 175) ∧ 177 ≤ mN M ∧ kaM M ≤ 16
section PI
variable {M : Mem}
theorem kd_L {x : Nat} (h : 174 ≤ x) (h2 : x < 225) : kd x = (1, 64) := by
  have : ∀ j, j < 51 → kd (174 + j) = (1, 64) := by decide +kernel
  have h3 := this (x - 174) (by omega)
  rw [show 174 + (x - 174) = x by omega] at h3
  exact h3
theorem PI_.lw (h : PI_ M) {x : Nat} (h1 : 174 ≤ x) (h2 : x < 177) : Lw M x := ⟨by have := h.2.2.2.2.1; omega, kd_L h1 (by omega)⟩
theorem PI_.G40 (h : PI_ M) : WnD (mI M 175) 40 := h.2.2.1.1.2.1
theorem PI_.D24 (h : PI_ M) : WnD (mI M 176) 24 := h.2.2.1.1.2.2.1
theorem PI_.D40 (h : PI_ M) : WnD (mI M 176) 40 := ⟨h.D24.1, by have := h.D24.2; omega⟩
theorem PI_.A (h : PI_ M) : ATD (mI M 174) := ⟨h.2.2.1.1.1.1, h.2.2.2.1.1⟩
theorem PI_.T3 (h : PI_ M) : aT (mI M 174) ≤ 3 := h.2.2.2.1.1
theorem PI_.GD (h : PI_ M) : wn (mI M 175) + wn (mI M 176) ≤ kaM M := by
  have := h.2.2.2.1.2.2.2.2.1
  unfold kaM kaU UM
  rw [Uw_451, Uw_D]
  omega
theorem PI_.G21 (h : PI_ M) : WnD (mI M 175) 21 := ⟨h.G40.1, by have := h.GD; have := h.2.2.2.2.2; omega⟩
theorem PI_.G22 (h : PI_ M) : WnD (mI M 175) 22 := ⟨h.G40.1, by have := h.GD; have := h.2.2.2.2.2; omega⟩
theorem PI_.Sh (h : PI_ M) : ∀ t, t < aT (mI M 174) → ShOk (mI M 174) t := fun t ht => ShOk_L h.2.2.1 (by have := h.T3; omega) ht
end PI
