/-! ===== ruins ===== -/
/-- what is known of a tenant's ruin after k ticks -/
def rR (u : Nat → Int32) (t : Nat) : Nat → Int32
  | 0 => if u (8 + 12 * t + 3) = nI 0 then 0 else -1000003
  | k + 1 => if rR u t k = -1000003 ∧ tkN_ u (k + 1) (8 + 12 * t + 3) = nI 0 then nI (k + 1) else rR u t k
theorem fcnt_split {p q r : Nat → Prop} [DecidablePred p] [DecidablePred q] [DecidablePred r] : ∀ n, (∀ k, k < n → (p k ↔ (q k ∨ r k)) ∧ ¬ (q k ∧ r k)) → fcnt p n = fcnt q n + fcnt r n
  | 0, _ => rfl
  | n + 1, h => by
    have ih := fcnt_split (p := p) (q := q) (r := r) n (fun k hk => h k (by omega))
    obtain ⟨h1, h2⟩ := h n (by omega)
    rw [fcnt, fcnt, fcnt]
    by_cases zq : q n
    · have zr : ¬ r n := fun z => h2 ⟨zq, z⟩
      rw [if_pos (h1.mpr (Or.inl zq)), if_pos zq, if_neg zr]
      omega
    · by_cases zr : r n
      · rw [if_pos (h1.mpr (Or.inr zr)), if_neg zq, if_pos zr]
        omega
      · rw [if_neg (fun z => (h1.mp z).elim zq zr), if_neg zq, if_neg zr]
        exact ih
theorem fcnt_0 {p : Nat → Prop} [DecidablePred p] : ∀ n, fcnt p n = 0 → ∀ k, k < n → ¬ p k
  | 0, _, k, hk => by omega
  | n + 1, h, k, hk => by
    rw [fcnt] at h
    by_cases z : p n
    · rw [if_pos z] at h
      omega
    · rw [if_neg z] at h
      by_cases e : k = n
      · rw [e]
        exact z
      · exact fcnt_0 n h k (by omega)
theorem rR_fix {u : Nat → Int32} {t k : Nat} (h : ¬ rR u t k = -1000003) : ∀ m, rR u t (k + m) = rR u t k
  | 0 => rfl
  | m + 1 => by
    have ih := rR_fix h m
    rw [show k + (m + 1) = (k + m) + 1 by omega, rR, if_neg (fun q => h (by rw [← ih]; exact q.1))]
    exact ih
section Ru
variable {f : Nat → Nat → Int32} {b c : Nat} {u : Nat → Int32}
theorem isB_no (h : RL f b u) (hi : IV u c) {t : Nat} (ht : uT u ≤ t) (ht6 : t < 6) : ¬ isB f b (nI t) := by
  have h6 := hi.1.2.2.2.2
  have m1 := hi.1.1.2
  unfold isB plF
  rw [rl_B h]
  rcases ffU (p := fun k => f (b + 14) k = nI t) (q := fun k => u (440 + k) = nI t) (uB u) 0 (fun k _ hk => by rw [h.2.2.2.2.1 k (by omega)]) with ⟨h1, -, -⟩ | ⟨k, -, h2, h3, -, -, -⟩
  · rw [h1]
    exact m1_ge
  · obtain ⟨q, hq, e⟩ := hi.2.2.2.2.2.2.1.1 k (by omega)
    rw [e, nI_eq (by omega) (by omega)] at h3
    omega
def rK (u : Nat → Int32) (k : Nat) : Nat := fcnt (fun t => t < uT u ∧ rR u t k = -1000003) 6
theorem rK_6 (u : Nat → Int32) (k : Nat) : rK u k ≤ 6 := fcnt_le _ 6
theorem fr_go (hi0 : IV u c) (ht0 : (u 446).toInt ≤ 9999) : ∀ n (f : Nat → Nat → Int32) k, k + n ≤ 200 → RL f 35 (tkN_ u k) → IV (tkN_ u k) c → (tkN_ u k 446).toInt = (u 446).toInt + k → uT (tkN_ u k) = uT u → (∀ t, t < uT u → f 173 t = rR u t k) → (∀ t, uT u ≤ t → t < 6 → f 173 t = -1000003) → ∀ t, t < uT u → fr2 n f (nI (rK u k)) (k + 1) 173 t = rR u t (k + n)
  | 0, f, k, _, _, _, _, _, h1, _, t, ht => h1 t ht
  | n + 1, f, k, hk, h, hi, hT, eT, h1, h2, t, ht => by
    have m1 := hi0.1.1.2
    have hk6 := rK_6 u k
    unfold fr2
    by_cases z : 0 < rK u k
    · rw [if_pos (by rw [fa_lt', ti_0, nI_toInt (by omega)]; omega)]
      obtain ⟨a1, a2, a3, a4, -⟩ := RL_tk h hi (by omega)
      have e173 : ∀ y, tkF f 35 173 y = f 173 y := fun y => tkF_o (by omega)
      have r1 : RL (nrG (tkF f 35) (nI (k + 1)) 6) 35 (tkN_ u (k + 1)) := RL_fg a1 (fun i y hi => by unfold nrG; rw [if_neg (by omega)])
      have eB : ∀ t, t < uT u → (isB (tkF f 35) 35 (nI t) ↔ tkN_ u (k + 1) (8 + 12 * t + 3) = nI 0) := fun t ht => rl_isB a1 a2 (by rw [a4, eT]; exact ht)
      have eN : ∀ t, uT u ≤ t → t < 6 → ¬ isB (tkF f 35) 35 (nI t) := fun t h1 h2 => isB_no a1 a2 (by rw [a4, eT]; exact h1) h2
      have hsp : rK u k = nrC (tkF f 35) 6 + rK u (k + 1) := by
        unfold rK nrC
        refine fcnt_split 6 (fun q hq => ?_)
        unfold nrP
        rw [e173]
        by_cases zt : q < uT u
        · rw [h1 q zt, eB q zt, rR]
          by_cases y1 : rR u q k = -1000003
          · by_cases y2 : tkN_ u (k + 1) (8 + 12 * q + 3) = nI 0
            · rw [if_pos ⟨y1, y2⟩]
              refine ⟨⟨fun _ => Or.inl ⟨y1, y2⟩, fun _ => ⟨zt, y1⟩⟩, fun w => nI_neN (by omega) w.2.2⟩
            · rw [if_neg (fun w => y2 w.2)]
              exact ⟨⟨fun w => Or.inr w, fun _ => ⟨zt, y1⟩⟩, fun w => y2 w.1.2⟩
          · rw [if_neg (fun w => y1 w.1)]
            exact ⟨⟨fun w => absurd w.2 y1, fun w => w.elim (fun w => absurd w.1 y1) (fun w => w)⟩, fun w => y1 w.1.1⟩
        · have := eN q (by omega) hq
          exact ⟨⟨fun w => absurd w.1 zt, fun w => w.elim (fun w => absurd w.2 this) (fun w => absurd w.1 zt)⟩, fun w => zt w.2.1⟩
      have e3 : nI (rK u k) - nI (nrC (tkF f 35) 6) = nI (rK u (k + 1)) := by
        rw [hsp, pk_sub (by omega)]
        congr 1
        omega
      rw [e3, show k + (n + 1) = (k + 1) + n by omega]
      refine fr_go hi0 ht0 n _ (k + 1) (by omega) r1 a2 (by rw [show tkN_ u (k + 1) = tkU (tkN_ u k) from rfl, a3, hT]; omega) (a4.trans eT) (fun t ht => ?_) (fun t h3 h4 => ?_) t ht
      · unfold nrG
        rw [e173, h1 t ht, rR]
        by_cases y1 : rR u t k = -1000003 ∧ tkN_ u (k + 1) (8 + 12 * t + 3) = nI 0
        · rw [if_pos y1, if_pos ⟨rfl, by omega, y1.1, (eB t ht).mpr y1.2⟩]
        · rw [if_neg y1, if_neg (fun w => y1 ⟨w.2.2.1, (eB t ht).mp w.2.2.2⟩)]
      · unfold nrG
        rw [e173, if_neg (fun w => eN t h3 h4 w.2.2.2)]
        exact h2 t h3 h4
    · rw [if_neg (by rw [fa_lt', ti_0, nI_toInt (by omega)]; omega), h1 t ht]
      have hne : ¬ rR u t k = -1000003 := fun w => fcnt_0 6 (show rK u k = 0 by omega) t (by omega) ⟨ht, w⟩
      exact (rR_fix hne (n + 1)).symm
theorem fr_rR (h : RL f 20 u) (hi : IV u c) (ht0 : (u 446).toInt ≤ 9999) {t : Nat} (ht : t < uT u) : frF f 173 t = rR u t 200 := by
  have m1 := hi.1.1.2
  have hcp : RL (cfF f 35 20) 35 u := RL_cp h hi.1
  have h1 : RL (fr1 (cfF f 35 20) 6) 35 u := RL_fg hcp (fun i y hi => by unfold fr1; rw [if_neg (by omega)])
  have e0 : frC (cfF f 35 20) 6 = rK u 0 := by
    unfold frC rK
    refine fcnt_cg 6 (fun q hq => ?_)
    unfold frP
    rw [rl_T hcp, rR]
    by_cases zt : q < uT u
    · rw [rl_isB hcp hi zt]
      by_cases z : u (8 + 12 * q + 3) = nI 0
      · rw [if_pos z]
        exact ⟨fun w => absurd z w.1, fun w => absurd w.2 (nI_neN (k := 0) (by omega))⟩
      · rw [if_neg z]
        exact ⟨fun w => ⟨zt, rfl⟩, fun w => ⟨z, zt⟩⟩
    · exact ⟨fun w => absurd w.2 zt, fun w => absurd w.1 zt⟩
  unfold frF
  rw [e0]
  refine fr_go hi ht0 200 _ 0 (by omega) h1 hi (by rw [tkN_]; omega) rfl (fun t ht => ?_) (fun t h3 h4 => ?_) t ht
  · unfold fr1
    rw [if_pos ⟨rfl, by omega⟩, rR]
    by_cases z : u (8 + 12 * t + 3) = nI 0
    · rw [if_pos ((rl_isB hcp hi ht).mpr z), if_pos z]
    · rw [if_neg (fun w => z ((rl_isB hcp hi ht).mp w)), if_neg z]
  · unfold fr1
    rw [if_pos ⟨rfl, h4⟩, if_neg (isB_no hcp hi h3 h4)]
theorem ruL_eq {t : Nat} : ∀ m n n', n ≤ n' → n' ≤ n + m → (∀ j, n ≤ j → j < n' → ruC u t j) → (n' < n + m → ¬ ruC u t n') → ruL u t m n = n'
  | 0, n, n', h1, h2, _, _ => by
    rw [ruL]
    omega
  | m + 1, n, n', h1, h2, h3, h4 => by
    rw [ruL]
    by_cases z : n = n'
    · rw [if_neg (by rw [z]; exact h4 (by omega)), z]
    · rw [if_pos (h3 n (Nat.le_refl _) (by omega))]
      exact ruL_eq m (n + 1) n' (by omega) (by omega) (fun j a1 a2 => h3 j (by omega) a2) (fun a => h4 (by omega))
theorem rR_ru (h : RL f b u) (hi : IV u c) (ht0 : (u 446).toInt ≤ 9999) {t : Nat} (ht : t < uT u) (hs : u (8 + 12 * t + 3) = nI 1) : ∀ k, k ≤ 200 → (rR u t k = -1000003 ∧ ∀ j, j ≤ k → ruC u t j) ∨ ∃ n, 1 ≤ n ∧ n ≤ k ∧ rR u t k = nI n ∧ (∀ j, j < n → ruC u t j) ∧ ¬ tkN_ u n (8 + 12 * t + 2) = u (8 + 12 * t + 2)
  | 0, _ => by
    refine Or.inl ⟨?_, fun j hj => ?_⟩
    · rw [rR, hs, if_neg (fun w => n0n1 w.symm)]
    · obtain rfl : j = 0 := by omega
      exact ⟨hs, rfl⟩
  | k + 1, hk => by
    rcases rR_ru h hi ht0 ht hs k (by omega) with ⟨a1, a2⟩ | ⟨n, a1, a2, a3, a4, a5⟩
    · obtain ⟨b1, b2, b3, b4⟩ := RL_tI h hi (by omega) k (by omega)
      obtain ⟨-, -, -, -, hv⟩ := RL_tk b1 b2 (by omega)
      have hc := a2 k (Nat.le_refl _)
      rcases hv t (by omega) hc.1 with ⟨c1, c2⟩ | ⟨c1, c2⟩
      · refine Or.inl ⟨?_, fun j hj => ?_⟩
        · rw [rR, if_neg (fun w => n0n1 (w.2.symm.trans c1))]
          exact a1
        · by_cases z : j = k + 1
          · rw [z]
            exact ⟨c1, c2.trans hc.2⟩
          · exact a2 j (by omega)
      · refine Or.inr ⟨k + 1, by omega, Nat.le_refl _, ?_, fun j hj => a2 j (by omega), fun e => ?_⟩
        · rw [rR, if_pos ⟨a1, c1⟩]
        · have e2 : tkU (tkN_ u k) (8 + 12 * t + 2) = u (8 + 12 * t + 2) := e
          rw [e2] at c2
          have := (hi.2.2.2.1 t ht).2.1
          omega
    · refine Or.inr ⟨n, a1, by omega, ?_, a4, a5⟩
      rw [rR, if_neg (fun w => nI_neN (by omega) (a3.symm.trans w.1))]
      exact a3
theorem rR_uru (h : RL f b u) (hi : IV u c) (ht0 : (u 446).toInt ≤ 9999) {t : Nat} (ht : t < uT u) : rR u t 200 = if u (8 + 12 * t + 3) = nI 0 then nI 0 else ruQ u t := by
  rcases is_01 hi ht with hs | hs
  · rw [if_pos hs]
    have e0 : rR u t 0 = 0 := by rw [rR, if_pos hs]
    have := rR_fix (u := u) (t := t) (k := 0) (by rw [e0]; exact nI_neN (k := 0) (by omega)) 200
    rw [show 0 + 200 = 200 from rfl, e0] at this
    exact this
  · rw [if_neg (fun w => n0n1 (w.symm.trans hs))]
    unfold ruQ
    rcases rR_ru h hi ht0 ht hs 200 (Nat.le_refl _) with ⟨a1, a2⟩ | ⟨n, a1, a2, a3, a4, a5⟩
    · have e := ruL_eq (u := u) (t := t) 200 0 200 (by omega) (by omega) (fun j _ hj => a2 j (by omega)) (fun w => by omega)
      rw [e, if_pos (a2 200 (Nat.le_refl _)).2]
      exact a1
    · have e := ruL_eq (u := u) (t := t) 200 0 n (by omega) (by omega) (fun j _ hj => a4 j (by omega)) (fun w q => a5 q.2)
      rw [e, if_neg a5]
      exact a3
theorem fr_uru (h : RL f 20 u) (hi : IV u c) (ht0 : (u 446).toInt ≤ 9999) {t : Nat} (ht : t < uT u) : frF f 173 t = uruR u (nI t) := by
  have m1 := hi.1.1.2
  unfold uruR uV
  rw [if_pos ⟨nI_ge0 (by omega), (nI_ltI (by omega) (by omega)).mpr ht⟩, nI_clamp (by omega), fr_rR h hi ht0 ht, rR_uru h hi ht0 ht]
end Ru
section St
variable {c : Nat} {M : Mem}
theorem st_ruin (h : RR c M) (t : Int32) : ruR (mI M) t = uruR (mI (ruM M t) 175) t ∧ RR (c + 1) (mW (ruM M t) (uruM (mI (ruM M t)) t)) := by
  have hX := h.2.1
  have eT := rl_T hX.1
  have e5 : mI (ruM M t) 175 = mI M 175 := by
    unfold ruM
    by_cases q : vT (mI M) t
    · rw [if_pos q]
      exact funext fun y => frF_o (by omega) (by omega)
    · rw [if_neg q]
  rw [e5]
  refine ⟨?_, ?_⟩
  · unfold ruR
    by_cases q : uV (mI M 175) t
    · obtain ⟨k, e, hk, ek⟩ := uVk hX.2.1.1 q
      have q' : vT (mI M) t := by rw [vT_uV h]; exact q
      rw [if_pos q', ek, e]
      exact fr_uru hX.1 hX.2.1 hX.2.2 hk
    · have q' : ¬ vT (mI M) t := by rw [vT_uV h]; exact q
      rw [if_neg q']
      unfold uruR
      rw [if_neg q]
  · have hu : ∀ (g : Nat → Nat → Int32) x y, x ≠ 177 → uruM g t x y = g x y := fun g x y hx => by
      unfold uruM
      by_cases q : uV (g 175) t ∧ ¬ g 175 (8 + 12 * t.toNatClampNeg + 3) = nI 0
      · rw [if_pos q]
        unfold asG
        rw [rw_ne hx]
      · rw [if_neg q]
    unfold ruM
    by_cases q : vT (mI M) t
    · rw [if_pos q, mW_mW]
      refine RR_scr h (fun x y z => ?_) (LedD_cg (frF_D h.1.2.1) (fun y => ?_) (fun y => ?_) (fun y => ?_))
      · rw [hu _ _ _ (by unfold KC at z; omega)]
        exact frF_o (by unfold KC at z; omega) (by unfold KC at z; omega)
      · rw [hu _ _ _ (by omega), mI_mW]
      · rw [hu _ _ _ (by omega), mI_mW]
      · rw [hu _ _ _ (by omega), mI_mW]
    · rw [if_neg q]
      exact RR_scr h (fun x y z => hu _ _ _ (by unfold KC at z; omega)) (LedD_cg h.1.2.2.1 (fun y => hu _ _ _ (by omega)) (fun y => hu _ _ _ (by omega)) (fun y => hu _ _ _ (by omega)))
end St
