section Tl
variable {f : Nat → Nat → Int32} {b c : Nat} {u : Nat → Int32}
theorem rl_sm (h : RL f b u) (hi : IV u c) {r i : Nat} (hr : r < 4) (hi7 : i = 7 ∨ i = 8) : ∀ n, n ≤ 6 → smP f (b + i) r n = smU u r (4 * (i - 6)) (min n (uT u))
  | 0, _ => by rw [Nat.zero_min]; rfl
  | n + 1, hn => by
    have m1 := hi.1.1.2
    have ih := rl_sm h hi hr hi7 n (by omega)
    rw [smP, ih]
    by_cases z : n < uT u
    · rw [show min n (uT u) = n by omega, show min (n + 1) (uT u) = n + 1 by omega, smU]
      have q := (h.2.1 n z).2.2.2 r hr
      rcases hi7 with e | e
      · subst e
        rw [show (4 * (7 - 6) + r) = 4 + r by omega, q.1]
      · subst e
        rw [show (4 * (8 - 6) + r) = 8 + r by omega, q.2]
    · have q := (h.2.2.2.2.2.2.2 n (by omega) (by omega)).2.2 r hr
      rw [show min n (uT u) = uT u by omega, show min (n + 1) (uT u) = uT u by omega]
      have e0 : f (b + i) (n * 4 + r) = 0 := by
        rcases hi7 with e | e
        · rw [e]; exact q.1
        · rw [e]; exact q.2.1
      rw [e0, Int32.add_zero]
theorem rl_cg (h : RL f b u) (hi : IV u c) (t : Int32) : ctF f (b + 10) t = gcU u t (uG u) := by
  have m2 := hi.1.2.1.2
  have hs : f (b + 10) 2 = nI (uG u) := by rw [h.2.2.1.1]; exact hi.1.2.1.1
  unfold ctF gcU
  rw [rl_G h]
  refine fcnt_cg _ (fun k hk => ?_)
  have e2 : cellF f (b + 10) (nI k) 4 = u (80 + 6 * k + 5) := by
    unfold cellF
    rw [if_pos ⟨⟨nI_ge0 (by omega), by rw [hs, nI_ltI (by omega) (by omega)]; omega⟩, by decide, by decide⟩, nI_clamp (by omega), ← rl_gg h (k := k) (j := 4) (by omega) (by omega)]
    rfl
  rw [e2]
theorem rl_cd (h : RL f b u) (hi : IV u c) (t : Int32) : ctF f (b + 12) t = dcU u t (uD u) := by
  have m2 := hi.1.2.2.1.2
  have hs : f (b + 12) 2 = nI (uD u) := by rw [h.2.2.2.1.1]; exact hi.1.2.2.1.1
  unfold ctF dcU
  rw [rl_D h]
  refine fcnt_cg _ (fun k hk => ?_)
  have e2 : cellF f (b + 12) (nI k) 4 = u (320 + 5 * k + 4) := by
    unfold cellF
    rw [if_pos ⟨⟨nI_ge0 (by omega), by rw [hs, nI_ltI (by omega) (by omega)]; omega⟩, by decide, by decide⟩, nI_clamp (by omega), ← rl_dd h (k := k) (j := 4) (by omega) (by omega)]
    rfl
  rw [e2]
theorem rl_po (h : RL f b u) (hi : IV u c) (n : Int32) : (fwF f (b + 10) 5 n = -1 ∧ poU u n = -1000003 ∧ ∀ k, k < uG u → ¬ u (80 + 6 * k) = n) ∨ ∃ k, k < uG u ∧ u (80 + 6 * k) = n ∧ fwF f (b + 10) 5 n = nI k ∧ poU u n = nI k := by
  have m2 := hi.1.2.1.2
  have hs : f (b + 10) 2 = nI (uG u) := by rw [h.2.2.1.1]; exact hi.1.2.1.1
  unfold fwF poU
  rw [rl_G h]
  rcases ffU (p := fun k => cellF f (b + 10) (nI k) 5 = n) (q := fun k => u (80 + 6 * k) = n) (uG u) 0 (fun k _ hk => by
    have e2 : cellF f (b + 10) (nI k) 5 = u (80 + 6 * k) := by
      unfold cellF
      rw [if_pos ⟨⟨nI_ge0 (by omega), by rw [hs, nI_ltI (by omega) (by omega)]; omega⟩, by decide, by decide⟩, nI_clamp (by omega), ← (h.2.2.1.2 k (by omega)).1]
      rfl
    rw [e2]) with ⟨h1, h2, h3⟩ | ⟨k, -, h2, h3, -, h5, h6⟩
  · exact Or.inl ⟨h1, h2, fun k hk => h3 k (by omega) (by omega)⟩
  · exact Or.inr ⟨k, by omega, h3, h5, h6⟩
theorem rl_row (h : RL f b u) (hi : IV u c) (n : Int32) : (rowF f (b + 10) n = -1 ∧ poU u n = -1000003) ∨ ∃ k, k < uG u ∧ u (80 + 6 * k) = n ∧ rowF f (b + 10) n = nI k ∧ poU u n = nI k := by
  unfold rowF
  rcases rl_po h hi n with ⟨e1, e2, e3⟩ | ⟨k, hk, e0, e1, e2⟩
  · refine Or.inl ⟨?_, e2⟩
    rw [e1]
    by_cases z : n < 0
    · rw [if_pos z]
    · rw [if_neg z]
  · have q := (hi.2.2.2.2.1 k hk).1
    rw [e0] at q
    rw [if_neg (by rw [fa_lt', ti_0]; omega)]
    exact Or.inr ⟨k, hk, e0, e1, e2⟩
theorem rl_qp (h : RL f b u) (hi : IV u c) {t : Nat} (ht : t < uT u) : (if isB f b (nI t) then plF f b (nI t) else -1000003) = qpU u (nI t) := by
  have h6 := hi.1.2.2.2.2
  have e := rl_B h
  unfold isB plF qpU
  rw [e]
  rcases ffU (p := fun k => f (b + 14) k = nI t) (q := fun k => u (440 + k) = nI t) (uB u) 0 (fun k _ hk => by rw [h.2.2.2.2.1 k (by omega)]) with ⟨h1, h2, -⟩ | ⟨k, -, h2, -, -, h5, h7⟩
  · rw [h1, h2, if_neg m1_ge]
  · rw [h5, h7, if_pos (nI_ge0 (by omega))]
theorem rl_ex (h : RL f 20 u) {t n : Nat} (ht : t < uT u) (hn : n < 4) : exV f t n = uwF u t n := by
  have q := (h.2.1 t ht).2.2.2 n hn
  have q2 : f 29 (t * 4 + n) = usU u n (nI t) := (h.2.2.2.2.2.1 n hn).2 t ht
  have q3 : f 27 (t * 4 + n) = u (8 + 12 * t + (4 + n)) := q.1
  have q4 : f 28 (t * 4 + n) = u (8 + 12 * t + (8 + n)) := q.2
  unfold exV uwF frU minJ lsU
  rw [q2, q3, q4]
  generalize u (8 + 12 * t + (4 + n)) - usU u n (nI t) = x
  generalize u (8 + 12 * t + (4 + n)) - u (8 + 12 * t + (8 + n)) = y
  by_cases z : y < x
  · rw [if_pos z, if_pos (by rw [fa_lt'] at z; rw [fa_le']; omega)]
  · rw [if_neg z]
    by_cases z2 : y ≤ x
    · rw [if_pos z2]
      rw [fa_lt'] at z
      rw [fa_le'] at z2
      exact Int32.toInt_inj.mp (by omega)
    · rw [if_neg z2]
theorem rl_wt (h : RL f 20 u) (hi : IV u c) {t r : Nat} (ht : t < uT u) (hr : r < 4) : ∀ n, n ≤ 4 → wtP f t r n = uwP u t r n
  | 0, _ => rfl
  | n + 1, hn => by
    have p2 := pr_bd hi hr
    rw [wtP, uwP, rl_wt h hi ht hr n (by omega)]
    by_cases z : n = r
    · rw [if_pos z, if_pos z, nn_0, Int32.add_zero]
    · rw [if_neg z, if_neg z, rl_ex h ht (by omega)]
      unfold convF
      rw [rl_pr h hi (r := n) (by omega), rl_pr h hi hr, if_neg (by rw [fa_lt', ti_1]; omega)]
end Tl
section Tq
variable {f : Nat → Nat → Int32} {c : Nat} {u : Nat → Int32}
theorem rq_resource (h : RL f 20 u) (hi : IV u c) (r w : Int32) : rcR f r w = urcR u r w := by
  unfold rcR urcR
  by_cases q : vR r
  · obtain ⟨k, -, hk4, ek⟩ := vRk q
    rw [if_pos q, if_pos q, ek]
    have m1 := hi.1.1.2
    have a0 := h.1 k hk4
    have a1 : f 21 k = u k := a0.1
    have a2 : f 22 k = u (4 + k) := a0.2
    have a3 : f 23 k = usU u k (-1000003) := (h.2.2.2.2.2.1 k hk4).1
    have a4 : smP f 27 k 6 = smU u k 4 (uT u) := by
      have := rl_sm h hi hk4 (i := 7) (Or.inl rfl) 6 (by omega)
      rw [show min 6 (uT u) = uT u by omega] at this
      exact this
    have a5 : smP f 28 k 6 = smU u k 8 (uT u) := by
      have := rl_sm h hi hk4 (i := 8) (Or.inr rfl) 6 (by omega)
      rw [show min 6 (uT u) = uT u by omega] at this
      exact this
    unfold rcQ urcQ
    rw [a1, a2, a3, rl_pr h hi hk4, a4, a5]
  · rw [if_neg q, if_neg q]
theorem rq_tenant (h : RL f 20 u) (hi : IV u c) (t w : Int32) : tnR f t w = utnR u t w := by
  unfold tnR utnR vT uV
  rw [rl_T h]
  by_cases q : 0 ≤ t ∧ t < nI (uT u)
  · obtain ⟨k, -, hk6, ek⟩ := uVk hi.1 q
    rw [if_pos q, if_pos q, ek]
    have a0 := h.2.1 k hk6
    have a1 : f 24 k = u (8 + 12 * k) := a0.1
    have a2 : f 25 k = u (8 + 12 * k + 1) := a0.2.1
    have a3 : f 26 k = u (8 + 12 * k + 2) := a0.2.2.1
    have a4 : (if isB f 20 (nI k) then (0 : Int32) else 1) = u (8 + 12 * k + 3) := by
      have e := rl_isB h hi hk6
      rcases is_01 hi hk6 with z | z
      · rw [if_pos (e.mpr z), z, nn_0]
      · rw [if_neg (fun w => n0n1 ((e.mp w).symm.trans z)), z, nn_1]
    have a5 : ctF f 30 (nI k) = gcU u (nI k) (uG u) := rl_cg h hi _
    have a6 : ctF f 32 (nI k) = dcU u (nI k) (uD u) := rl_cd h hi _
    unfold tnQ utnQ
    rw [a1, a2, a3, rl_sh h hi hk6 4 (by omega), a4, a5, a6, rl_qp h hi hk6]
  · rw [if_neg q, if_neg q]
theorem rq_account (h : RL f 20 u) (hi : IV u c) (t r w : Int32) : acR f t r w = uacR u t r w := by
  unfold acR uacR vT uV
  rw [rl_T h]
  by_cases q : (0 ≤ t ∧ t < nI (uT u)) ∧ vR r
  · obtain ⟨k, -, hk6, ek⟩ := uVk hi.1 q.1
    obtain ⟨j, -, hj4, ej⟩ := vRk q.2
    rw [if_pos q, if_pos q, ek, ej]
    have a0 := (h.2.1 k hk6).2.2.2 j hj4
    have a1 : f 27 (k * 4 + j) = u (8 + 12 * k + (4 + j)) := a0.1
    have a2 : f 28 (k * 4 + j) = u (8 + 12 * k + (8 + j)) := a0.2
    have a3 : f 29 (k * 4 + j) = usU u j (nI k) := (h.2.2.2.2.2.1 j hj4).2 k hk6
    unfold acQ uacQ frU
    rw [a1, a2, a3]
  · rw [if_neg q, if_neg q]
theorem w4k {w : Int32} (h0 : 0 ≤ w) (h4 : w ≤ 4) : ∃ k, w = nI k ∧ k < 5 ∧ w.toNatClampNeg = k := by
  obtain ⟨k, e, hk⟩ := I_lt (n := 5) h0 (by rw [fa_lt', nI_toInt (by omega)]; rw [fa_le', (show (4 : Int32).toInt = 4 by decide)] at h4; omega) (by omega)
  exact ⟨k, e, hk, by rw [e, nI_clamp (by omega)]⟩
theorem rq_granted (h : RL f 20 u) (hi : IV u c) (g w : Int32) : gdR f g w = ugdR u g w := by
  have m2 := hi.1.2.1.2
  have hs : f 30 2 = nI (uG u) := by rw [(h.2.2.1.1 : f 30 2 = u 448)]; exact hi.1.2.1.1
  unfold gdR ugdR
  rw [nn_0, (show nI 4 = 4 from rfl)]
  by_cases q : ¬ g < 0 ∧ 0 ≤ w ∧ w ≤ 4
  · obtain ⟨j, e, hj, ej⟩ := w4k q.2.1 q.2.2
    rw [if_pos q, if_pos q]
    rcases rl_row h hi g with ⟨e1, e2⟩ | ⟨k, hk, e0, e1, e2⟩
    · rw [if_pos e2, (e1 : rowF f 30 g = -1)]
      unfold cellF
      rw [if_neg (fun z => m1_ge z.1.1)]
    · rw [e2, if_neg (nI_neN (by omega)), (e1 : rowF f 30 g = nI k), nI_clamp (by omega), e]
      unfold cellF
      rw [if_pos ⟨⟨nI_ge0 (by omega), by rw [hs, nI_ltI (by omega) (by omega)]; exact hk⟩, nI_ge0 (by omega), (nI_leI (b := 5) (by omega) (by omega)).mpr (by omega)⟩, nI_clamp (by omega), nI_clamp (by omega)]
      exact rl_gg h hk hj
  · rw [if_neg q, if_neg q]
theorem rq_demanded (h : RL f 20 u) (hi : IV u c) (g w : Int32) : ddR f g w = uddR u g w := by
  have m2 := hi.1.2.2.1.2
  have hs : f 32 2 = nI (uD u) := by rw [(h.2.2.2.1.1 : f 32 2 = u 449)]; exact hi.1.2.2.1.1
  unfold ddR uddR
  rw [nn_0, (show nI 4 = 4 from rfl)]
  by_cases q : ¬ g < 0 ∧ 0 ≤ w ∧ w ≤ 4
  · obtain ⟨j, e, hj, ej⟩ := w4k q.2.1 q.2.2
    rw [if_pos q, if_pos q]
    unfold cellF
    rw [hs]
    by_cases z : g < nI (uD u)
    · obtain ⟨k, e2, hk⟩ := I_lt (n := uD u) (by rw [fa_le', ti_0]; rw [fa_lt', ti_0] at q; omega) z (by omega)
      rw [if_pos z, if_pos ⟨⟨by rw [fa_le', ti_0]; rw [fa_lt', ti_0] at q; omega, z⟩, q.2.1, by rw [e]; exact (nI_leI (b := 5) (by omega) (by omega)).mpr (by omega)⟩, e, e2, nI_clamp (by omega), nI_clamp (by omega)]
      exact rl_dd h hk hj
    · rw [if_neg z, if_neg (fun y => z y.1.2)]
  · rw [if_neg q, if_neg q]
theorem rq_worth (h : RL f 20 u) (hi : IV u c) (t r : Int32) : wtR f t r = uwtR u t r := by
  unfold wtR uwtR vT uV
  rw [rl_T h]
  by_cases q : (0 ≤ t ∧ t < nI (uT u)) ∧ vR r
  · obtain ⟨k, -, hk6, ek⟩ := uVk hi.1 q.1
    obtain ⟨j, -, hj4, ej⟩ := vRk q.2
    rw [if_pos q, if_pos q, ek, ej]
    exact rl_wt h hi hk6 hj4 4 (by omega)
  · rw [if_neg q, if_neg q]
end Tq
