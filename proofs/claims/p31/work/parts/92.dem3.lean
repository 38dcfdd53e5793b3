/-! ===== a vector packed ===== -/
theorem nI_or (a b : Nat) : nI a ||| nI b = nI (a ||| b) := by
  apply Int32.toBitVec_inj.mp
  apply BitVec.eq_of_toNat_eq
  show (BitVec.ofNat 32 a ||| BitVec.ofNat 32 b).toNat = (BitVec.ofNat 32 (a ||| b)).toNat
  rw [BitVec.toNat_or, BitVec.toNat_ofNat, BitVec.toNat_ofNat, BitVec.toNat_ofNat, Nat.or_mod_two_pow]
theorem or_sh {a v k : Nat} {s : Int32} (hs : (s.toBitVec.smod 32).toNat = k) (ha : a < 2 ^ k) (hv : v * 2 ^ k < 2 ^ 32) : nI a ||| (nI v <<< s) = nI (a + v * 2 ^ k) := by
  rw [pk_shlN s k hs hv, nI_or, Nat.or_comm, Nat.mul_comm v, ← Nat.two_pow_add_eq_or_of_lt ha, Nat.add_comm]
theorem vcN_lt (x : Int32) (r : Nat) : vcN x r < 30 := by
  unfold vcN
  split
  · omega
  · exact lowF_lt _ (by omega)
def vcS (x : Int32) : Nat := vcN x 0 + vcN x 1 * 128 + vcN x 2 * 16384 + vcN x 3 * 2097152
theorem vc_eq (x : Int32) : vcW x 4 = nI (vcS x) := by
  have h0 := vcN_lt x 0
  have h1 := vcN_lt x 1
  have h2 := vcN_lt x 2
  have h3 := vcN_lt x 3
  show (((nI 0 ||| (nI (vcN x 0) <<< (nI (7 * 0) &&& 31))) ||| (nI (vcN x 1) <<< (nI (7 * 1) &&& 31))) ||| (nI (vcN x 2) <<< (nI (7 * 2) &&& 31))) ||| (nI (vcN x 3) <<< (nI (7 * 3) &&& 31)) = _
  rw [or_sh (k := 0) (by decide) (by omega) (by omega), or_sh (k := 7) (by decide) (by omega) (by omega), or_sh (k := 14) (by decide) (by omega) (by omega), or_sh (k := 21) (by decide) (by omega) (by omega)]
  congr 1
  unfold vcS
  omega
theorem un_pk {w r : Nat} (h : w < 2 ^ 31) (hr : r < 4) : unV (nI w) r = nI (w / 2 ^ (7 * r) % 128) := by
  have hs : ((nI (7 * r) &&& 31).toBitVec.smod 32).toNat = 7 * r := by
    have : r = 0 ∨ r = 1 ∨ r = 2 ∨ r = 3 := by omega
    rcases this with z | z | z | z <;> subst z <;> decide
  have hl : w / 2 ^ (7 * r) ≤ w := Nat.div_le_self _ _
  unfold unV
  rw [pk_shrN h _ _ hs]
  exact pk_andN (by omega) 7 (by decide)
theorem ow_pk {w : Nat} (h : w < 2 ^ 31) : owV (nI w) = nI (w / 2 ^ 28) := pk_shrN h _ 28 (by decide)
def vcD (x : Int32) (t : Nat) : Int32 := vcW x 4 ||| (nI t <<< (nI 28 &&& 31))
theorem vcS_lt (x : Int32) : vcS x < 2 ^ 28 := by
  have h0 := vcN_lt x 0
  have h1 := vcN_lt x 1
  have h2 := vcN_lt x 2
  have h3 := vcN_lt x 3
  unfold vcS
  omega
theorem vcD_eq (x : Int32) {t : Nat} (ht : t < 3) : vcD x t = nI (vcS x + t * 2 ^ 28) := by
  have h := vcS_lt x
  unfold vcD
  rw [vc_eq]
  exact or_sh (k := 28) (by decide) h (by omega)
theorem vcS_at (x : Int32) {r t : Nat} (hr : r < 4) (ht : t < 3) : (vcS x + t * 2 ^ 28) / 2 ^ (7 * r) % 128 = vcN x r := by
  have h0 := vcN_lt x 0
  have h1 := vcN_lt x 1
  have h2 := vcN_lt x 2
  have h3 := vcN_lt x 3
  unfold vcS
  have : r = 0 ∨ r = 1 ∨ r = 2 ∨ r = 3 := by omega
  rcases this with z | z | z | z <;> subst z
  · rw [show 2 ^ (7 * 0) = 1 from rfl]
    omega
  · rw [show 2 ^ (7 * 1) = 128 from rfl]
    omega
  · rw [show 2 ^ (7 * 2) = 16384 from rfl]
    omega
  · rw [show 2 ^ (7 * 3) = 2097152 from rfl]
    omega
theorem vc_un (x : Int32) {r : Nat} (hr : r < 4) : unV (vcW x 4) r = nI (vcN x r) := by
  have h := vcS_lt x
  have e := vcS_at x (t := 0) hr (by omega)
  rw [Nat.zero_mul, Nat.add_zero] at e
  rw [vc_eq, un_pk (by omega) hr, e]
theorem vcD_un (x : Int32) {r t : Nat} (hr : r < 4) (ht : t < 3) : unV (vcD x t) r = nI (vcN x r) := by
  have h := vcS_lt x
  rw [vcD_eq x ht, un_pk (by omega) hr, vcS_at x hr ht]
theorem vcD_ow (x : Int32) {t : Nat} (ht : t < 3) : owV (vcD x t) = nI t := by
  have h := vcS_lt x
  rw [vcD_eq x ht, ow_pk (by omega), show (vcS x + t * 2 ^ 28) / 2 ^ 28 = t by omega]
theorem vc_0 (x : Int32) : vcW x 4 = nI 0 ↔ ∀ r, r < 4 → vcN x r = 0 := by
  have h := vcS_lt x
  rw [vc_eq, nI_eq (by omega) (by omega)]
  unfold vcS
  constructor
  · intro q r hr
    have : r = 0 ∨ r = 1 ∨ r = 2 ∨ r = 3 := by omega
    rcases this with z | z | z | z <;> subst z <;> omega
  · intro q
    rw [q 0 (by omega), q 1 (by omega), q 2 (by omega), q 3 (by omega)]
/-! the class's demand -/
section Dm
variable {M : Mem} {c t : Nat} {u s : Nat → Int32} {g : Nat → Nat → Int32}
theorem dm_no (h : CU M c u) (ht : t < uT u) (hb : u (8 + 12 * t + 3) = nI 1) (h1 : (rvF (mI M)).1 = -1000003) (h2 : ∀ q, q < 4 → (rvF (mI M)).2 q = nI 0) : dmR (mI M) (nI t) = -1000001 ∧ dmM M (nI t) = rvM M := by
  have hv := vT_k h ht
  have hB : ¬ isB (mI M) 20 (nI t) := fun q => by
    have := (rl_isB h.2.1 h.2.2 ht).mp q
    rw [hb, nI_n0 (by omega) (by omega)] at this
    exact this
  have hu : bv (huF (rwF (mI M) 19 (rvF (mI M)).2)) = 0 := bv_F (fun ⟨i, hi, q⟩ => by
    rw [rw_at, h2 i hi] at q
    exact absurd q (by decide))
  unfold dmR dmM
  rw [if_pos hv, if_pos hv, if_neg hB, hu]
  exact ⟨if_pos (Or.inr (Or.inr rfl)), if_pos (Or.inr (Or.inl rfl))⟩
theorem WB_rv (h : WB M) : WB (rvM M) := WB_row h (Or.inl rfl)
theorem CU_rv (h : CU M c u) : CU (rvM M) c u := ⟨WB_rv h.1, RL_fg h.2.1 (fun i y hi => rv_o (by omega)), h.2.2⟩
theorem dm_yes (h : CU M c u) (ht : t < uT u) (hb : u (8 + 12 * t + 3) = nI 1) (h1 : (rvF (mI M)).1 = -1000003) (h2 : ∀ q, q < 4 → (rvF (mI M)).2 q = s q) (h0 : ∃ q, q < 4 ∧ 0 < s q) (hs : ∀ r, r < 4 → 0 ≤ (s r).toInt ∧ (s r).toInt ≤ 99) (hD : uD u < 24) : dmR (mI M) (nI t) = nI (uD u + 1) ∧ CU (dmM M (nI t)) (c + 1) (dpU u s t) ∧ FR (rvM M) (dmM M (nI t)) := by
  have hv := vT_k h ht
  have eD := rl_D h.2.1
  have hB : ¬ isB (mI M) 20 (nI t) := fun q => by
    have := (rl_isB h.2.1 h.2.2 ht).mp q
    rw [hb, nI_n0 (by omega) (by omega)] at this
    exact this
  have hu : bv (huF (rwF (mI M) 19 (rvF (mI M)).2)) = 1 := bv_T (by
    obtain ⟨q, hq, q0⟩ := h0
    exact ⟨q, hq, by rw [rw_at, h2 q hq]; exact q0⟩)
  have eD2 : csz (mI M) 32 = uD u := eD
  have n1 : ¬ (isB (mI M) 20 (nI t) ∨ ¬ (rvF (mI M)).1 = -1000003 ∨ (1 : Int32) = 0) := fun q => q.elim hB (fun q => q.elim (fun q => q h1) (by decide))
  have n2 : ¬ (¬ (rvF (mI M)).1 = -1000003 ∨ (1 : Int32) = 0 ∨ 24 ≤ uD u) := fun q => q.elim (fun q => q h1) (fun q => q.elim (by decide) (by omega))
  have hr := CU_rv h
  have hk : RL (mI (kpM (rvM M))) 20 u := co_kp hr
  unfold dmR dmM
  rw [if_pos hv, if_pos hv, if_neg hB, hu, eD2, if_neg n1, if_neg n2, if_neg (by omega)]
  refine ⟨rfl, co_ch hr.1 (fun x y q1 q2 => ?_) (RL_dp hk h.2.2.1 hD (fun r hr4 => ?_)) (IV_dp h.2.2 hD ht hs)⟩
  · unfold addF
    rw [u2_ne (by omega), u2_ne (by omega), u2_ne (by omega), addP_ne (by omega)]
  · rw [kp_i hr.1.1 hr.1.2.2.2.1 (by omega)]
    exact (show (rvF (mI M)).2 r = s r from h2 r hr4)
theorem PI_.tx (h : PI_ M) (hg : TX M g) : PI_ (mW M g) ∧ rowsT (mW M g) = rowsT M := by
  have e1 : g 174 = mI M 174 := funext fun y => hg.1 _ _ (by omega)
  have e2 : g 175 = mI M 175 := funext fun y => hg.1 _ _ (by omega)
  have e3 : g 176 = mI M 176 := funext fun y => hg.1 _ _ (by omega)
  have eU : UM (mW M g) = UM M := by
    unfold UM
    rw [mI_mW, e1, e2, e3]
  have ek : kaM (mW M g) = kaM M := by unfold kaM; rw [eU]
  refine ⟨⟨hg.W h.1, ?_, ?_, ?_, h.2.2.2.2.1, by rw [ek]; exact h.2.2.2.2.2⟩, ?_⟩
  · rw [eU, mI_mW]
    exact RL_fg h.2.1 (fun i y hi => hg.1 _ _ (by omega))
  · rw [eU, ek]
    exact h.2.2.1
  · rw [mI_mW, e1, e2]
    exact h.2.2.2.1
  · unfold rowsT
    rw [mI_mW, e1, e2, e3]
theorem PI_.b1 (h : PI_ M) (ht : t < aT (mI M 174)) : mI M 174 (8 + 12 * t + 3) = nI 1 := by
  have hT := h.T3
  have q := h.2.2.1.2.2.2.2.2.2.2.1 t ht
  have e := h.2.2.2.1.2.2.2.1
  have e0 : uB (UM M) = 0 := by
    unfold uB UM
    rw [Uw_450, e]
    rfl
  rw [e0] at q
  unfold UM at q
  rw [Uw_a (by omega)] at q
  exact q.elim (fun ⟨_, k, hk, _⟩ => absurd hk (Nat.not_lt_zero _)) And.left
end Dm
