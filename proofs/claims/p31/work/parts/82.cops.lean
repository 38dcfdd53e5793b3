/-! ===== the class's calls, on a ledger that is u ===== -/
def CU (M : Mem) (c : Nat) (u : Nat → Int32) : Prop := WB M ∧ RL (mI M) 20 u ∧ IV u c
/-- what no call of it touches: the text's rows, and all behind the class -/
def FR (M M' : Mem) : Prop := mN M' = mN M ∧ ∀ x y, x < 20 ∨ 173 < x → mI M' x y = mI M x y
section Co
variable {M : Mem} {c c' : Nat} {u w : Nat → Int32}
theorem co_ch {F : Nat → Nat → Int32} (h : WB M) (hF : ∀ x y, ¬ (19 < x ∧ x < 35) → x ≠ 172 → F x y = mI (kpM M) x y) (hL : RL F 20 w) (hI : IV w c) : CU (mW (kpM M) F) c w ∧ FR M (mW (kpM M) F) := by
  obtain ⟨hB2, hD, hD2, hH, hT⟩ := kp_W h
  refine ⟨⟨⟨hB2, rl_LedD hL hI.1, LedD_cg hD2 (fun y => hF _ _ (by omega) (by omega)) (fun y => hF _ _ (by omega) (by omega)) (fun y => hF _ _ (by omega) (by omega)), HisD_cg hH (fun x y h1 h2 => ?_), TxD_cg hT (hF _ _ (by omega) (by omega))⟩, hL, hI⟩, kp_n M, fun x y hx => ?_⟩
  · by_cases z : x = 172
    · omega
    · exact hF _ _ (by omega) z
  · exact (hF _ _ (by omega) (by omega)).trans (kp_i h.1 h.2.2.2.1 (by omega))
theorem co_kp (h : CU M c u) : RL (mI (kpM M)) 20 u := RL_fg h.2.1 (fun i y hi => kp_i h.1.1 h.1.2.2.2.1 (by omega))
theorem FR.rf (M : Mem) : FR M M := ⟨rfl, fun _ _ _ => rfl⟩
theorem FR.tr {M1 M2 M3 : Mem} (h : FR M1 M2) (h2 : FR M2 M3) : FR M1 M3 := ⟨h2.1.trans h.1, fun x y q => (h2.2 x y q).trans (h.2 x y q)⟩
theorem vR_k {r : Nat} (h : r < 4) : vR (nI r) := ⟨nI_ge0 (by omega), (nI_ltI (b := 4) (by omega) (by omega)).mpr h⟩
theorem vT_k {t : Nat} (h : CU M c u) (ht : t < uT u) : vT (mI M) (nI t) := by
  have := h.2.2.1.1.2
  unfold vT
  rw [rl_T h.2.1]
  exact ⟨nI_ge0 (by omega), (nI_ltI (by omega) (by omega)).mpr ht⟩
theorem co_setResource {r : Nat} {n : Int32} (h : CU M c u) (hr : r < 4) (h0 : 0 ≤ n.toInt) (h9 : n.toInt ≤ 999) : (n < usU u r (-1000003) ∧ srR (mI M) (nI r) (nI 0) n = -1000001 ∧ srM M (nI r) (nI 0) n = M) ∨ (¬ n < usU u r (-1000003) ∧ srR (mI M) (nI r) (nI 0) n = u r ∧ CU (srM M (nI r) (nI 0) n) c (upF u r n) ∧ FR M (srM M (nI r) (nI 0) n)) := by
  have hv : vR (nI r) ∧ 0 ≤ n ∧ n ≤ 999 := ⟨vR_k hr, by rw [fa_le', ti_0]; exact h0, by rw [fa_le', ti_999]; exact h9⟩
  have eu : mI M 23 r = usU u r (-1000003) := (h.2.1.2.2.2.2.2.1 r hr).1
  have e0 : nI 0 = 0 := rfl
  unfold srR srM
  rw [if_pos hv, if_pos hv, nI_clamp (by omega), eu]
  by_cases z : n < usU u r (-1000003)
  · have z2 : nI 0 = 0 ∧ ¬ usU u r (-1000003) ≤ n := ⟨e0, Int32.not_le.mpr z⟩
    rw [if_pos z2, if_pos z2]
    exact Or.inl ⟨z, rfl, rfl⟩
  · have z2 : ¬ (nI 0 = 0 ∧ ¬ usU u r (-1000003) ≤ n) := fun q => q.2 (Int32.not_lt.mp z)
    rw [if_neg z2, if_neg z2, if_pos e0]
    refine Or.inr ⟨z, (h.2.1.1 r hr).1, ?_⟩
    exact co_ch h.1 (fun x y q1 q2 => u2_ne (by omega)) (RL_cap (co_kp h) h.2.2.1 hr) (IV_r h.2.2 hr h0 h9)
theorem co_setResource_k {r n : Int32} {b : Int32} (h : ¬ (vR r ∧ 0 ≤ n ∧ n ≤ 999)) : srR (mI M) r b n = -1000000 ∧ srM M r b n = M := by
  unfold srR srM
  rw [if_neg h, if_neg h]
  exact ⟨rfl, rfl⟩
theorem co_setLimit {t r : Nat} {n : Int32} (h : CU M c u) (ht : t < uT u) (hr : r < 4) (h0 : 0 ≤ n.toInt) (h9 : n.toInt ≤ 9999) : ((n < usU u r (nI t) ∨ n < u (8 + 12 * t + (8 + r))) ∧ slR (mI M) (nI t) (nI r) n = -1000001 ∧ slM M (nI t) (nI r) n = M) ∨ (¬ (n < usU u r (nI t) ∨ n < u (8 + 12 * t + (8 + r))) ∧ slR (mI M) (nI t) (nI r) n = u (8 + 12 * t + (4 + r)) ∧ CU (slM M (nI t) (nI r) n) c (upF u (8 + 12 * t + (4 + r)) n) ∧ FR M (slM M (nI t) (nI r) n)) := by
  have h6 := h.2.2.1.1.2
  have hv : vT (mI M) (nI t) ∧ vR (nI r) ∧ 0 ≤ n ∧ n ≤ 9999 := ⟨vT_k h ht, vR_k hr, by rw [fa_le', ti_0]; exact h0, by rw [fa_le', ti_9999]; exact h9⟩
  have a1 : mI M 29 (t * 4 + r) = usU u r (nI t) := (h.2.1.2.2.2.2.2.1 r hr).2 t ht
  have a2 : mI M 28 (t * 4 + r) = u (8 + 12 * t + (8 + r)) := ((h.2.1.2.1 t ht).2.2.2 r hr).2
  have a3 : mI M 27 (t * 4 + r) = u (8 + 12 * t + (4 + r)) := ((h.2.1.2.1 t ht).2.2.2 r hr).1
  unfold slR slM
  rw [if_pos hv, if_pos hv, nI_clamp (by omega), nI_clamp (by omega), a1, a2, a3]
  by_cases z : n < usU u r (nI t) ∨ n < u (8 + 12 * t + (8 + r))
  · have z2 : n < usU u r (nI t) ∨ ¬ u (8 + 12 * t + (8 + r)) ≤ n := z.elim Or.inl (fun q => Or.inr (Int32.not_le.mpr q))
    rw [if_pos z2, if_pos z2]
    exact Or.inl ⟨z, rfl, rfl⟩
  · have z2 : ¬ (n < usU u r (nI t) ∨ ¬ u (8 + 12 * t + (8 + r)) ≤ n) := fun q => z (q.elim Or.inl (fun q => Or.inr (Int32.not_le.mp q)))
    rw [if_neg z2, if_neg z2]
    have z3 : u (8 + 12 * t + (8 + r)) ≤ n := Int32.not_lt.mp (fun q => z (Or.inr q))
    rw [fa_le'] at z3
    refine Or.inr ⟨z, rfl, ?_⟩
    exact co_ch h.1 (fun x y q1 q2 => u2_ne (by omega)) (RL_acc (i := 7) (co_kp h) h.2.2.1 ht hr (by omega)) (IV_lim h.2.2 ht hr z3 h9)
theorem co_setLimit_k {t r n : Int32} (h : ¬ n ≤ 9999) : slR (mI M) t r n = -1000000 ∧ slM M t r n = M := by
  unfold slR slM
  rw [if_neg (fun q => h q.2.2.2), if_neg (fun q => h q.2.2.2)]
  exact ⟨rfl, rfl⟩
theorem co_addTenant {n : Int32} (h : CU M c u) (hT : uT u < 6) (h1 : 1 ≤ n.toInt) (h9 : n.toInt ≤ 9) : atR (mI M) n = nI (uT u) ∧ CU (atM M n) c (uatG u n) ∧ FR M (atM M n) := by
  have hv : 1 ≤ n ∧ n ≤ 9 := ⟨by rw [fa_le', ti_1]; exact h1, by rw [fa_le', ti_9]; exact h9⟩
  have eL : lnT (mI M) 20 = uT u := rl_T h.2.1
  unfold atR atM
  rw [eL, if_pos hv, if_pos hT, if_pos ⟨hv, hT⟩]
  exact ⟨rfl, co_ch h.1 (fun x y q1 q2 => by rw [u2_ne (by omega), u2_ne (by omega)]) (RL_at (co_kp h) h.2.2 hT) (IV_at h.2.2 hT h1 h9)⟩
theorem co_addTenant_0 : atR (mI M) (nI 0) = -1000000 ∧ atM M (nI 0) = M := by
  have hv : ¬ (1 ≤ nI 0 ∧ nI 0 ≤ 9) := by decide
  unfold atR atM
  rw [if_neg hv, if_neg (fun q => hv q.1)]
  exact ⟨rfl, rfl⟩
theorem co_withdraw {t : Nat} (h : CU M c u) (ht : t < uT u) : (fwF (mI M) 32 4 (nI t) = -1 ∧ wdR (mI M) (nI t) = -1000001 ∧ wdM M (nI t) = M) ∨ ∃ k, k < uD u ∧ fwF (mI M) 32 4 (nI t) = nI k ∧ wdR (mI M) (nI t) = nI (uD u - 1) ∧ CU (wdM M (nI t)) c (ldU u k) ∧ FR M (wdM M (nI t)) := by
  have m3 := h.2.2.1.2.2.1.2
  have eD : csz (mI M) 32 = uD u := rl_D h.2.1
  have hv := vT_k h ht
  unfold wdR wdM
  rw [eD, if_pos hv]
  rcases rl_fo h.2.1 h.2.2 (nI t) with ⟨e1, -⟩ | ⟨k, hkD, -, e1, -⟩
  · have e1' : fwF (mI M) 32 4 (nI t) = -1 := e1
    rw [e1', if_pos m1_lt, if_neg (fun y : _ ∧ ¬ ((-1 : Int32) < 0) => y.2 m1_lt)]
    exact Or.inl ⟨rfl, rfl, rfl⟩
  · have e1' : fwF (mI M) 32 4 (nI t) = nI k := e1
    have n0 : ¬ nI k < 0 := nI_neM (by omega)
    rw [e1', nI_clamp (by omega), if_neg n0, if_pos (And.intro hv n0)]
    refine Or.inr ⟨k, hkD, rfl, rfl, ?_⟩
    exact co_ch h.1 (fun x y q1 q2 => rmF_ne (by omega) (by omega)) (RL_ld (b := 20) (co_kp h) h.2.2.1) (IV_up (IV_ld h.2.2 hkD) (by omega))
theorem co_release {n : Int32} (h : CU M c u) : (rowF (mI M) 30 n = -1 ∧ rlR (mI M) n = -1000000 ∧ rlM M n = M) ∨ ∃ k, k < uG u ∧ u (80 + 6 * k) = n ∧ rlR (mI M) n = nI (uG u - 1) ∧ CU (rlM M n) c (lgU u k) ∧ FR M (rlM M n) := by
  have m2 := h.2.2.1.2.1.2
  have eG : csz (mI M) 30 = uG u := rl_G h.2.1
  unfold rlR rlM
  rw [eG]
  rcases rl_row h.2.1 h.2.2 n with ⟨e1, -⟩ | ⟨k, hkG, e0, e1, -⟩
  · have e1' : rowF (mI M) 30 n = -1 := e1
    rw [e1', if_pos m1_lt, if_pos m1_lt]
    exact Or.inl ⟨rfl, rfl, rfl⟩
  · have e1' : rowF (mI M) 30 n = nI k := e1
    have n0 : ¬ nI k < 0 := nI_neM (by omega)
    rw [e1', nI_clamp (by omega), if_neg n0, if_neg n0]
    refine Or.inr ⟨k, hkG, e0, rfl, ?_⟩
    exact co_ch h.1 (fun x y q1 q2 => by rw [rmF_ne (by omega) (by omega), auF_ne (by omega) (by omega)]) (RL_lg (b := 20) (co_kp h) h.2.2 hkG) (IV_lg h.2.2 hkG (Nat.le_refl _))
theorem co_grant_n (h : ndF (mI M) 20 = -1) : gtR (mI M) = -1000001 ∧ gtM M = M ∧ gaR (mI M) (mI (kpM M)) = -1000001 ∧ gaM M = M := by
  unfold gtR gtM gaR gaM
  rw [h, if_pos m1_lt, if_pos (Or.inl m1_lt), if_pos m1_lt, if_pos (Or.inl m1_lt)]
  exact ⟨rfl, rfl, rfl, rfl⟩
theorem co_grant {k : Nat} (h : CU M c u) (hc : c < 1000000) (hn : ndF (mI M) 20 = nI k) (hk : k < uD u) (hg : uG u < 40) : gtR (mI M) = u (320 + 5 * k + 4) ∧ CU (gtM M) c (grU u k) ∧ FR M (gtM M) := by
  have m3 := h.2.2.1.2.2.1.2
  have eG : csz (mI M) 30 = uG u := rl_G h.2.1
  have n0 : ¬ nI k < 0 := nI_neM (by omega)
  unfold gtR gtM
  rw [hn, eG, nI_clamp (by omega), if_neg n0, if_neg (show ¬ 40 ≤ uG u by omega), if_neg (fun y : nI k < 0 ∨ 40 ≤ uG u => y.elim n0 (by omega))]
  exact ⟨rl_dd h.2.1 hk (by omega), co_ch h.1 (fun x y q1 q2 => svF_o (by omega)) (RL_sv (b := 20) (co_kp h) h.2.2 hk hg) (IV_sv h.2.2 hk hg hc)⟩
theorem co_grantAll {k : Nat} (h : CU M c u) (hn : ndF (mI M) 20 = nI k) (hk : k < uD u) (hg : uG u < 40) (hL : RL (saP 20 172 24 (mI (kpM M)) 0).1 20 w) (hI : IV w c') : gaR (mI M) (mI (kpM M)) = nI (saP 20 172 24 (mI (kpM M)) 0).2 ∧ CU (gaM M) c' w ∧ FR M (gaM M) := by
  have m3 := h.2.2.1.2.2.1.2
  have eG : csz (mI M) 30 = uG u := rl_G h.2.1
  have n0 : ¬ nI k < 0 := nI_neM (by omega)
  unfold gaR gaM
  rw [hn, eG, if_neg n0, if_neg (show ¬ 40 ≤ uG u by omega), if_neg (fun y : nI k < 0 ∨ 40 ≤ uG u => y.elim n0 (by omega))]
  exact ⟨rfl, co_ch h.1 (fun x y q1 q2 => saP_o (by omega) q2 _ _ _) hL hI⟩
end Co
/-! ===== the law's rows changed, and the model's ===== -/
section Re
variable {a g y a' g' y' : Nat → Int32} {c : Nat}
theorem Uw_gc {k k' j : Nat} (h : k < 40) (h' : k' < 40) (hj : j < 6) (e1 : g' (40 + k') = g (40 + k)) (e2 : g' k' = g k) : Uw a' g' y' (80 + 6 * k' + j) = Uw a g y (80 + 6 * k + j) := by
  have : j = 0 ∨ j = 5 ∨ ∃ r, r < 4 ∧ j = 1 + r := by
    rcases Nat.lt_or_ge j 1 with z | z
    · exact Or.inl (by omega)
    · rcases Nat.lt_or_ge j 5 with z2 | z2
      · exact Or.inr (Or.inr ⟨j - 1, by omega, by omega⟩)
      · exact Or.inr (Or.inl (by omega))
  rcases this with z | z | ⟨r, hr, z⟩
  · rw [z, Nat.add_zero, Nat.add_zero, Uw_n h, Uw_n h', e1]
  · rw [z, Uw_o h, Uw_o h', e2]
  · rw [z, Uw_g h hr, Uw_g h' hr, e2]
theorem Uw_dc {k k' j : Nat} (h : k < 24) (h' : k' < 24) (hj : j < 5) (e2 : y' k' = y k) : Uw a' g' y' (320 + 5 * k' + j) = Uw a g y (320 + 5 * k + j) := by
  rcases Nat.lt_or_ge j 4 with z | z
  · rw [Uw_d h z, Uw_d h' z, e2]
  · rw [show j = 4 by omega, Uw_w h, Uw_w h', e2]
theorem Uw_ac {i : Nat} (ha : ∀ i, i < 64 → a' i = a i) (hg : g' 63 = g 63) (hy : y' 63 = y 63) (hi : i < 80 ∨ (440 ≤ i ∧ i < 454)) : Uw a' g' y' i = Uw a g y i := by
  unfold Uw
  rcases hi with h | ⟨h, h2⟩
  · by_cases z : i < 44
    · rw [if_pos z, if_pos z, ha i (by omega)]
    · rw [if_neg z, if_neg z, if_pos h, if_pos h]
  · rw [if_neg (show ¬ i < 44 by omega), if_neg (show ¬ i < 80 by omega), if_neg (show ¬ i < 320 by omega), if_neg (show ¬ i < 440 by omega), if_neg (show ¬ i < 44 by omega), if_neg (show ¬ i < 80 by omega), if_neg (show ¬ i < 320 by omega), if_neg (show ¬ i < 440 by omega)]
    by_cases q : i < 446
    · rw [if_pos q, if_pos q, ha _ (by omega)]
    · rw [if_neg q, if_neg q, ha 45 (by omega), ha 44 (by omega), ha 50 (by omega), ha 48 (by omega), ha 46 (by omega), ha 47 (by omega), hg, hy]
theorem dr_row {k j : Nat} (hj : j < wn y - 1) (hw : wn y ≤ 40) : drW y k j = y (shR k j) := by
  unfold drW drP shR
  rw [if_neg (by omega)]
  by_cases z : j < k
  · rw [if_neg (by omega), if_pos z]
  · rw [if_pos (by omega), if_neg z]
theorem dr_wn {k : Nat} (hw : wn y ≤ 40) : wn (drW y k) = wn y - 1 := tN_of (drP_63 y k _) (by omega)
/-- a demand leaves -/
theorem RE_dr {k : Nat} (hi : IV (Uw a g y) c) : RE (Uw a g (drW y k)) (ldU (Uw a g y) k) := by
  have hd : wn y ≤ 24 := hi.1.2.2.1.2
  have hg : wn g ≤ 40 := hi.1.2.1.2
  have hdU : uD (Uw a g y) ≤ 24 := hd
  have hn : uD (ldU (Uw a g y) k) = wn y - 1 := ld_n hd
  have hG : uG (ldU (Uw a g y) k) = wn g := by unfold uG; rw [ldU_o (u := Uw a g y) (by omega) (by omega) hdU]; rfl
  refine ⟨fun i q => ?_, fun q hq j hj => ?_, fun q hq j hj => ?_⟩
  · by_cases z : i = 449
    · subst z
      rw [Uw_449, show drW y k 63 = nI (wn y - 1) from drP_63 y k _]
      exact (ldP_c (Uw a g y) k _).symm
    · rw [ldU_o (u := Uw a g y) (by omega) z hdU]
      by_cases z2 : i < 449 ∨ 449 < i
      · unfold Uw
        by_cases q1 : i < 44
        · rw [if_pos q1, if_pos q1]
        · rw [if_neg q1, if_neg q1]
          by_cases q2 : i < 80
          · rw [if_pos q2, if_pos q2]
          · rw [if_neg q2, if_neg q2, if_neg (show ¬ i < 320 by omega), if_neg (show ¬ i < 320 by omega), if_neg (show ¬ i < 440 by omega), if_neg (show ¬ i < 440 by omega), if_neg z, if_neg z]
      · omega
  · rw [hG] at hq
    rw [ldU_o (u := Uw a g y) (by omega) (by omega) hdU]
    exact Uw_gc (by omega) (by omega) hj rfl rfl
  · rw [hn] at hq
    have hl := shR_lt (k := k) hq
    rw [ld_row (k := k) (u := Uw a g y) (j := q) (m := j) hq hj hdU]
    exact Uw_dc (by omega) (by omega) hj (dr_row hq (by omega))
theorem en_row {k j : Nat} (hj : j < wn g - 1) (hw : wn g ≤ 22) : enW g k j = g (shR k j) ∧ enW g k (40 + j) = g (40 + shR k j) := by
  unfold enW
  by_cases z : j < k
  · rw [enP_o (by omega) (by omega), enP_o (by omega) (by omega)]
    unfold shR
    rw [if_pos z]
    exact ⟨rfl, rfl⟩
  · have e1 : enP g k (wn g - 1) j = g (j + 1) := by
      unfold enP
      rw [if_neg (by omega), if_pos (by omega)]
    have e2 : enP g k (wn g - 1) (40 + j) = g (40 + j + 1) := by
      unfold enP
      rw [if_neg (by omega), if_pos (by omega)]
    rw [e1, e2]
    unfold shR
    rw [if_neg z]
    exact ⟨rfl, rfl⟩
theorem en_wn {k : Nat} (hw : wn g ≤ 40) : wn (enW g k) = wn g - 1 := tN_of (enP_63 g k _) (by omega)
/-- a grant ends -/
theorem RE_en {k : Nat} (hi : IV (Uw a g y) c) (hw : wn g ≤ 22) : RE (Uw a (enW g k) y) (lgU (Uw a g y) k) := by
  have hd : wn y ≤ 24 := hi.1.2.2.1.2
  have hg : wn g ≤ 40 := hi.1.2.1.2
  have hgU : uG (Uw a g y) ≤ 40 := hg
  have hn : uG (lgU (Uw a g y) k) = wn g - 1 := lg_n hg
  have hD : uD (lgU (Uw a g y) k) = wn y := by unfold uD; rw [lgU_o (u := Uw a g y) (by omega) (by omega) hgU]; rfl
  refine ⟨fun i q => ?_, fun q hq j hj => ?_, fun q hq j hj => ?_⟩
  · by_cases z : i = 448
    · subst z
      rw [Uw_448, show enW g k 63 = nI (wn g - 1) from enP_63 g k _]
      exact (lgP_c (Uw a g y) k _).symm
    · rw [lgU_o (u := Uw a g y) (by omega) z hgU]
      unfold Uw
      by_cases q1 : i < 44
      · rw [if_pos q1, if_pos q1]
      · rw [if_neg q1, if_neg q1]
        by_cases q2 : i < 80
        · rw [if_pos q2, if_pos q2]
        · rw [if_neg q2, if_neg q2, if_neg (show ¬ i < 320 by omega), if_neg (show ¬ i < 320 by omega), if_neg (show ¬ i < 440 by omega), if_neg (show ¬ i < 440 by omega), if_neg z, if_neg z]
  · rw [hn] at hq
    have hl := shR_lt (k := k) hq
    have e := en_row (k := k) hq hw
    rw [lg_row (k := k) (u := Uw a g y) (j := q) (m := j) hq hj hgU]
    exact Uw_gc (by omega) (by omega) hj e.2 e.1
  · rw [hD] at hq
    rw [lgU_o (u := Uw a g y) (by omega) (by omega) hgU]
    exact Uw_dc (by omega) (by omega) hj rfl
/-- a demand is granted -/
theorem gn_wn {v x : Int32} (hw : wn g ≤ 40) : wn (gnW g v x) = wn g + 1 := tN_of (show gnW g v x 63 = nI (wn g + 1) from up_at _ _ _) (by omega)
theorem gn_lo {v x : Int32} {i : Nat} (h : i ≠ wn g) (h2 : i ≠ 40 + wn g) (h3 : i ≠ 63) : gnW g v x i = g i := by
  unfold gnW
  rw [up_ne h3, up_ne h2, up_ne h]
theorem gn_v {v x : Int32} (hw : wn g ≤ 22) : gnW g v x (wn g) = v ∧ gnW g v x (40 + wn g) = x := by
  unfold gnW
  rw [up_ne (by omega), up_ne (by omega), up_at, up_ne (by omega), up_at]
  exact ⟨rfl, rfl⟩
theorem RE_gr {k : Nat} (hi : IV (Uw a g y) c) (hw : wn g ≤ 21) (hk : k < wn y) : RE (Uw (upF a 48 (a 48 + nI 1)) (gnW g (y k) (a 48)) (drW y k)) (grU (Uw a g y) k) := by
  have hd : wn y ≤ 24 := hi.1.2.2.1.2
  have hg : uG (Uw a g y) < 40 := by rw [Uw_G]; omega
  have hD2 : uD (gr2 (Uw a g y) k) = wn y := by unfold uD; rw [gr2_d hg]; rfl
  have hn : uD (grU (Uw a g y) k) = wn y - 1 := grU_uD hi.1 hg
  have hG : uG (grU (Uw a g y) k) = wn g + 1 := by
    unfold grU
    unfold uG
    rw [ldU_o (by omega) (by omega) (by rw [hD2]; exact hd)]
    exact gr2_n hg
  refine ⟨fun i q => ?_, fun q hq j hj => ?_, fun q hq j hj => ?_⟩
  · by_cases z8 : i = 448
    · subst z8
      unfold grU
      rw [ldU_o (by omega) (by omega) (by rw [hD2]; exact hd), Uw_448]
      unfold gr2
      rw [up_ne (by omega), up_at, show gnW g (y k) (a 48) 63 = nI (wn g + 1) from up_at _ _ _]
      rfl
    · by_cases z9 : i = 449
      · subst z9
        unfold grU
        rw [Uw_449, show drW y k 63 = nI (wn y - 1) from drP_63 y k _]
        refine ((ldP_c (gr2 (Uw a g y) k) k _).trans ?_).symm
        rw [hD2]
      · by_cases z1 : i = 451
        · subst z1
          unfold grU
          rw [ldU_o (by omega) (by omega) (by rw [hD2]; exact hd), Uw_451, up_at]
          unfold gr2
          rw [up_at]
          rfl
        · rw [grU_o hi.1 hg (by omega) z8 z9 z1]
          unfold Uw
          by_cases q1 : i < 44
          · rw [if_pos q1, if_pos q1, up_ne (by omega)]
          · rw [if_neg q1, if_neg q1]
            by_cases q2 : i < 80
            · rw [if_pos q2, if_pos q2]
            · rw [if_neg q2, if_neg q2, if_neg (show ¬ i < 320 by omega), if_neg (show ¬ i < 320 by omega), if_neg (show ¬ i < 440 by omega), if_neg (show ¬ i < 440 by omega), if_neg z8, if_neg z8, if_neg z9, if_neg z9, if_neg z1, if_neg z1, up_ne (show 45 ≠ 48 by omega), up_ne (show 44 ≠ 48 by omega), up_ne (show 50 ≠ 48 by omega), up_ne (show 46 ≠ 48 by omega), up_ne (show 47 ≠ 48 by omega)]
              by_cases q3 : i < 446
              · rw [if_pos q3, if_pos q3, up_ne (by omega)]
              · rw [if_neg q3, if_neg q3]
  · rw [hG] at hq
    have ev := gn_v (g := g) (v := y k) (x := a 48) (by omega)
    unfold grU
    rw [ldU_o (by omega) (by omega) (by rw [hD2]; exact hd)]
    by_cases z : q = wn g
    · subst z
      have : j = 0 ∨ ∃ r, r < 5 ∧ j = 1 + r := by
        rcases Nat.lt_or_ge j 1 with z | z
        · exact Or.inl (by omega)
        · exact Or.inr ⟨j - 1, by omega, by omega⟩
      rcases this with z | ⟨r, hr, z⟩
      · rw [z, Nat.add_zero, Uw_n (by omega), ev.2]
        exact (gr2_0 hg).symm
      · have e2 : gr2 (Uw a g y) k (80 + 6 * wn g + (1 + r)) = Uw a g y (320 + 5 * k + r) := gr2_r hg hr
        rw [z, e2]
        rcases Nat.lt_or_ge r 4 with z4 | z4
        · rw [Uw_g (by omega) z4, ev.1, Uw_d (by omega) z4]
        · rw [show r = 4 by omega, show 80 + 6 * wn g + (1 + 4) = 80 + 6 * wn g + 5 by omega, Uw_o (by omega), ev.1, Uw_w (by omega)]
    · have hl : q < wn g := by omega
      rw [gr2_lo hg (by rw [Uw_G]; omega) (by omega) (by omega)]
      exact Uw_gc (by omega) (by omega) hj (gn_lo (by omega) (by omega) (by omega)) (gn_lo (by omega) (by omega) (by omega))
  · rw [hn] at hq
    have hl := shR_lt (k := k) hq
    unfold grU
    rw [ld_row (k := k) (u := gr2 (Uw a g y) k) (j := q) (m := j) (by rw [hD2]; exact hq) hj (by rw [hD2]; exact hd), gr2_lo hg (by omega) (by omega) (by omega)]
    exact Uw_dc (by omega) (by omega) hj (dr_row hq (by omega))
/-- a limit or a capacity set -/
theorem RE_up {i : Nat} {v : Int32} (hi : IV (Uw a g y) c) (h : i < 44) : RE (Uw (upF a i v) g y) (upF (Uw a g y) i v) := by
  have hd : wn y ≤ 24 := hi.1.2.2.1.2
  have hg : wn g ≤ 40 := hi.1.2.1.2
  refine ⟨fun j q => ?_, fun q hq j hj => ?_, fun q hq j hj => ?_⟩
  · by_cases z : j = i
    · rw [z, up_at, Uw_a h, up_at]
    · rw [up_ne z]
      unfold Uw
      by_cases q1 : j < 44
      · rw [if_pos q1, if_pos q1, up_ne z]
      · rw [if_neg q1, if_neg q1]
        by_cases q2 : j < 80
        · rw [if_pos q2, if_pos q2]
        · rw [if_neg q2, if_neg q2, if_neg (show ¬ j < 320 by omega), if_neg (show ¬ j < 320 by omega), if_neg (show ¬ j < 440 by omega), if_neg (show ¬ j < 440 by omega), up_ne (show 45 ≠ i by omega), up_ne (show 44 ≠ i by omega), up_ne (show 50 ≠ i by omega), up_ne (show 48 ≠ i by omega), up_ne (show 46 ≠ i by omega), up_ne (show 47 ≠ i by omega), up_ne (show 51 + (j - 440) ≠ i by omega)]
  · have hq' : q < wn g := by
      rw [uG_up (by omega)] at hq
      exact hq
    rw [up_ne (by omega)]
    exact Uw_gc (by omega) (by omega) hj rfl rfl
  · have hq' : q < wn y := by
      rw [uD_up (by omega)] at hq
      exact hq
    rw [up_ne (by omega)]
    exact Uw_dc (by omega) (by omega) hj rfl
/-- a demand made -/
theorem RE_dp {v : Int32} {s : Nat → Int32} {t : Nat} (hi : IV (Uw a g y) c) (hw : wn y < 24) (hs : ∀ r, r < 4 → unV v r = s r) (ho : owV v = nI t) : RE (Uw a g (upF (upF y (wn y) v) 63 (nI (wn y + 1)))) (dpU (Uw a g y) s t) := by
  have hD : uD (Uw a g y) < 24 := hw
  have hg : wn g ≤ 40 := hi.1.2.1.2
  have hn : uD (dpU (Uw a g y) s t) = wn y + 1 := dp_n hD
  have hG : uG (dpU (Uw a g y) s t) = wn g := by unfold uG; rw [dp_o hD (by omega) (by omega)]; rfl
  refine ⟨fun i q => ?_, fun q hq j hj => ?_, fun q hq j hj => ?_⟩
  · by_cases z : i = 449
    · subst z
      rw [Uw_449, up_at]
      exact (show dpU (Uw a g y) s t 449 = nI (wn y + 1) from up_at _ _ _).symm
    · rw [dp_o hD (by omega) z]
      unfold Uw
      by_cases q1 : i < 44
      · rw [if_pos q1, if_pos q1]
      · rw [if_neg q1, if_neg q1]
        by_cases q2 : i < 80
        · rw [if_pos q2, if_pos q2]
        · rw [if_neg q2, if_neg q2, if_neg (show ¬ i < 320 by omega), if_neg (show ¬ i < 320 by omega), if_neg (show ¬ i < 440 by omega), if_neg (show ¬ i < 440 by omega), if_neg z, if_neg z]
  · rw [hG] at hq
    rw [dp_o hD (by rw [Uw_D]; omega) (by omega)]
    exact Uw_gc (by omega) (by omega) hj rfl rfl
  · rw [hn] at hq
    by_cases z : q = wn y
    · subst z
      have ev : upF (upF y (wn y) v) 63 (nI (wn y + 1)) (wn y) = v := by rw [up_ne (by omega), up_at]
      rcases Nat.lt_or_ge j 4 with z4 | z4
      · rw [Uw_d hw z4, ev, hs j z4]
        exact (dp_r hD z4).symm
      · rw [show j = 4 by omega, Uw_w hw, ev, ho]
        exact (dp_4 hD).symm
    · rw [dp_o hD (by rw [Uw_D]; omega) (by omega)]
      exact Uw_dc (by omega) (by omega) hj (by rw [up_ne (by omega), up_ne z])
theorem atP_0 (u : Nat → Int32) (t : Nat) (w : Int32) : atP u t w 0 = u := by
  funext y
  exact if_neg (by omega)
theorem atP_s {u : Nat → Int32} {t i : Nat} {w x : Int32} (h : x = if i = 0 then w else if i = 2 then -1000003 else if i = 3 then nI 1 else nI 0) : upF (atP u t w i) (8 + 12 * t + i) x = atP u t w (i + 1) := by
  funext y
  unfold upF atP
  by_cases h1 : y = 8 + 12 * t + i
  · rw [if_pos h1, if_pos (show 8 + 12 * t ≤ y ∧ y < 8 + 12 * t + (i + 1) by omega), h, h1]
    by_cases q0 : i = 0
    · rw [if_pos q0, if_pos (by omega)]
    · rw [if_neg q0, if_neg (show ¬ 8 + 12 * t + i = 8 + 12 * t by omega)]
      by_cases q2 : i = 2
      · rw [if_pos q2, if_pos (by omega)]
      · rw [if_neg q2, if_neg (show ¬ 8 + 12 * t + i = 8 + 12 * t + 2 by omega)]
        by_cases q3 : i = 3
        · rw [if_pos q3, if_pos (by omega)]
        · rw [if_neg q3, if_neg (show ¬ 8 + 12 * t + i = 8 + 12 * t + 3 by omega)]
  · rw [if_neg h1]
    by_cases h2 : 8 + 12 * t ≤ y ∧ y < 8 + 12 * t + i
    · rw [if_pos h2, if_pos (show 8 + 12 * t ≤ y ∧ y < 8 + 12 * t + (i + 1) by omega)]
    · rw [if_neg h2, if_neg (show ¬ (8 + 12 * t ≤ y ∧ y < 8 + 12 * t + (i + 1)) by omega)]
theorem atP_o {u : Nat → Int32} {t i y : Nat} {w : Int32} (h : y < 8 + 12 * t ∨ 8 + 12 * t + i ≤ y) : atP u t w i y = u y := by
  unfold atP
  rw [if_neg (by omega)]
/-- a new tenant: his row, and their number -/
def atW (a : Nat → Int32) (n : Int32) : Nat → Int32 := upF (atP a (aT a) n 12) 44 (nI (aT a + 1))
theorem RE_at {n : Int32} (hi : IV (Uw a g y) c) (h3 : aT a < 3) : RE (Uw (atW a n) g y) (uatG (Uw a g y) n) := by
  have o : ∀ i, 44 < i → atW a n i = a i := fun i h => by
    unfold atW
    rw [up_ne (by omega), atP_o (by omega)]
  have hT : uT (Uw a g y) = aT a := rfl
  have hd : wn y ≤ 24 := hi.1.2.2.1.2
  have hg : wn g ≤ 40 := hi.1.2.1.2
  obtain ⟨e2, e3, -⟩ := uat_n (u := Uw a g y) (n := n) (by rw [hT]; omega)
  refine ⟨fun i q => ?_, fun q hq j hj => ?_, fun q hq j hj => ?_⟩
  · by_cases z : i = 447
    · subst z
      rw [Uw_447]
      unfold atW uatG
      rw [up_at, up_at]
      rfl
    · unfold uatG
      rw [up_ne z, hT]
      by_cases q1 : i < 44
      · rw [Uw_a q1]
        unfold atW
        rw [up_ne (by omega)]
        unfold atP
        by_cases q2 : 8 + 12 * aT a ≤ i ∧ i < 8 + 12 * aT a + 12
        · rw [if_pos q2, if_pos q2]
        · rw [if_neg q2, if_neg q2, Uw_a q1]
      · unfold atP
        rw [if_neg (by omega)]
        unfold Uw
        rw [if_neg q1, if_neg q1]
        by_cases q2 : i < 80
        · rw [if_pos q2, if_pos q2]
        · rw [if_neg q2, if_neg q2, if_neg (show ¬ i < 320 by omega), if_neg (show ¬ i < 320 by omega), if_neg (show ¬ i < 440 by omega), if_neg (show ¬ i < 440 by omega), if_neg z, if_neg z, o 45 (by omega), o 50 (by omega), o 48 (by omega), o 46 (by omega), o 47 (by omega), o (51 + (i - 440)) (by omega)]
  · rw [e2] at hq
    have hq' : q < wn g := hq
    rw [uat_o (by rw [hT]; omega) (by omega)]
    exact Uw_gc (by omega) (by omega) hj rfl rfl
  · rw [e3] at hq
    have hq' : q < wn y := hq
    rw [uat_o (by rw [hT]; omega) (by omega)]
    exact Uw_dc (by omega) (by omega) hj rfl
end Re
