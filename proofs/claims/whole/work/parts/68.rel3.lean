/-! ===== the relation kept: copies, scratch, history ===== -/
section RLc
variable {f g : Nat → Nat → Int32} {b o c c' : Nat} {u w : Nat → Int32}
theorem RL_fg (h : RL f b u) (hg : ∀ i y, i < 15 → g (b + i) y = f (b + i) y) : RL g b u := by
  obtain ⟨h1, h2, h3, h4, h5, h6, h7, h8⟩ := h
  have h0 : ∀ y, g b y = f b y := fun y => hg 0 y (by omega)
  refine ⟨fun r hr => ?_, fun t ht => ?_, ⟨?_, fun k hk => ⟨?_, fun j hj => ?_⟩⟩, ⟨?_, fun k hk j hj => ?_⟩, fun k hk => ?_, fun r hr => ⟨?_, fun t ht => ?_⟩, ?_, fun t ht ht2 => ?_⟩
  · rw [hg 1 _ (by omega), hg 2 _ (by omega)]
    exact h1 r hr
  · rw [hg 4 _ (by omega), hg 5 _ (by omega), hg 6 _ (by omega)]
    refine ⟨(h2 t ht).1, (h2 t ht).2.1, (h2 t ht).2.2.1, fun r hr => ?_⟩
    rw [hg 7 _ (by omega), hg 8 _ (by omega)]
    exact (h2 t ht).2.2.2 r hr
  · rw [hg 10 _ (by omega)]
    exact h3.1
  · rw [show b + 10 + 1 = b + 11 from rfl, hg 11 _ (by omega)]
    exact (h3.2 k hk).1
  · rw [show b + 10 + 1 = b + 11 from rfl, hg 11 _ (by omega)]
    exact (h3.2 k hk).2 j hj
  · rw [hg 12 _ (by omega)]
    exact h4.1
  · rw [show b + 12 + 1 = b + 13 from rfl, hg 13 _ (by omega)]
    exact h4.2 k hk j hj
  · rw [hg 14 _ (by omega)]
    exact h5 k hk
  · rw [hg 3 _ (by omega)]
    exact (h6 r hr).1
  · rw [hg 9 _ (by omega)]
    exact (h6 r hr).2 t ht
  · unfold RS
    rw [h0, h0, h0, h0, h0, h0]
    exact h7
  · rw [hg 5 _ (by omega), hg 6 _ (by omega)]
    refine ⟨(h8 t ht ht2).1, (h8 t ht ht2).2.1, fun r hr => ?_⟩
    rw [hg 7 _ (by omega), hg 8 _ (by omega), hg 9 _ (by omega)]
    exact (h8 t ht ht2).2.2 r hr
theorem lm_i {i y n : Nat} (hi : i ≠ 0 ∧ i ≠ 10 ∧ i ≠ 12) (hn : lenJ i = n) (hy : y < n) : lm i y := Or.inr (Or.inr ⟨hi.1, hi.2.1, hi.2.2, by rw [hn]; exact hy⟩)
theorem pos_le {i y : Nat} (hi : i < 15) (h : i = 0 → y < 18) : pos i y ≤ 20 := by
  unfold pos
  by_cases z : i = 0
  · rw [if_pos z]
    have := h z
    omega
  · rw [if_neg z]
    omega
theorem RL_cp (h : RL f o u) (hi : MdD u) : RL (cfF f b o) b u := by
  have m1 := hi.1.2
  have m2 := hi.2.1.2
  have m3 := hi.2.2.1.2
  have m4 := hi.2.2.2.2
  obtain ⟨h1, h2, h3, h4, h5, h6, h7, h8⟩ := h
  have k1 : ∀ i y, i < 15 → lm i y → (i = 0 → y < 18) → cfF f b o (b + i) y = f (o + i) y := fun i y h1 h2 h3 => cfT_in h1 h2 (pos_le h1 h3)
  have k0 : ∀ y, 12 ≤ y → y < 18 → cfF f b o b y = f o y := fun y h1 h2 => k1 0 y (by omega) (Or.inl ⟨rfl, h1, h2⟩) (fun _ => h2)
  have kA : ∀ i n y, i < 15 → (i ≠ 0 ∧ i ≠ 10 ∧ i ≠ 12) → lenJ i = n → y < n → cfF f b o (b + i) y = f (o + i) y := fun i n y h1 h2 h3 h4 => k1 i y h1 (lm_i h2 h3 h4) (fun e => absurd e h2.1)
  refine ⟨fun r hr => ?_, fun t ht => ?_, ⟨?_, fun k hk => ⟨?_, fun j hj => ?_⟩⟩, ⟨?_, fun k hk j hj => ?_⟩, fun k hk => ?_, fun r hr => ⟨?_, fun t ht => ?_⟩, ?_, fun t ht ht2 => ?_⟩
  · rw [kA 1 4 r (by omega) (by omega) rfl (by omega), kA 2 4 r (by omega) (by omega) rfl (by omega)]
    exact h1 r hr
  · rw [kA 4 6 t (by omega) (by omega) rfl (by omega), kA 5 6 t (by omega) (by omega) rfl (by omega), kA 6 6 t (by omega) (by omega) rfl (by omega)]
    refine ⟨(h2 t ht).1, (h2 t ht).2.1, (h2 t ht).2.2.1, fun r hr => ?_⟩
    rw [kA 7 24 _ (by omega) (by omega) rfl (by omega), kA 8 24 _ (by omega) (by omega) rfl (by omega)]
    exact (h2 t ht).2.2.2 r hr
  · rw [k1 10 2 (by omega) (Or.inr (Or.inl ⟨Or.inl rfl, rfl⟩)) (by omega)]
    exact h3.1
  · rw [show b + 10 + 1 = b + 11 from rfl, kA 11 240 _ (by omega) (by omega) rfl (by omega)]
    exact (h3.2 k hk).1
  · rw [show b + 10 + 1 = b + 11 from rfl, kA 11 240 _ (by omega) (by omega) rfl (by omega)]
    exact (h3.2 k hk).2 j hj
  · rw [k1 12 2 (by omega) (Or.inr (Or.inl ⟨Or.inr rfl, rfl⟩)) (by omega)]
    exact h4.1
  · rw [show b + 12 + 1 = b + 13 from rfl, kA 13 144 _ (by omega) (by omega) rfl (by omega)]
    exact h4.2 k hk j hj
  · rw [kA 14 6 _ (by omega) (by omega) rfl (by omega)]
    exact h5 k hk
  · rw [kA 3 4 _ (by omega) (by omega) rfl (by omega)]
    exact (h6 r hr).1
  · rw [kA 9 24 _ (by omega) (by omega) rfl (by omega)]
    exact (h6 r hr).2 t ht
  · unfold RS
    rw [k0 _ (by omega) (by omega), k0 _ (by omega) (by omega), k0 _ (by omega) (by omega), k0 _ (by omega) (by omega), k0 _ (by omega) (by omega), k0 _ (by omega) (by omega)]
    exact h7
  · rw [kA 5 6 t (by omega) (by omega) rfl (by omega), kA 6 6 t (by omega) (by omega) rfl (by omega)]
    refine ⟨(h8 t ht ht2).1, (h8 t ht ht2).2.1, fun r hr => ?_⟩
    rw [kA 7 24 _ (by omega) (by omega) rfl (by omega), kA 8 24 _ (by omega) (by omega) rfl (by omega), kA 9 24 _ (by omega) (by omega) rfl (by omega)]
    exact (h8 t ht ht2).2.2 r hr
theorem RL_uw (h : RL f b u) (hi : MdD u) (hw : ∀ y, y < 454 → w y = u y) : RL f b w := by
  have m1 := hi.1.2
  have m2 := hi.2.1.2
  have m3 := hi.2.2.1.2
  have m4 := hi.2.2.2.2
  have hu : SU w u := fun y _ _ h => hw y (by omega)
  obtain ⟨h1, h2, h3, h4, h5, h6, h7, h8⟩ := h
  refine RL_same ⟨h1, h2, h3, h4, h5, h6, h7, h8⟩ hi hu (fun _ _ _ => rfl) (fun r hr => ?_) (fun t ht => ?_) ?_ (fun t ht ht2 => ?_)
  · rw [hw _ (by omega), hw _ (by omega)]
    exact h1 r hr
  · rw [hu.nT] at ht
    rw [hw _ (by omega), hw _ (by omega), hw _ (by omega)]
    refine ⟨(h2 t ht).1, (h2 t ht).2.1, (h2 t ht).2.2.1, fun r hr => ?_⟩
    rw [hw _ (by omega), hw _ (by omega)]
    exact (h2 t ht).2.2.2 r hr
  · unfold RS
    rw [hw _ (by omega), hw _ (by omega), hw _ (by omega), hw _ (by omega), hw _ (by omega), hw _ (by omega)]
    exact h7
  · rw [hu.nT] at ht
    exact h8 t ht ht2
theorem IV_uw (hi : IV u c) (hw : ∀ y, y < 454 → w y = u y) (hc : c ≤ c') : IV w c' := by
  have m1 := hi.1.1.2
  have hu : SU w u := fun y _ _ h => hw y (by omega)
  refine IV_same hi hu (fun t ht => hw _ (by omega)) (fun r hr => ?_) (fun t ht => ?_) ?_
  · rw [hw _ (by omega)]
    exact hi.2.2.1 r hr
  · rw [hu.nT] at ht
    rw [hw _ (by omega), hw _ (by omega), hw _ (by omega)]
    refine ⟨(hi.2.2.2.1 t ht).1, (hi.2.2.2.1 t ht).2.1, fun r hr => ?_⟩
    rw [hw _ (by omega), hw _ (by omega)]
    exact (hi.2.2.2.1 t ht).2.2 r hr
  · have q := hi.2.2.2.2.2.2.2.2
    unfold IT
    rw [hw _ (by omega), hw _ (by omega), hw _ (by omega), hu.nD]
    unfold IT at q
    omega
end RLc
def pst (f : Nat → Nat → Int32) (i : Nat) : Nat → Int32 := fun k => f 176 (454 * i + k)
def RX (f : Nat → Nat → Int32) (c b : Nat) (u : Nat → Int32) : Prop := RL f b u ∧ IV u c ∧ (u 446).toInt ≤ 9999
def RR (c : Nat) (M : Mem) : Prop := WB M ∧ RX (mI M) c 20 (mI M 175) ∧ MuD (mI M) ∧ mI M 50 1 = mI M 174 3 ∧ (∀ i, i < mU (mI M) → RX (mI M) c (mR M 51 i) (pst (mI M) i)) ∧ MtD (mI M) ∧ mI M 17 2 = mI M 174 5 ∧ ∀ y, y < tL (mI M) → mI M 18 y = mI M 178 y
def KC (x y : Nat) : Prop := x < 19 ∨ (34 < x ∧ x < 172) ∨ x = 175 ∨ x = 176 ∨ x = 178 ∨ (x = 174 ∧ (y = 3 ∨ y = 5))
theorem RX_fg {f g : Nat → Nat → Int32} {b c c' : Nat} {u w : Nat → Int32} (h : RX f c b u) (hc : c ≤ c') (hg : ∀ i y, i < 15 → g (b + i) y = f (b + i) y) (hw : ∀ y, y < 454 → w y = u y) : RX g c' b w := ⟨RL_uw (RL_fg h.1 hg) h.2.1.1 hw, IV_uw h.2.1 hw hc, by rw [hw _ (by omega)]; exact h.2.2⟩
theorem HisD_cg {f g : Nat → Nat → Int32} (h : HisD f) (hg : ∀ x y, 49 < x → x < 172 → g x y = f x y) : HisD g := by
  have e : hs g = hs f := by unfold hs; rw [hg _ _ (by omega) (by omega)]
  refine ⟨by rw [e, hg _ _ (by omega) (by omega)]; exact h.1, by rw [e]; exact h.2.1, fun j hj => LedD_cg (h.2.2 j hj) (fun y => hg _ _ (by omega) (by omega)) (fun y => hg _ _ (by omega) (by omega)) (fun y => hg _ _ (by omega) (by omega))⟩
theorem TxD_cg {f g : Nat → Nat → Int32} (h : TxD f) (hg : g 17 2 = f 17 2) : TxD g := by
  have e : tl g = tl f := by unfold tl; rw [hg]
  exact ⟨by rw [e, hg]; exact h.1, by rw [e]; exact h.2⟩
/-- nothing of the state has changed -/
theorem RR_scr {c : Nat} {M : Mem} {g : Nat → Nat → Int32} (h : RR c M) (hg : ∀ x y, KC x y ∧ ¬ (34 < x ∧ x < 50) ∨ 19 < x ∧ x < 35 → g x y = mI M x y) (hD : LedD g 35) : RR (c + 1) (mW M g) := by
  obtain ⟨⟨hB, hD0, hD2, hH, hTx⟩, hX, hU, hh, hP, hT, ht, hy⟩ := h
  have k : ∀ x y, x < 19 ∨ (19 < x ∧ x < 35) ∨ (49 < x ∧ x < 172) ∨ x = 175 ∨ x = 176 ∨ x = 178 ∨ (x = 174 ∧ (y = 3 ∨ y = 5)) → g x y = mI M x y := fun x y q => hg x y (by unfold KC; omega)
  have e1 : mU g = mU (mI M) := by unfold mU; rw [k _ _ (by omega)]
  have e2 : tL g = tL (mI M) := by unfold tL; rw [k _ _ (by omega)]
  refine ⟨⟨hB, LedD_cg hD0 (fun y => k _ _ (by omega)) (fun y => k _ _ (by omega)) (fun y => k _ _ (by omega)), hD, HisD_cg hH (fun x y h1 h2 => k _ _ (by omega)), TxD_cg hTx (k _ _ (by omega))⟩, RX_fg hX (Nat.le_succ _) (fun i y hi => k _ _ (by omega)) (fun y hy => k _ _ (by omega)), ?_, ?_, fun i hi => ?_, ?_, ?_, fun y hy2 => ?_⟩
  · unfold MuD
    rw [mI_mW, e1, k _ _ (by omega)]
    exact hU
  · rw [mI_mW, k _ _ (by omega), k _ _ (by omega)]
    exact hh
  · rw [mI_mW, e1] at hi
    have hi8 : i < 8 := Nat.lt_of_lt_of_le hi hU.2
    obtain ⟨j, hj, e⟩ := bk_st hB hi8
    refine RX_fg (hP i hi) (Nat.le_succ _) (fun q y hq => ?_) (fun y hy => ?_)
    · rw [mI_mW, mR_mW, e]
      exact k _ _ (by omega)
    · unfold pst
      rw [mI_mW]
      exact k _ _ (by omega)
  · unfold MtD
    rw [mI_mW, e2, k _ _ (by omega)]
    exact hT
  · rw [mI_mW, k _ _ (by omega), k _ _ (by omega)]
    exact ht
  · rw [mI_mW, e2] at hy2
    rw [mI_mW, k _ _ (by omega), k _ _ (by omega)]
    exact hy y hy2
theorem RR_up {c : Nat} {M : Mem} (h : RR c M) : RR (c + 1) M := RR_scr h (fun _ _ _ => rfl) h.1.2.2.1
theorem rot_lo {r : Nat → Nat → Nat} {i : Nat} (h : i < 7) : rotR r 51 i = r 51 (i + 1) := by
  unfold rotR
  rw [u2_ne2 (by omega)]
  unfold rotP
  rw [if_pos ⟨rfl, by omega⟩]
/-- a change: the state before is kept, on both sides -/
theorem RR_change {c : Nat} {M : Mem} {F : Nat → Nat → Int32} {w : Nat → Int32} (h : RR c M) (hF : ∀ x y, KC x y → F x y = mI (kpM M) x y) (hx : RX F (c + 1) 20 w) : RR (c + 1) (mW (mW (kpM M) F) (rwF (kpU F) 175 w)) := by
  obtain ⟨hW, hX, hU, hh, hP, hT, ht, hy⟩ := h
  obtain ⟨hB2, -, hDt2, hH2, hTx2⟩ := kp_W hW
  obtain ⟨hB, hD, hD2, hH, hTx⟩ := hW
  have k : ∀ x y, x < 50 ∨ 171 < x → mI (kpM M) x y = mI M x y := fun x y q => kp_i hB hH q
  have eG : ∀ x y, x < 174 → rwF (kpU F) 175 w x y = F x y := fun x y q => by
    unfold kpU
    rw [rw_ne (by omega), rw_ne (by omega), rw_ne (by omega)]
  have eF : ∀ x y, x < 174 → KC x y → rwF (kpU F) 175 w x y = mI (kpM M) x y := fun x y q1 q2 => (eG x y q1).trans (hF x y q2)
  have hB1 := kpM1_B hB
  have hle := kpS1_le hH
  have eU : mU F = mU (mI M) := by unfold mU; rw [hF _ _ (by unfold KC; omega), k _ _ (by omega)]
  have eH : hs (mI M) = mU (mI M) := by unfold hs mU; rw [hh]
  have eS : kpS F = kpS1 M := by unfold kpS kpS1; rw [eU, eH]
  have c174 : ∀ y, rwF (kpU F) 175 w 174 y = upF (F 174) 3 (nI (kpS F + 1)) y := fun y => by
    unfold kpU
    rw [rw_ne (by omega), rw_ne (by omega), rw_at]
  have c178 : ∀ y, rwF (kpU F) 175 w 178 y = F 178 y := fun y => by
    unfold kpU
    rw [rw_ne (by omega), rw_ne (by omega), rw_ne (by omega)]
  have c176 : ∀ y, rwF (kpU F) 175 w 176 y = ppU (kpR F) (F 175) (kpS F) 454 y := fun y => by
    unfold kpU
    rw [rw_ne (by omega), rw_at]
  have e1 : mU (rwF (kpU F) 175 w) = kpS1 M + 1 := by
    unfold mU
    rw [c174, up_at, eS, nI_clamp (by omega)]
  have e2 : tL (rwF (kpU F) 175 w) = tL (mI M) := by
    unfold tL
    rw [c174, up_ne (by omega), hF _ _ (by unfold KC; omega), k _ _ (by omega)]
  have h50 : mI (kpM M) 50 1 = nI (kpS1 M + 1) := u2_eq (f := cfF (mI (kpM1 M)) (mR (kpM1 M) 51 (kpS1 M)) 20) (a := 50) (k := 1)
  obtain ⟨jS, hjS, eSt⟩ := bk_st hB1 hle
  refine ⟨⟨hB2, rl_LedD (RL_fg hx.1 (fun i y hi => eG _ _ (by omega))) hx.2.1.1, LedD_cg hDt2 (fun y => ?_) (fun y => ?_) (fun y => ?_), HisD_cg hH2 (fun x y h1 h2 => ?_), TxD_cg hTx2 ?_⟩, RX_fg hx (Nat.le_refl _) (fun i y hi => eG _ _ (by omega)) (fun y hy => ?_), ?_, ?_, fun i hi => ?_, ?_, ?_, fun y hy2 => ?_⟩
  · rw [mI_mW]
    exact eF _ _ (by omega) (by unfold KC; omega)
  · rw [mI_mW]
    exact eF _ _ (by omega) (by unfold KC; omega)
  · rw [mI_mW]
    exact eF _ _ (by omega) (by unfold KC; omega)
  · rw [mI_mW]
    exact eF _ _ (by omega) (by unfold KC; omega)
  · rw [mI_mW]
    exact eF _ _ (by omega) (by unfold KC; omega)
  · rw [mI_mW, rw_at]
  · unfold MuD
    rw [mI_mW, e1, c174, up_at, eS]
    exact ⟨rfl, by omega⟩
  · rw [mI_mW, c174, up_at, eG _ _ (by omega), hF _ _ (by unfold KC; omega), h50, eS]
  · rw [mI_mW, e1] at hi
    show RX (rwF (kpU F) 175 w) (c + 1) (mR (kpM1 M) 51 i) (pst (rwF (kpU F) 175 w) i)
    obtain ⟨j, hj, e⟩ := bk_st hB1 (show i < 8 by omega)
    have cell : ∀ x y, 51 < x → x < 172 → rwF (kpU F) 175 w x y = cfF (mI (kpM1 M)) (52 + 15 * jS) 20 x y := fun x y h1 h2 => by
      rw [eG _ _ (by omega), hF _ _ (by unfold KC; omega)]
      show u2 (cfF (mI (kpM1 M)) (mR (kpM1 M) 51 (kpS1 M)) 20) 50 1 (nI (kpS1 M + 1)) x y = _
      rw [u2_ne (by omega), eSt]
    by_cases z : i = kpS1 M
    · rw [z, eSt]
      have hcp := RL_cp (b := 52 + 15 * jS) (RL_fg (g := mI (kpM1 M)) hX.1 (fun q y hq => kpM1_i (by omega))) hX.2.1.1
      refine RX_fg (f := cfF (mI (kpM1 M)) (52 + 15 * jS) 20) ⟨hcp, hX.2.1, hX.2.2⟩ (Nat.le_succ _) (fun q y hq => cell _ _ (by omega) (by omega)) (fun y hy => ?_)
      unfold pst
      rw [c176, eS]
      unfold ppU
      rw [if_pos (by omega), show 454 * kpS1 M + y - 454 * kpS1 M = y by omega, hF _ _ (by unfold KC; omega), k _ _ (by omega)]
    · have hne : j ≠ jS := fun q => z (bk_inj hB1 i (kpS1 M) (by omega) hle (by rw [e, eSt, q]))
      rw [e]
      by_cases hfull : mU (mI M) < 8
      · have eM : kpM1 M = M := by unfold kpM1; rw [eH, if_pos hfull]
        have eS2 : kpS1 M = mU (mI M) := by unfold kpS1; rw [eH, if_pos hfull]
        have old := hP i (by omega)
        rw [eM] at e
        rw [e] at old
        refine RX_fg old (Nat.le_succ _) (fun q y hq => ?_) (fun y hy => ?_)
        · rw [cell _ _ (by omega) (by omega), cfF_out (by omega), kpM1_i (by omega)]
        · unfold pst
          rw [c176, eS]
          unfold ppU kpR
          rw [if_neg (by omega), eU, if_pos hfull, hF _ _ (by unfold KC; omega), k _ _ (by omega)]
      · have eM : kpM1 M = dropM M := by unfold kpM1; rw [eH, if_neg hfull]
        have eS2 : kpS1 M = 7 := by unfold kpS1; rw [eH, if_neg hfull]
        have hU8 := hU.2
        have old := hP (i + 1) (by omega)
        have er : mR (kpM1 M) 51 i = mR M 51 (i + 1) := by
          rw [eM]
          exact rot_lo (by omega)
        rw [← er, e] at old
        refine RX_fg old (Nat.le_succ _) (fun q y hq => ?_) (fun y hy => ?_)
        · rw [cell _ _ (by omega) (by omega), cfF_out (by omega), kpM1_i (by omega)]
        · unfold pst
          rw [c176, eS]
          unfold ppU kpR
          rw [if_neg (by omega), eU, if_neg hfull]
          unfold shU
          rw [if_pos (by omega), hF _ _ (by unfold KC; omega), k _ _ (by omega), show 454 * i + y + 454 = 454 * (i + 1) + y by omega]
  · unfold MtD
    rw [mI_mW, e2, c174, up_ne (by omega), hF _ _ (by unfold KC; omega), k _ _ (by omega)]
    exact hT
  · rw [mI_mW, c174, up_ne (by omega), eG _ _ (by omega), hF _ _ (by unfold KC; omega), hF _ _ (by unfold KC; omega), k _ _ (by omega), k _ _ (by omega)]
    exact ht
  · rw [mI_mW, e2] at hy2
    rw [mI_mW, c178, eG _ _ (by omega), hF _ _ (by unfold KC; omega), hF _ _ (by unfold KC; omega), k _ _ (by omega), k _ _ (by omega)]
    exact hy y hy2
/-- undo -/
theorem st_undo {c : Nat} {M : Mem} (h : RR c M) : udR (mI M) = (if mU (mI (rsM M)) = 0 then -1000001 else nI (mU (mI (rsM M)) - 1)) ∧ RR (c + 1) (mW (rsM M) (udU (mI (rsM M)))) := by
  have h' := h
  obtain ⟨⟨hB, hD, hD2, hH, hTx⟩, hX, hU, hh, hP, hT, ht, hy⟩ := h
  have eH : hs (mI M) = mU (mI M) := by unfold hs mU; rw [hh]
  by_cases z : mU (mI M) = 0
  · have eM : rsM M = M := by unfold rsM; rw [eH, if_pos z]
    rw [eM]
    unfold udR udU
    rw [eH, if_pos z, if_pos z]
    exact ⟨rfl, RR_up h'⟩
  · have hU8 := hU.2
    have eM : rsM M = mW M (cfF (u2 (mI M) 50 1 (nI (mU (mI M) - 1))) 20 (mR M 51 (mU (mI M) - 1))) := by unfold rsM; rw [eH, if_neg z]
    obtain ⟨j, hj, e⟩ := bk_st hB (show mU (mI M) - 1 < 8 by omega)
    have kI : ∀ x y, x < 20 ∨ 34 < x → mI (rsM M) x y = u2 (mI M) 50 1 (nI (mU (mI M) - 1)) x y := fun x y q => by
      rw [eM, mI_mW, cfF_out (by omega)]
    have eU : mU (mI (rsM M)) = mU (mI M) := by unfold mU; rw [kI _ _ (by omega), u2_ne (by omega)]
    rw [eU]
    have hst := hP (mU (mI M) - 1) (by omega)
    have hcp := RL_cp (b := 20) (RL_fg (g := u2 (mI M) 50 1 (nI (mU (mI M) - 1))) hst.1 (fun i y hi => by rw [e]; exact u2_ne (by omega))) hst.2.1.1
    unfold udR
    rw [eH, if_neg z]
    refine ⟨rfl, ?_⟩
    have eR : mR (rsM M) = mR M := by rw [eM]; rfl
    have eN : BkS (rsM M) := by rw [eM]; exact hB
    unfold udU
    rw [eU, if_neg z]
    have c175 : ∀ y, y < 454 → cpU (mI (rsM M) 175) (fun k => mI (rsM M) 176 (454 * (mU (mI M) - 1) + k)) 454 y = pst (mI M) (mU (mI M) - 1) y := fun y hy => by
      unfold cpU pst
      rw [if_pos hy]
      show mI (rsM M) 176 (454 * (mU (mI M) - 1) + y) = _
      rw [kI _ _ (by omega), u2_ne (by omega)]
    have cN : ∀ x y, x < 174 → rwF (rwF (mI (rsM M)) 174 (upF (mI (rsM M) 174) 3 (nI (mU (mI M) - 1)))) 175 (cpU (mI (rsM M) 175) (fun k => mI (rsM M) 176 (454 * (mU (mI M) - 1) + k)) 454) x y = mI (rsM M) x y := fun x y q => by rw [rw_ne (by omega), rw_ne (by omega)]
    have cO : ∀ x y, x < 20 ∨ (34 < x ∧ x < 174 ∧ x ≠ 50) → rwF (rwF (mI (rsM M)) 174 (upF (mI (rsM M) 174) 3 (nI (mU (mI M) - 1)))) 175 (cpU (mI (rsM M) 175) (fun k => mI (rsM M) 176 (454 * (mU (mI M) - 1) + k)) 454) x y = mI M x y := fun x y q => by rw [cN _ _ (by omega), kI _ _ (by omega), u2_ne (by omega)]
    have c174 : ∀ y, rwF (rwF (mI (rsM M)) 174 (upF (mI (rsM M) 174) 3 (nI (mU (mI M) - 1)))) 175 (cpU (mI (rsM M) 175) (fun k => mI (rsM M) 176 (454 * (mU (mI M) - 1) + k)) 454) 174 y = upF (mI (rsM M) 174) 3 (nI (mU (mI M) - 1)) y := fun y => by rw [rw_ne (by omega), rw_at]
    have c176 : ∀ x y, x = 176 ∨ x = 178 → rwF (rwF (mI (rsM M)) 174 (upF (mI (rsM M) 174) 3 (nI (mU (mI M) - 1)))) 175 (cpU (mI (rsM M) 175) (fun k => mI (rsM M) 176 (454 * (mU (mI M) - 1) + k)) 454) x y = mI M x y := fun x y q => by rw [rw_ne (by omega), rw_ne (by omega), kI _ _ (by omega), u2_ne (by omega)]
    have cT : ∀ y, rwF (rwF (mI (rsM M)) 174 (upF (mI (rsM M) 174) 3 (nI (mU (mI M) - 1)))) 175 (cpU (mI (rsM M) 175) (fun k => mI (rsM M) 176 (454 * (mU (mI M) - 1) + k)) 454) 175 y = cpU (mI (rsM M) 175) (fun k => mI (rsM M) 176 (454 * (mU (mI M) - 1) + k)) 454 y := fun y => by rw [rw_at]
    generalize rwF (rwF (mI (rsM M)) 174 (upF (mI (rsM M) 174) 3 (nI (mU (mI M) - 1)))) 175 (cpU (mI (rsM M) 175) (fun k => mI (rsM M) 176 (454 * (mU (mI M) - 1) + k)) 454) = G at *
    have hX2 : RX G (c + 1) 20 (G 175) := by
      refine RX_fg (f := mI (rsM M)) (u := pst (mI M) (mU (mI M) - 1)) ⟨?_, hst.2.1, hst.2.2⟩ (Nat.le_succ _) (fun i y hi => cN _ _ (by omega)) (fun y hy => by rw [cT, c175 y hy])
      rw [eM, mI_mW]
      exact hcp
    have e50 : G 50 1 = nI (mU (mI M) - 1) := by rw [cN _ _ (by omega), kI _ _ (by omega), u2_eq]
    have e3 : G 174 3 = nI (mU (mI M) - 1) := by rw [c174, up_at]
    have e5 : G 174 5 = mI M 174 5 := by rw [c174, up_ne (by omega), kI _ _ (by omega), u2_ne (by omega)]
    have eu : mU G = mU (mI M) - 1 := tN_of e3 (by omega)
    have et : tL G = tL (mI M) := by unfold tL; rw [e5]
    have eh : hs G = mU (mI M) - 1 := by unfold hs; rw [e50, nI_clamp (by omega)]
    refine ⟨⟨eN, rl_LedD hX2.1 hX2.2.1.1, LedD_cg hD2 (fun y => cO _ _ (by omega)) (fun y => cO _ _ (by omega)) (fun y => cO _ _ (by omega)), ⟨?_, ?_, fun j hj => LedD_cg (hH.2.2 j hj) (fun y => cO _ _ (by omega)) (fun y => cO _ _ (by omega)) (fun y => cO _ _ (by omega))⟩, TxD_cg hTx (cO _ _ (by omega))⟩, hX2, ⟨?_, ?_⟩, ?_, fun i hi => ?_, ?_, ?_, fun y hy2 => ?_⟩
    · rw [mI_mW, eh, e50]
    · rw [mI_mW, eh]
      omega
    · rw [mI_mW, eu, e3]
    · rw [mI_mW, eu]
      omega
    · rw [mI_mW, e50, e3]
    · rw [mI_mW, eu] at hi
      obtain ⟨j2, hj2, e'⟩ := bk_st hB (show i < 8 by omega)
      have old := hP i (by omega)
      rw [e'] at old
      rw [mI_mW, mR_mW, eR, e']
      exact RX_fg old (Nat.le_succ _) (fun q y hq => cO _ _ (by omega)) (fun y hy => c176 _ _ (Or.inl rfl))
    · unfold MtD
      rw [mI_mW, et, e5]
      exact hT
    · rw [mI_mW, e5, cO _ _ (by omega)]
      exact ht
    · rw [mI_mW, et] at hy2
      rw [mI_mW, cO _ _ (by omega), c176 _ _ (Or.inr rfl)]
      exact hy y hy2
