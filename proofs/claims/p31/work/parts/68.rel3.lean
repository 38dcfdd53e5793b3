section RLc
variable {f g : Nat → Nat → Int32} {b o c c' : Nat} {u w : Nat → Int32}
theorem RL_fg (h : RL f b u) (hg : ∀ i y, i < 15 → g (b + i) y = f (b + i) y) : RL g b u := by
  obtain ⟨h1, h2, h3, h4, h5, h6, h7, h8⟩ := h
  have h0 : ∀ y, g b y = f b y := fun y => hg 0 y (by omega)
  refine ⟨fun r hr => ?_, fun t ht => ?_, ⟨?_, fun k hk => ⟨?_, fun j hj => ?_⟩⟩, ⟨?_, fun k hk j hj => ?_⟩, fun k hk => ?_, fun r hr => ⟨?_, fun t ht => ?_⟩, ?_, fun t ht ht2 => ?_⟩
  · rw [hg 1 _ (by omega), hg 2 _ (by omega)]
    exact h1 r hr
  · rw [hg 4 _ (by omega), hg 5 _ (by omega), hg 6 _ (by omega)]
    refine ⟨(h2 t ht).1, (h2 t ht).2.1, (h2 t ht).2.2.1, fun r hr => ?_⟩
    rw [hg 7 _ (by omega), hg 8 _ (by omega)]
    exact (h2 t ht).2.2.2 r hr
  · rw [hg 10 _ (by omega)]
    exact h3.1
  · rw [show b + 10 + 1 = b + 11 from rfl, hg 11 _ (by omega)]
    exact (h3.2 k hk).1
  · rw [show b + 10 + 1 = b + 11 from rfl, hg 11 _ (by omega)]
    exact (h3.2 k hk).2 j hj
  · rw [hg 12 _ (by omega)]
    exact h4.1
  · rw [show b + 12 + 1 = b + 13 from rfl, hg 13 _ (by omega)]
    exact h4.2 k hk j hj
  · rw [hg 14 _ (by omega)]
    exact h5 k hk
  · rw [hg 3 _ (by omega)]
    exact (h6 r hr).1
  · rw [hg 9 _ (by omega)]
    exact (h6 r hr).2 t ht
  · unfold RS
    rw [h0, h0, h0, h0, h0, h0]
    exact h7
  · rw [hg 5 _ (by omega), hg 6 _ (by omega)]
    refine ⟨(h8 t ht ht2).1, (h8 t ht ht2).2.1, fun r hr => ?_⟩
    rw [hg 7 _ (by omega), hg 8 _ (by omega), hg 9 _ (by omega)]
    exact (h8 t ht ht2).2.2 r hr
theorem lm_i {i y n : Nat} (hi : i ≠ 0 ∧ i ≠ 10 ∧ i ≠ 12) (hn : lenJ i = n) (hy : y < n) : lm i y := Or.inr (Or.inr ⟨hi.1, hi.2.1, hi.2.2, by rw [hn]; exact hy⟩)
theorem pos_le {i y : Nat} (hi : i < 15) (h : i = 0 → y < 18) : pos i y ≤ 20 := by
  unfold pos
  by_cases z : i = 0
  · rw [if_pos z]
    have := h z
    omega
  · rw [if_neg z]
    omega
theorem RL_cp (h : RL f o u) (hi : MdD u) : RL (cfF f b o) b u := by
  have m1 := hi.1.2
  have m2 := hi.2.1.2
  have m3 := hi.2.2.1.2
  have m4 := hi.2.2.2.2
  obtain ⟨h1, h2, h3, h4, h5, h6, h7, h8⟩ := h
  have k1 : ∀ i y, i < 15 → lm i y → (i = 0 → y < 18) → cfF f b o (b + i) y = f (o + i) y := fun i y h1 h2 h3 => cfT_in h1 h2 (pos_le h1 h3)
  have k0 : ∀ y, 12 ≤ y → y < 18 → cfF f b o b y = f o y := fun y h1 h2 => k1 0 y (by omega) (Or.inl ⟨rfl, h1, h2⟩) (fun _ => h2)
  have kA : ∀ i n y, i < 15 → (i ≠ 0 ∧ i ≠ 10 ∧ i ≠ 12) → lenJ i = n → y < n → cfF f b o (b + i) y = f (o + i) y := fun i n y h1 h2 h3 h4 => k1 i y h1 (lm_i h2 h3 h4) (fun e => absurd e h2.1)
  refine ⟨fun r hr => ?_, fun t ht => ?_, ⟨?_, fun k hk => ⟨?_, fun j hj => ?_⟩⟩, ⟨?_, fun k hk j hj => ?_⟩, fun k hk => ?_, fun r hr => ⟨?_, fun t ht => ?_⟩, ?_, fun t ht ht2 => ?_⟩
  · rw [kA 1 4 r (by omega) (by omega) rfl (by omega), kA 2 4 r (by omega) (by omega) rfl (by omega)]
    exact h1 r hr
  · rw [kA 4 6 t (by omega) (by omega) rfl (by omega), kA 5 6 t (by omega) (by omega) rfl (by omega), kA 6 6 t (by omega) (by omega) rfl (by omega)]
    refine ⟨(h2 t ht).1, (h2 t ht).2.1, (h2 t ht).2.2.1, fun r hr => ?_⟩
    rw [kA 7 24 _ (by omega) (by omega) rfl (by omega), kA 8 24 _ (by omega) (by omega) rfl (by omega)]
    exact (h2 t ht).2.2.2 r hr
  · rw [k1 10 2 (by omega) (Or.inr (Or.inl ⟨Or.inl rfl, rfl⟩)) (by omega)]
    exact h3.1
  · rw [show b + 10 + 1 = b + 11 from rfl, kA 11 240 _ (by omega) (by omega) rfl (by omega)]
    exact (h3.2 k hk).1
  · rw [show b + 10 + 1 = b + 11 from rfl, kA 11 240 _ (by omega) (by omega) rfl (by omega)]
    exact (h3.2 k hk).2 j hj
  · rw [k1 12 2 (by omega) (Or.inr (Or.inl ⟨Or.inr rfl, rfl⟩)) (by omega)]
    exact h4.1
  · rw [show b + 12 + 1 = b + 13 from rfl, kA 13 144 _ (by omega) (by omega) rfl (by omega)]
    exact h4.2 k hk j hj
  · rw [kA 14 6 _ (by omega) (by omega) rfl (by omega)]
    exact h5 k hk
  · rw [kA 3 4 _ (by omega) (by omega) rfl (by omega)]
    exact (h6 r hr).1
  · rw [kA 9 24 _ (by omega) (by omega) rfl (by omega)]
    exact (h6 r hr).2 t ht
  · unfold RS
    rw [k0 _ (by omega) (by omega), k0 _ (by omega) (by omega), k0 _ (by omega) (by omega), k0 _ (by omega) (by omega), k0 _ (by omega) (by omega), k0 _ (by omega) (by omega)]
    exact h7
  · rw [kA 5 6 t (by omega) (by omega) rfl (by omega), kA 6 6 t (by omega) (by omega) rfl (by omega)]
    refine ⟨(h8 t ht ht2).1, (h8 t ht ht2).2.1, fun r hr => ?_⟩
    rw [kA 7 24 _ (by omega) (by omega) rfl (by omega), kA 8 24 _ (by omega) (by omega) rfl (by omega), kA 9 24 _ (by omega) (by omega) rfl (by omega)]
    exact (h8 t ht ht2).2.2 r hr
theorem RL_uw (h : RL f b u) (hi : MdD u) (hw : ∀ y, y < 454 → w y = u y) : RL f b w := by
  have m1 := hi.1.2
  have m2 := hi.2.1.2
  have m3 := hi.2.2.1.2
  have m4 := hi.2.2.2.2
  have hu : SU w u := fun y _ _ h => hw y (by omega)
  obtain ⟨h1, h2, h3, h4, h5, h6, h7, h8⟩ := h
  refine RL_same ⟨h1, h2, h3, h4, h5, h6, h7, h8⟩ hi hu (fun _ _ _ => rfl) (fun r hr => ?_) (fun t ht => ?_) ?_ (fun t ht ht2 => ?_)
  · rw [hw _ (by omega), hw _ (by omega)]
    exact h1 r hr
  · rw [hu.nT] at ht
    rw [hw _ (by omega), hw _ (by omega), hw _ (by omega)]
    refine ⟨(h2 t ht).1, (h2 t ht).2.1, (h2 t ht).2.2.1, fun r hr => ?_⟩
    rw [hw _ (by omega), hw _ (by omega)]
    exact (h2 t ht).2.2.2 r hr
  · unfold RS
    rw [hw _ (by omega), hw _ (by omega), hw _ (by omega), hw _ (by omega), hw _ (by omega), hw _ (by omega)]
    exact h7
  · rw [hu.nT] at ht
    exact h8 t ht ht2
theorem IV_uw (hi : IV u c) (hw : ∀ y, y < 454 → w y = u y) (hc : c ≤ c') : IV w c' := by
  have m1 := hi.1.1.2
  have hu : SU w u := fun y _ _ h => hw y (by omega)
  refine IV_same hi hu (fun t ht => hw _ (by omega)) (fun r hr => ?_) (fun t ht => ?_) ?_
  · rw [hw _ (by omega)]
    exact hi.2.2.1 r hr
  · rw [hu.nT] at ht
    rw [hw _ (by omega), hw _ (by omega), hw _ (by omega)]
    refine ⟨(hi.2.2.2.1 t ht).1, (hi.2.2.2.1 t ht).2.1, fun r hr => ?_⟩
    rw [hw _ (by omega), hw _ (by omega)]
    exact (hi.2.2.2.1 t ht).2.2 r hr
  · have q := hi.2.2.2.2.2.2.2.2
    unfold IT
    rw [hw _ (by omega), hw _ (by omega), hw _ (by omega), hu.nD]
    unfold IT at q
    omega
end RLc
def pst (f : Nat → Nat → Int32) (i : Nat) : Nat → Int32 := fun k => f 176 (454 * i + k)
def RX (f : Nat → Nat → Int32) (c b : Nat) (u : Nat → Int32) : Prop := RL f b u ∧ IV u c ∧ (u 446).toInt ≤ 9999
def KC (x y : Nat) : Prop := x < 19 ∨ (34 < x ∧ x < 172) ∨ x = 175 ∨ x = 176 ∨ x = 178 ∨ (x = 174 ∧ (y = 3 ∨ y = 5))
theorem RX_fg {f g : Nat → Nat → Int32} {b c c' : Nat} {u w : Nat → Int32} (h : RX f c b u) (hc : c ≤ c') (hg : ∀ i y, i < 15 → g (b + i) y = f (b + i) y) (hw : ∀ y, y < 454 → w y = u y) : RX g c' b w := ⟨RL_uw (RL_fg h.1 hg) h.2.1.1 hw, IV_uw h.2.1 hw hc, by rw [hw _ (by omega)]; exact h.2.2⟩
theorem HisD_cg {f g : Nat → Nat → Int32} (h : HisD f) (hg : ∀ x y, 49 < x → x < 172 → g x y = f x y) : HisD g := by
  have e : hs g = hs f := by unfold hs; rw [hg _ _ (by omega) (by omega)]
  refine ⟨by rw [e, hg _ _ (by omega) (by omega)]; exact h.1, by rw [e]; exact h.2.1, fun j hj => LedD_cg (h.2.2 j hj) (fun y => hg _ _ (by omega) (by omega)) (fun y => hg _ _ (by omega) (by omega)) (fun y => hg _ _ (by omega) (by omega))⟩
theorem TxD_cg {f g : Nat → Nat → Int32} (h : TxD f) (hg : g 17 2 = f 17 2) : TxD g := by
  have e : tl g = tl f := by unfold tl; rw [hg]
  exact ⟨by rw [e, hg]; exact h.1, by rw [e]; exact h.2⟩
theorem rot_lo {r : Nat → Nat → Nat} {i : Nat} (h : i < 7) : rotR r 51 i = r 51 (i + 1) := by
  unfold rotR
  rw [u2_ne2 (by omega)]
  unfold rotP
  rw [if_pos ⟨rfl, by omega⟩]
