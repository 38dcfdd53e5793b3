/-! ===== demand by demand granted: the rows one after the other ===== -/
abbrev Tr : Type := (Nat → Int32) × (Nat → Int32) × (Nat → Int32)
def tU (T : Tr) : Nat → Int32 := Uw T.1 T.2.1 T.2.2
def tG (T : Tr) (k : Nat) : Tr := (upF T.1 48 (T.1 48 + nI 1), gnW T.2.1 (T.2.2 k) (T.1 48), drW T.2.2 k)
noncomputable def tN (T : Tr) : Int32 := nxW T.1 T.2.1 T.2.2
def TI (T : Tr) : Prop := IV (tU T) (kaU (tU T)) ∧ LX T.1 T.2.1 ∧ kaU (tU T) ≤ 16
noncomputable def tS (T : Tr) : Nat → Tr
  | 0 => T
  | n + 1 => tG (tS T n) (tN (tS T n)).toNatClampNeg
section Ch
variable {T : Tr} {f : Nat → Nat → Int32} {a b k : Nat}
theorem TI.sm (h : TI T) : (wn T.2.1 : Int) ≤ (T.1 48).toInt ∧ (T.1 48).toInt.toNat + wn T.2.2 ≤ 16 := ⟨h.2.1.2.2.2.2.1, h.2.2⟩
theorem TI.D24 (h : TI T) : WnD T.2.2 24 := h.1.1.2.2.1
theorem TI.G21 (h : TI T) : WnD T.2.1 21 := ⟨h.1.1.2.1.1, by have := h.sm; omega⟩
theorem TI.G40 (h : TI T) : WnD T.2.1 40 := h.1.1.2.1
theorem TI.D40 (h : TI T) : WnD T.2.2 40 := ⟨h.D24.1, by have := h.D24.2; omega⟩
theorem TI.A (h : TI T) : ATD T.1 := ⟨h.1.1.1.1, h.2.1.1⟩
theorem TI.own (h : TI T) (hk : k < wn T.2.2) : ∃ q, q < 3 ∧ owV (T.2.2 k) = nI q := by
  have h24 := h.D24.2
  have h3 := h.2.1.1
  obtain ⟨q, hq, e⟩ := (h.1.2.2.2.2.2.1 k hk).2
  refine ⟨q, ?_, (Uw_w (by omega)).symm.trans e⟩
  have : q < aT T.1 := hq
  omega
theorem TI_G (h : TI T) (hk : k < wn T.2.2) : TI (tG T k) ∧ kaU (tU (tG T k)) = kaU (tU T) ∧ wn (tG T k).2.2 = wn T.2.2 - 1 ∧ aT (tG T k).1 = aT T.1 := by
  have hs := h.sm
  have hd := h.D24.2
  have hw := h.G21.2
  obtain ⟨hi, hx, h16⟩ := h
  have hg : uG (tU T) < 40 := by show wn T.2.1 < 40; omega
  have ea : (T.1 48 + nI 1).toInt = (T.1 48).toInt + 1 := by rw [nn_1, ti_add (by rw [ti_1]; omega) (by rw [ti_1]; omega), ti_1]
  have eR : RE (tU (tG T k)) (grU (tU T) k) := RE_gr hi hw hk
  have hI : IV (grU (tU T) k) (kaU (tU T)) := IV_sv hi hk hg (by omega)
  have ek : kaU (tU (tG T k)) = kaU (tU T) := by
    show ((upF T.1 48 (T.1 48 + nI 1)) 48).toInt.toNat + wn (drW T.2.2 k) = (T.1 48).toInt.toNat + wn T.2.2
    rw [up_at, ea, dr_wn (by omega)]
    omega
  have eT : aT (upF T.1 48 (T.1 48 + nI 1)) = aT T.1 := by
    unfold aT
    rw [up_ne (by omega)]
  refine ⟨⟨IV_re hI eR, ?_, by rw [ek]; exact h16⟩, ek, dr_wn (by omega), eT⟩
  obtain ⟨x1, x2, x3, x4, x5, x6, x7⟩ := hx
  have gv := gn_v (g := T.2.1) (v := T.2.2 k) (x := T.1 48) (by omega)
  have gl : ∀ j, j < wn T.2.1 → gnW T.2.1 (T.2.2 k) (T.1 48) (40 + j) = T.2.1 (40 + j) := fun j hj => gn_lo (by omega) (by omega) (by omega)
  show LX (upF T.1 48 (T.1 48 + nI 1)) (gnW T.2.1 (T.2.2 k) (T.1 48))
  unfold LX
  rw [eT, up_ne (show 45 ≠ 48 by omega), up_ne (show 47 ≠ 48 by omega), up_ne (show 50 ≠ 48 by omega), up_at, ea, gn_wn (by omega)]
  refine ⟨x1, x2, x3, x4, by omega, fun i j hij hj => ?_, fun j hj => ?_⟩
  · rw [gl i (by omega)]
    by_cases z : j = wn T.2.1
    · rw [z, gv.2]
      exact x7 i (by omega)
    · rw [gl j (by omega)]
      exact x6 i j hij (by omega)
  · by_cases z : j = wn T.2.1
    · rw [z, gv.2]
      omega
    · rw [gl j (by omega)]
      have := x7 j (by omega)
      omega
theorem RL_G (hL : RL f b (tU T)) (h : TI T) (hk : k < wn T.2.2) : RL (svF f b k) b (tU (tG T k)) := by
  have hs := h.sm
  have hw := h.G21.2
  have h16 := h.2.2
  have hg : uG (tU T) < 40 := by show wn T.2.1 < 40; omega
  exact RL_re (RL_sv hL h.1 hk hg) (IV_sv h.1 hk hg (by omega)).1 (RE_gr h.1 hw hk)
theorem tN_cases (T : Tr) : tN T = -1 ∨ ∃ k, k < wn T.2.2 ∧ tN T = nI k := nx_cases _ _ _
theorem tS_s {n : Nat} (e : tN (tS T n) = nI k) (hk : k < 2 ^ 31) : tS T (n + 1) = tG (tS T n) k := by
  rw [tS, e, nI_clamp hk]
set_option maxRecDepth 100000 in
theorem sa_tS (ha : a < b ∨ b + 14 < a) : ∀ m i (f : Nat → Nat → Int32), RL f b (tU (tS T i)) → TI (tS T i) → wn (tS T i).2.2 ≤ m → ∃ n, i ≤ n ∧ (saP b a m f i).2 = n ∧ tN (tS T n) = -1 ∧ (∀ q, i ≤ q → q < n → ∃ k, k < wn (tS T q).2.2 ∧ k < 24 ∧ tN (tS T q) = nI k ∧ (saP b a m f i).1 a q = owV ((tS T q).2.2 k)) ∧ (∀ q, q < i → (saP b a m f i).1 a q = f a q) ∧ RL (saP b a m f i).1 b (tU (tS T n)) ∧ TI (tS T n) ∧ kaU (tU (tS T n)) = kaU (tU (tS T i)) ∧ aT (tS T n).1 = aT (tS T i).1 := by
  intro m
  induction m with
  | zero =>
    intro i f hL hI hm
    have e0 : saP b a 0 f i = (f, i) := rfl
    rw [e0]
    refine ⟨i, Nat.le_refl _, rfl, ?_, fun q h1 h2 => by omega, fun q _ => rfl, hL, hI, rfl, rfl⟩
    rcases tN_cases (tS T i) with e | ⟨k, hk, -⟩
    · exact e
    · omega
  | succ m ih =>
    intro i f hL hI hm
    have hd := hI.D24.2
    have hw := hI.G21.2
    have hnd : ndF f b = tN (tS T i) := nd_L hL hI.1 hI.2.1.1
    have eG : csz f (b + 10) = wn (tS T i).2.1 := rl_G hL
    unfold saP
    rw [hnd, eG]
    rcases tN_cases (tS T i) with e | ⟨k, hk, e⟩
    · rw [e, if_neg (fun q => m1_ge q.2)]
      exact ⟨i, Nat.le_refl _, rfl, e, fun q h1 h2 => by omega, fun q _ => rfl, hL, hI, rfl, rfl⟩
    · have es := tS_s (T := T) (n := i) e (by omega)
      obtain ⟨g1, g2, g3, g4⟩ := TI_G hI hk
      rw [e, if_pos ⟨by omega, nI_ge0 (by omega)⟩, nI_clamp (by omega)]
      have hL2 : RL (u2 (svF f b k) a i (f (b + 13) (k * 6 + 4))) b (tU (tS T (i + 1))) := by
        rw [es]
        exact RL_fg (RL_G hL hI hk) (fun j y hj => u2_ne (by omega))
      obtain ⟨n, h1, h2, h3, h4, h5, h6, h7, h8, h9⟩ := ih (i + 1) _ hL2 (by rw [es]; exact g1) (by rw [es, g3]; omega)
      refine ⟨n, by omega, h2, h3, fun q q1 q2 => ?_, fun q hq => ?_, h6, h7, by rw [h8, es, g2], by rw [h9, es, g4]⟩
      · by_cases z : q = i
        · subst z
          refine ⟨k, hk, by omega, e, ?_⟩
          rw [h5 q (by omega), u2_eq, rl_dd hL hk (by omega)]
          exact Uw_w (by omega)
        · exact h4 q (by omega) q2
      · rw [h5 q (by omega), u2_ne2 (by omega)]
        exact svF_o (by omega)
/-- the plan -/
theorem pl_tS (hL : RL f 20 (tU T)) (hI : TI T) : ∃ n, plK f = n ∧ tN (tS T n) = -1 ∧ ∀ q, q < n → ∃ k, k < wn (tS T q).2.2 ∧ k < 24 ∧ tN (tS T q) = nI k ∧ plG f 172 q = owV ((tS T q).2.2 k) := by
  obtain ⟨n, -, h2, h3, h4, -, -, -, -, -⟩ := sa_tS (T := T) (a := 172) (b := 35) (by omega) 24 0 (cfF f 35 20) (RL_cp hL hI.1.1) hI hI.D24.2
  exact ⟨n, h2, h3, fun q hq => h4 q (Nat.zero_le _) hq⟩
theorem tS_uni {n i : Nat} (h1 : tN (tS T n) = -1) (h2 : ∀ q, q < n → ∃ k, k < 100 ∧ tN (tS T q) = nI k) (h3 : tN (tS T i) = -1) (h4 : ∀ q, q < i → ∃ k, k < 100 ∧ tN (tS T q) = nI k) : n = i := by
  rcases Nat.lt_trichotomy n i with z | z | z
  · obtain ⟨k, hk, e⟩ := h4 n z
    rw [h1] at e
    exact absurd e.symm (nI_m1 (by omega))
  · exact z
  · obtain ⟨k, hk, e⟩ := h2 i z
    rw [h3] at e
    exact absurd e.symm (nI_m1 (by omega))
/-! the law's methods over such rows -/
theorem pc_next_T {M : Mem} {a g y : Nat} {K : Option Value → Mem → Prop} (ha : Lw M a) (hg : Lw M g) (hy : Lw M y) (e1 : mI M a = T.1) (e2 : mI M g = T.2.1) (e3 : mI M y = T.2.2) (hT : TI T) : pcall e_W_next [.ref a, .ref g, .ref y] M K = K (some (.int (tN T))) M := by
  rw [pc_W_next (a := a) (g := g) (y := y) (M := M) ⟨ha, hg, hy, by rw [e2]; exact hT.G40, by rw [e3]; exact hT.D40, by rw [e1]; exact hT.A, by rw [e1]; exact fun t ht => ShOk_L hT.1 (by have := hT.2.1.1; omega) ht⟩, e1, e2, e3]
  rfl
theorem pc_grants_T {M : Mem} {a g y : Nat} {K : Option Value → Mem → Prop} (ha : Lw M a) (hg : Lw M g) (hy : Lw M y) (hag : a < g) (hgy : g < y) (e2 : mI M g = T.2.1) (e3 : mI M y = T.2.2) (hT : TI T) (hk : k < wn T.2.2) : pcall e_W_grants [.ref a, .ref g, .ref y, .int (nI k)] M K = K (some (.int (owV (T.2.2 k)))) (mW M (grG (mI M) a g y k)) := by
  have := hT.D24.2
  rw [pc_W_grants (a := a) (g := g) (y := y) (k := k) (M := M) ⟨ha, hg, hy, hag, hgy, by rw [e2]; exact hT.G21, by rw [e3]; exact hT.D40, by rw [e3]; exact hk⟩ (by omega), e3]
def trF (f : Nat → Nat → Int32) (a g y : Nat) (T : Tr) : Nat → Nat → Int32 := rwF (rwF (rwF f a T.1) g T.2.1) y T.2.2
theorem tr_a {a g y : Nat} (h : a < g) (h2 : g < y) : trF f a g y T a = T.1 ∧ trF f a g y T g = T.2.1 ∧ trF f a g y T y = T.2.2 := by
  unfold trF
  refine ⟨?_, ?_, rw_at _ _ _⟩
  · rw [rw_ne (by omega), rw_ne (by omega), rw_at]
  · rw [rw_ne (by omega), rw_at]
theorem tr_o {a g y x : Nat} (h : x ≠ a) (h2 : x ≠ g) (h3 : x ≠ y) : trF f a g y T x = f x := by
  unfold trF
  rw [rw_ne h3, rw_ne h2, rw_ne h]
theorem tr_G {a g y : Nat} (h : a < g) (h2 : g < y) : grG (trF f a g y T) a g y k = trF f a g y (tG T k) := by
  obtain ⟨e1, e2, e3⟩ := tr_a (f := f) (T := T) h h2
  funext x
  unfold grG
  rw [e1, e2, e3]
  by_cases z3 : x = y
  · rw [z3, rw_at, (tr_a h h2).2.2]
    rfl
  · rw [rw_ne z3]
    by_cases z2 : x = g
    · rw [z2, rw_at, (tr_a h h2).2.1]
      rfl
    · rw [rw_ne z2]
      by_cases z1 : x = a
      · rw [z1, rw_at, (tr_a h h2).1]
        rfl
      · rw [rw_ne z1, tr_o z1 z2 z3, tr_o z1 z2 z3]
end Ch
