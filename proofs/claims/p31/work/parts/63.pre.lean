/-! ===== the law's rows: 64 numbers each ===== -/
theorem u2_rw (f : Nat → Nat → Int32) (a k : Nat) (v : Int32) : u2 f a k v = rwF f a (upF (f a) k v) := by
  funext x y
  show (if x = a ∧ y = k then v else f x y) = if x = a then (if y = k then v else f a y) else f x y
  by_cases h : x = a
  · by_cases h2 : y = k
    · rw [if_pos ⟨h, h2⟩, if_pos h, if_pos h2]
    · rw [if_neg (fun q => h2 q.2), if_pos h, if_neg h2, h]
  · rw [if_neg (fun q => h q.1), if_neg h]
theorem bv_0n (p : Prop) : (bv p = nI 0) = ¬ p := bv_0 p
theorem bv_01n (p : Prop) : (bv p = nI 0 ∨ bv p = nI 1) = True := bv_01 p
theorem bv_1n (p : Prop) : (bv p = nI 1) = p := by
  by_cases h : p
  · rw [bv_T h]; exact propext ⟨fun _ => h, fun _ => rfl⟩
  · rw [bv_F h]; exact propext ⟨fun q => absurd q (by decide), fun q => absurd q h⟩
theorem n01a : (nI 0 = nI 0 ∨ nI 0 = nI 1) = True := eq_true (Or.inl rfl)
theorem n01b : (nI 1 = nI 0 ∨ nI 1 = nI 1) = True := eq_true (Or.inr rfl)
theorem m1_lt0 : ((-1 : Int32) < nI 0) = True := by decide
def Lw (M : Mem) (x : Nat) : Prop := x < mN M ∧ kd x = (1, 64)
theorem lwA {M : Mem} {x k : Nat} (h : Lw M x) (hk : k < 64) : isA M x (nI k) = True := eq_true ⟨h.1, by rw [h.2], by rw [h.2]; exact vp_in_nI hk (by omega)⟩
theorem lw_mW (M : Mem) (f : Nat → Nat → Int32) (x : Nat) : Lw (mW M f) x = Lw M x := rfl
def wn (w : Nat → Int32) : Nat := (w 63).toNatClampNeg
def WnD (w : Nat → Int32) (m : Nat) : Prop := w 63 = nI (wn w) ∧ wn w ≤ m
def unV (v : Int32) (r : Nat) : Int32 := (v >>> (nI (7 * r) &&& 31)) &&& nI 127
def owV (v : Int32) : Int32 := v >>> (nI 28 &&& 31)
def lowF (v : Int32) (m : Nat) : Nat := v.toBitVec.toNat % 2 ^ 31 % m
theorem lowF_lt (v : Int32) {m : Nat} (h : 0 < m) : lowF v m < m := Nat.mod_lt _ h
theorem low_eq (v : Int32) {m : Nat} (h : 0 < m) (hm : m < 2 ^ 31) : (v &&& nI 2147483647) - (v &&& nI 2147483647) / nI m * nI m = nI (lowF v m) := by
  rw [pk_and v 31 (by decide)]
  exact pk_rem (Nat.mod_lt _ (by decide)) h hm
theorem un_eq (v : Int32) (r : Nat) : unV v r = nI ((v >>> (nI (7 * r) &&& 31)).toBitVec.toNat % 128) := pk_and _ 7 (by decide)
theorem un_bd (v : Int32) (r : Nat) : 0 ≤ (unV v r).toInt ∧ (unV v r).toInt ≤ 127 := by
  rw [un_eq, nI_toInt (by omega)]
  omega
theorem nI_n0 {m : Nat} (h : 0 < m) (hm : m < 2 ^ 31) : (nI m = nI 0) = False := eq_false (fun q => by rw [nI_eq hm (by omega)] at q; omega)
def e_W_low : Ent := (fun av M => ∃ (v : Int32) (m : Nat), av = [.int v, .int (nI m)] ∧ m < 2 ^ 31 ∧ (0 < m), fun av M r_ M_ => ∀ (v : Int32) (m : Nat), m < 2 ^ 31 → av = [.int v, .int (nI m)] → r_ = (some (.int (nI (lowF v m)))) ∧ M_ = (M))
theorem pc_W_low {v : Int32} {m : Nat} {M : Mem} {K : Option Value → Mem → Prop} (hp : 0 < m) (h_m : m < 2 ^ 31) : pcall e_W_low [.int v, .int (nI m)] M K = K (some (.int (nI (lowF v m)))) (M) := propext ⟨fun h => h.2 _ _ (fun v' m' h_m' e => by simp only [List.cons.injEq, Value.ref.injEq, Value.int.injEq, Value.long.injEq, and_true] at e; obtain ⟨q0, q1⟩ := e; obtain rfl := q0; obtain rfl := (nI_eq h_m h_m').mp q1; exact ⟨rfl, rfl⟩), fun h => ⟨⟨v, m, rfl, h_m, hp⟩, fun r_ M_ q => by obtain ⟨rfl, rfl⟩ := q _ _ h_m rfl; exact h⟩⟩
theorem mk_W_low {Z : Zt} {d : Nat} (h : ∀ (v : Int32) (m : Nat) (M : Mem), m < 2 ^ 31 → (0 < m) → Gm Z d s_W_low [.int v, .int (nI m)] M (ex (some (.int (nI (lowF v m)))) (M))) : okE Z d i_W_low e_W_low := by
  rintro av M ⟨v, m, rfl, h_m, hp⟩
  exact Gm.cons (h v m M h_m hp) (fun r_ M_ q v' m' h_m' e => by simp only [List.cons.injEq, Value.ref.injEq, Value.int.injEq, Value.long.injEq, and_true] at e; obtain ⟨q0, q1⟩ := e; obtain rfl := q0; obtain rfl := (nI_eq h_m h_m').mp q1; exact q)
def C_W_low : List (Nat × Ent) := []
abbrev S_W_low : List Nat := []
def t_W_low_0 : List PI := (0, 1, 0, 0, 0, 0, []) :: (1, 0, 0, 8, 3, 2147483647, []) :: (3, 2, 6, 0, 0, 0, []) :: (4, 1, 0, 1, 0, 0, []) :: (5, 2, 4, 0, 0, 0, []) :: (6, 9, 0, 0, 0, 0, []) :: []
theorem kt_W_low : okP s_W_low t_W_low_0 := k_W_low
theorem g_W_low_0 {Z : Zt} {nF f : Nat} {Kx : Nat → Kt} {Q : Option Value → Mem → Prop} {M : Mem} {x1 : Int32} {x2 : Int32} : run Z nF C_W_low S_W_low Kx Q (f + 6) t_W_low_0 [some (.int (x1)), some (.int (x2))] [] M = (¬ (x2) = nI 0 ∧ Q (some (.int (((x1) &&& ((nI 2147483647))) - ((x1) &&& ((nI 2147483647))) / (x2) * (x2)))) (M)) := rfl
set_option maxRecDepth 100000 in
set_option maxHeartbeats 4000000 in
theorem ok_W_low (Z : Zt) (d : Nat) : okE Z (d + 1) i_W_low e_W_low := mk_W_low fun v m M h1 hp => by
  refine Gm_run (C := C_W_low) (S := S_W_low) [some (.int v), some (.int (nI m))] 1000 kt_W_low okE_nil (ex_n rfl) ?_
  have := nI_n0 hp h1
  simp only [↓g_W_low_0, low_eq v hp h1, this]
  exact ⟨not_false, rfl, rfl⟩
def e_W_units : Ent := (fun av M => ∃ (v : Int32) (r : Nat), av = [.int v, .int (nI r)] ∧ r < 2 ^ 31 ∧ (True), fun av M r_ M_ => ∀ (v : Int32) (r : Nat), r < 2 ^ 31 → av = [.int v, .int (nI r)] → r_ = (some (.int (unV v r))) ∧ M_ = (M))
theorem pc_W_units {v : Int32} {r : Nat} {M : Mem} {K : Option Value → Mem → Prop} (hp : True) (h_r : r < 2 ^ 31) : pcall e_W_units [.int v, .int (nI r)] M K = K (some (.int (unV v r))) (M) := propext ⟨fun h => h.2 _ _ (fun v' r' h_r' e => by simp only [List.cons.injEq, Value.ref.injEq, Value.int.injEq, Value.long.injEq, and_true] at e; obtain ⟨q0, q1⟩ := e; obtain rfl := q0; obtain rfl := (nI_eq h_r h_r').mp q1; exact ⟨rfl, rfl⟩), fun h => ⟨⟨v, r, rfl, h_r, hp⟩, fun r_ M_ q => by obtain ⟨rfl, rfl⟩ := q _ _ h_r rfl; exact h⟩⟩
theorem mk_W_units {Z : Zt} {d : Nat} (h : ∀ (v : Int32) (r : Nat) (M : Mem), r < 2 ^ 31 → (True) → Gm Z d s_W_units [.int v, .int (nI r)] M (ex (some (.int (unV v r))) (M))) : okE Z d i_W_units e_W_units := by
  rintro av M ⟨v, r, rfl, h_r, hp⟩
  exact Gm.cons (h v r M h_r hp) (fun r_ M_ q v' r' h_r' e => by simp only [List.cons.injEq, Value.ref.injEq, Value.int.injEq, Value.long.injEq, and_true] at e; obtain ⟨q0, q1⟩ := e; obtain rfl := q0; obtain rfl := (nI_eq h_r h_r').mp q1; exact q)
def C_W_units : List (Nat × Ent) := []
abbrev S_W_units : List Nat := []
def t_W_units_0 : List PI := (0, 1, 0, 0, 0, 0, []) :: (1, 0, 0, 0, 1, 7, []) :: (3, 1, 0, 1, 0, 0, []) :: (4, 2, 2, 0, 0, 0, []) :: (5, 2, 9, 0, 0, 0, []) :: (6, 0, 0, 0, 1, 127, []) :: (8, 2, 6, 0, 0, 0, []) :: (9, 9, 0, 0, 0, 0, []) :: []
theorem kt_W_units : okP s_W_units t_W_units_0 := k_W_units
theorem g_W_units_0 {Z : Zt} {nF f : Nat} {Kx : Nat → Kt} {Q : Option Value → Mem → Prop} {M : Mem} {x1 : Int32} {x2 : Int32} : run Z nF C_W_units S_W_units Kx Q (f + 8) t_W_units_0 [some (.int (x1)), some (.int (x2))] [] M = (Q (some (.int (((x1) >>> ((((nI 7)) * (x2)) &&& 31)) &&& ((nI 127))))) (M)) := rfl
set_option maxRecDepth 100000 in
set_option maxHeartbeats 4000000 in
theorem ok_W_units (Z : Zt) (d : Nat) : okE Z (d + 1) i_W_units e_W_units := mk_W_units fun v r M h1 hp => by
  refine Gm_run (C := C_W_units) (S := S_W_units) [some (.int v), some (.int (nI r))] 1000 kt_W_units okE_nil (ex_n rfl) ?_
  simp only [↓g_W_units_0, pk_mul]
  exact ⟨rfl, rfl⟩
/-- the script's numbers: any -/
def e_W_cell : Ent := (fun av _ => ∃ k : Nat, k < 1000 ∧ av = [.ref 1, .int (nI k)], fun av M r_ M_ => ∀ k : Nat, k < 1000 → av = [.ref 1, .int (nI k)] → (∃ v : Int32, r_ = some (.int v)) ∧ M_ = M)
theorem pc_W_cell {k : Nat} {M : Mem} {K : Option Value → Mem → Prop} (hk : k < 1000) : pcall e_W_cell [.ref 1, .int (nI k)] M K = ∀ v : Int32, K (some (.int v)) M := propext ⟨fun h v => h.2 _ _ (fun _ _ _ => ⟨⟨v, rfl⟩, rfl⟩), fun h => ⟨⟨k, hk, rfl⟩, fun r_ M_ q => by
  obtain ⟨⟨v, rfl⟩, rfl⟩ := q k hk rfl
  exact h v⟩⟩
def C_W_cell : List (Nat × Ent) := []
abbrev S_W_cell : List Nat := []
def t_W_cell_18 : List PI := (18, 9, 0, 0, 0, 0, []) :: []
def t_W_cell_12 : List PI := (12, 0, 0, 7, 3, 795577677, []) :: (14, 1, 0, 1, 0, 0, []) :: (15, 0, 0, 0, 0, 1, []) :: (16, 2, 0, 0, 0, 0, []) :: (17, 2, 2, 0, 0, 0, []) :: t_W_cell_18
def t_W_cell_6 : List PI := (6, 1, 1, 0, 0, 0, []) :: (7, 1, 0, 1, 0, 0, []) :: (8, 8, 11, 0, 0, 0, []) :: (9, 6, 0, 18, 0, 0, []) :: t_W_cell_12
def t_W_cell_0 : List PI := (0, 1, 0, 1, 0, 0, []) :: (1, 1, 1, 0, 0, 0, []) :: (2, 8, 12, 0, 0, 0, []) :: (3, 4, 3, 12, 0, 0, []) :: t_W_cell_6
theorem kt_W_cell : okP s_W_cell t_W_cell_0 := k_W_cell
theorem g_W_cell_0 {Z : Zt} {nF f : Nat} {Kx : Nat → Kt} {Q : Option Value → Mem → Prop} {M : Mem} {x1 : Nat} {x2 : Int32} : run Z nF C_W_cell S_W_cell Kx Q (f + 4) t_W_cell_0 [some (.ref (x1)), some (.int (x2))] [] M = ((x1) = 1 ∧ (if (nI (zn Z)) ≤ (x2) then run Z nF C_W_cell S_W_cell Kx Q f t_W_cell_12 [some (.ref (x1)), some (.int (x2))] [] (M) else run Z nF C_W_cell S_W_cell Kx Q f t_W_cell_6 [some (.ref (x1)), some (.int (x2))] [] (M))) := rfl
theorem g_W_cell_6 {Z : Zt} {nF f : Nat} {Kx : Nat → Kt} {Q : Option Value → Mem → Prop} {M : Mem} {x1 : Nat} {x2 : Int32} : run Z nF C_W_cell S_W_cell Kx Q (f + 4) t_W_cell_6 [some (.ref (x1)), some (.int (x2))] [] M = (((x1) = 1 ∧ vp_in (x2) (zn Z)) ∧ run Z nF C_W_cell S_W_cell Kx Q f t_W_cell_18 [some (.ref (x1)), some (.int (x2))] [.int (zx Z (Int32.toNatClampNeg (x2)))] (M)) := rfl
theorem g_W_cell_12 {Z : Zt} {nF f : Nat} {Kx : Nat → Kt} {Q : Option Value → Mem → Prop} {M : Mem} {x1 : Nat} {x2 : Int32} : run Z nF C_W_cell S_W_cell Kx Q (f + 5) t_W_cell_12 [some (.ref (x1)), some (.int (x2))] [] M = (run Z nF C_W_cell S_W_cell Kx Q f t_W_cell_18 [some (.ref (x1)), some (.int (x2))] [.int (((nI 795577677)) * ((x2) + ((nI 1))))] (M)) := rfl
theorem g_W_cell_18 {Z : Zt} {nF f : Nat} {Kx : Nat → Kt} {Q : Option Value → Mem → Prop} {M : Mem} {x1 : Nat} {x2 : Int32} {x3 : Int32} : run Z nF C_W_cell S_W_cell Kx Q (f + 1) t_W_cell_18 [some (.ref (x1)), some (.int (x2))] [.int (x3)] M = (Q (some (.int (x3))) (M)) := rfl
set_option maxRecDepth 100000 in
set_option maxHeartbeats 4000000 in
theorem ok_W_cell (Z : Zt) (d : Nat) (hz : zn Z ≤ 260) : okE Z (d + 1) i_W_cell e_W_cell := by
  rintro av M ⟨k, hk, rfl⟩
  refine Gm.cons (Q := fun r M' => (∃ v : Int32, r = some (.int v)) ∧ M' = M) ?_ (fun r_ M_ q k' hk' e => q)
  refine Gm_run (C := C_W_cell) (S := S_W_cell) [some (.ref 1), some (.int (nI k))] 1000 kt_W_cell okE_nil (fun r M' q => by rw [q.2]) ?_
  simp only [↓g_W_cell_0]
  refine ⟨trivial, ?_⟩
  by_cases h : zn Z ≤ k
  · rw [if_pos (by rw [nI_leI (by omega) (by omega)]; exact h)]
    simp only [↓g_W_cell_12, ↓g_W_cell_18]
    exact ⟨⟨_, rfl⟩, rfl⟩
  · rw [if_neg (by rw [nI_leI (by omega) (by omega)]; exact h)]
    simp only [↓g_W_cell_6, ↓g_W_cell_18]
    exact ⟨⟨trivial, vp_in_nI (by omega) (by omega)⟩, ⟨_, rfl⟩, rfl⟩
/-! the uses -/
def usW (w : Nat → Int32) (r : Nat) (t : Int32) : Nat → Int32
  | 0 => nI 0
  | n + 1 => usW w r t n + (if t < nI 0 ∨ owV (w n) = t then unV (w n) r else nI 0)
def usL (w : Nat → Int32) (r : Nat) (t : Int32) : Int32 := usW w r t (wn w)
def e_W_use : Ent := (fun av M => ∃ (g : Nat) (r : Nat) (t : Int32), av = [.ref g, .int (nI r), .int t] ∧ r < 2 ^ 31 ∧ (Lw M g ∧ WnD (mI M g) 40), fun av M r_ M_ => ∀ (g : Nat) (r : Nat) (t : Int32), r < 2 ^ 31 → av = [.ref g, .int (nI r), .int t] → r_ = (some (.int (usL (mI M g) r t))) ∧ M_ = (M))
theorem pc_W_use {g : Nat} {r : Nat} {t : Int32} {M : Mem} {K : Option Value → Mem → Prop} (hp : Lw M g ∧ WnD (mI M g) 40) (h_r : r < 2 ^ 31) : pcall e_W_use [.ref g, .int (nI r), .int t] M K = K (some (.int (usL (mI M g) r t))) (M) := propext ⟨fun h => h.2 _ _ (fun g' r' t' h_r' e => by simp only [List.cons.injEq, Value.ref.injEq, Value.int.injEq, Value.long.injEq, and_true] at e; obtain ⟨q0, q1, q2⟩ := e; obtain rfl := q0; obtain rfl := (nI_eq h_r h_r').mp q1; obtain rfl := q2; exact ⟨rfl, rfl⟩), fun h => ⟨⟨g, r, t, rfl, h_r, hp⟩, fun r_ M_ q => by obtain ⟨rfl, rfl⟩ := q _ _ _ h_r rfl; exact h⟩⟩
theorem mk_W_use {Z : Zt} {d : Nat} (h : ∀ (g : Nat) (r : Nat) (t : Int32) (M : Mem), r < 2 ^ 31 → (Lw M g ∧ WnD (mI M g) 40) → Gm Z d s_W_use [.ref g, .int (nI r), .int t] M (ex (some (.int (usL (mI M g) r t))) (M))) : okE Z d i_W_use e_W_use := by
  rintro av M ⟨g, r, t, rfl, h_r, hp⟩
  exact Gm.cons (h g r t M h_r hp) (fun r_ M_ q g' r' t' h_r' e => by simp only [List.cons.injEq, Value.ref.injEq, Value.int.injEq, Value.long.injEq, and_true] at e; obtain ⟨q0, q1, q2⟩ := e; obtain rfl := q0; obtain rfl := (nI_eq h_r h_r').mp q1; obtain rfl := q2; exact q)
def C_W_use : List (Nat × Ent) := [(i_W_units, e_W_units)]
abbrev S_W_use : List Nat := [5]
def t_W_use_50 : List PI := (50, 1, 0, 3, 0, 0, []) :: (51, 9, 0, 0, 0, 0, []) :: []
def t_W_use_42 : List PI := (42, 2, 0, 0, 0, 0, []) :: (43, 1, 3, 3, 0, 0, []) :: (44, 1, 6, 4, 0, 1, []) :: (47, 6, 0, 5, 0, 0, []) :: t_W_use_50
def t_W_use_41 : List PI := (41, 0, 0, 0, 0, 0, []) :: t_W_use_42
def t_W_use_38 : List PI := (38, 6, 0, 42, 0, 0, []) :: t_W_use_41
def t_W_use_30 : List PI := (30, 1, 1, 0, 0, 0, []) :: (31, 1, 0, 4, 0, 0, []) :: (33, 8, 4, 0, 0, 0, []) :: (34, 1, 0, 1, 0, 0, []) :: (35, 11, 1, 0, 75, 0, [9, 2]) :: t_W_use_38
def t_W_use_19 : List PI := (19, 1, 1, 0, 0, 0, []) :: (20, 1, 0, 4, 0, 0, []) :: (22, 8, 4, 0, 0, 0, []) :: (23, 0, 0, 0, 1, 28, []) :: (25, 2, 9, 0, 0, 0, []) :: (26, 1, 0, 2, 0, 0, []) :: (27, 4, 1, 41, 0, 0, []) :: t_W_use_30
def t_W_use_14 : List PI := (14, 1, 0, 3, 0, 0, []) :: (15, 1, 0, 2, 0, 0, []) :: (16, 5, 2, 30, 0, 0, []) :: t_W_use_19
def t_W_use_5 : List PI := (5, 1, 0, 4, 0, 0, []) :: (7, 1, 1, 0, 0, 0, []) :: (8, 0, 0, 0, 1, 63, []) :: (10, 8, 4, 0, 0, 0, []) :: (11, 4, 3, 50, 0, 0, []) :: t_W_use_14
def t_W_use_0 : List PI := (0, 0, 0, 0, 0, 0, []) :: (1, 1, 3, 3, 0, 0, []) :: (2, 0, 0, 0, 0, 0, []) :: (3, 1, 3, 4, 0, 0, []) :: t_W_use_5
theorem kt_W_use : okP s_W_use t_W_use_0 := k_W_use
theorem g_W_use_0 {Z : Zt} {nF f : Nat} {Kx : Nat → Kt} {Q : Option Value → Mem → Prop} {M : Mem} {x1 : Nat} {x2 : Int32} {x3 : Int32} : run Z nF C_W_use S_W_use Kx Q (f + 4) t_W_use_0 [some (.ref (x1)), some (.int (x2)), some (.int (x3)), none, none] [] M = (Kx 5 [some (.ref (x1)), some (.int (x2)), some (.int (x3)), some (.int ((nI 0))), some (.int ((nI 0)))] [] (M)) := rfl
theorem g_W_use_5 {Z : Zt} {nF f : Nat} {Kx : Nat → Kt} {Q : Option Value → Mem → Prop} {M : Mem} {x1 : Nat} {x2 : Int32} {x3 : Int32} {x4 : Int32} {x5 : Int32} : run Z nF C_W_use S_W_use Kx Q (f + 5) t_W_use_5 [some (.ref (x1)), some (.int (x2)), some (.int (x3)), some (.int (x4)), some (.int (x5))] [] M = (isA (M) (x1) ((nI 63)) ∧ (if (mI (M) (x1) (Int32.toNatClampNeg ((nI 63)))) ≤ (x5) then run Z nF C_W_use S_W_use Kx Q f t_W_use_50 [some (.ref (x1)), some (.int (x2)), some (.int (x3)), some (.int (x4)), some (.int (x5))] [] (M) else run Z nF C_W_use S_W_use Kx Q f t_W_use_14 [some (.ref (x1)), some (.int (x2)), some (.int (x3)), some (.int (x4)), some (.int (x5))] [] (M))) := rfl
theorem g_W_use_14 {Z : Zt} {nF f : Nat} {Kx : Nat → Kt} {Q : Option Value → Mem → Prop} {M : Mem} {x1 : Nat} {x2 : Int32} {x3 : Int32} {x4 : Int32} {x5 : Int32} : run Z nF C_W_use S_W_use Kx Q (f + 3) t_W_use_14 [some (.ref (x1)), some (.int (x2)), some (.int (x3)), some (.int (x4)), some (.int (x5))] [] M = ((if (x3) < nI 0 then run Z nF C_W_use S_W_use Kx Q f t_W_use_30 [some (.ref (x1)), some (.int (x2)), some (.int (x3)), some (.int (x4)), some (.int (x5))] [.int (x4)] (M) else run Z nF C_W_use S_W_use Kx Q f t_W_use_19 [some (.ref (x1)), some (.int (x2)), some (.int (x3)), some (.int (x4)), some (.int (x5))] [.int (x4)] (M))) := rfl
theorem g_W_use_19 {Z : Zt} {nF f : Nat} {Kx : Nat → Kt} {Q : Option Value → Mem → Prop} {M : Mem} {x1 : Nat} {x2 : Int32} {x3 : Int32} {x4 : Int32} {x5 : Int32} {x6 : Int32} : run Z nF C_W_use S_W_use Kx Q (f + 7) t_W_use_19 [some (.ref (x1)), some (.int (x2)), some (.int (x3)), some (.int (x4)), some (.int (x5))] [.int (x6)] M = (isA (M) (x1) (x5) ∧ (if ((mI (M) (x1) (Int32.toNatClampNeg (x5))) >>> (((nI 28)) &&& 31)) = (x3) then run Z nF C_W_use S_W_use Kx Q f t_W_use_30 [some (.ref (x1)), some (.int (x2)), some (.int (x3)), some (.int (x4)), some (.int (x5))] [.int (x6)] (M) else run Z nF C_W_use S_W_use Kx Q f t_W_use_41 [some (.ref (x1)), some (.int (x2)), some (.int (x3)), some (.int (x4)), some (.int (x5))] [.int (x6)] (M))) := rfl
theorem g_W_use_30 {Z : Zt} {nF f : Nat} {Kx : Nat → Kt} {Q : Option Value → Mem → Prop} {M : Mem} {x1 : Nat} {x2 : Int32} {x3 : Int32} {x4 : Int32} {x5 : Int32} {x6 : Int32} : run Z nF C_W_use S_W_use Kx Q (f + 5) t_W_use_30 [some (.ref (x1)), some (.int (x2)), some (.int (x3)), some (.int (x4)), some (.int (x5))] [.int (x6)] M = (isA (M) (x1) (x5) ∧ ((True) ∧ wsum [.int (x6)] ≤ 8) ∧ pcall e_W_units [.int (mI (M) (x1) (Int32.toNatClampNeg (x5))), .int (x2)] (M) (fun v M_ => run Z nF C_W_use S_W_use Kx Q f t_W_use_38 [some (.ref (x1)), some (.int (x2)), some (.int (x3)), some (.int (x4)), some (.int (x5))] (v.toList ++ [.int (x6)]) M_)) := rfl
theorem g_W_use_38 {Z : Zt} {nF f : Nat} {Kx : Nat → Kt} {Q : Option Value → Mem → Prop} {M : Mem} {x1 : Nat} {x2 : Int32} {x3 : Int32} {x4 : Int32} {x5 : Int32} {x6 : Int32} {x7 : Int32} : run Z nF C_W_use S_W_use Kx Q (f + 1) t_W_use_38 [some (.ref (x1)), some (.int (x2)), some (.int (x3)), some (.int (x4)), some (.int (x5))] [.int (x6), .int (x7)] M = (run Z nF C_W_use S_W_use Kx Q f t_W_use_42 [some (.ref (x1)), some (.int (x2)), some (.int (x3)), some (.int (x4)), some (.int (x5))] [.int (x6), .int (x7)] (M)) := rfl
theorem g_W_use_41 {Z : Zt} {nF f : Nat} {Kx : Nat → Kt} {Q : Option Value → Mem → Prop} {M : Mem} {x1 : Nat} {x2 : Int32} {x3 : Int32} {x4 : Int32} {x5 : Int32} {x6 : Int32} : run Z nF C_W_use S_W_use Kx Q (f + 1) t_W_use_41 [some (.ref (x1)), some (.int (x2)), some (.int (x3)), some (.int (x4)), some (.int (x5))] [.int (x6)] M = (run Z nF C_W_use S_W_use Kx Q f t_W_use_42 [some (.ref (x1)), some (.int (x2)), some (.int (x3)), some (.int (x4)), some (.int (x5))] [.int ((nI 0)), .int (x6)] (M)) := rfl
theorem g_W_use_42 {Z : Zt} {nF f : Nat} {Kx : Nat → Kt} {Q : Option Value → Mem → Prop} {M : Mem} {x1 : Nat} {x2 : Int32} {x3 : Int32} {x4 : Int32} {x5 : Int32} {x6 : Int32} {x7 : Int32} : run Z nF C_W_use S_W_use Kx Q (f + 4) t_W_use_42 [some (.ref (x1)), some (.int (x2)), some (.int (x3)), some (.int (x4)), some (.int (x5))] [.int (x6), .int (x7)] M = (Kx 5 [some (.ref (x1)), some (.int (x2)), some (.int (x3)), some (.int ((x7) + (x6))), some (.int (x5 + (nI 1)))] [] (M)) := rfl
theorem g_W_use_50 {Z : Zt} {nF f : Nat} {Kx : Nat → Kt} {Q : Option Value → Mem → Prop} {M : Mem} {x1 : Nat} {x2 : Int32} {x3 : Int32} {x4 : Int32} {x5 : Int32} : run Z nF C_W_use S_W_use Kx Q (f + 2) t_W_use_50 [some (.ref (x1)), some (.int (x2)), some (.int (x3)), some (.int (x4)), some (.int (x5))] [] M = (Q (some (.int (x4))) (M)) := rfl
set_option maxRecDepth 100000 in
set_option maxHeartbeats 4000000 in
theorem lp_W_use (Z : Zt) (d : Nat) {M : Mem} {g r : Nat} {t : Int32} (hg : Lw M g) (hG : WnD (mI M g) 40) (h1 : r < 2 ^ 31) : ∀ n i, i + n = wn (mI M g) → X Z (d + 2) s_W_use (mN M) (mN M) (ex (some (.int (usL (mI M g) r t))) M) 5 [some (.ref g), some (.int (nI r)), some (.int t), some (.int (usW (mI M g) r t i)), some (.int (nI i))] [] M := by
  obtain ⟨e63, h40⟩ := hG
  intro n
  induction n with
  | zero =>
    intro i hi
    obtain rfl : i = wn (mI M g) := by omega
    refine X_runT (C := C_W_use) (S := S_W_use) (T := t_W_use_5) 1000 kt_W_use (okE_cons (ok_W_units Z d) okE_nil) ?_
    simp (maxSteps := 3000000) (disch := first | exact True.intro | assumption | omega) only [↓eq_self, Option.toList_some, Option.toList_none, List.nil_append, List.cons_append, wsum_0, wsum_1, wsum_2, wsum_3, wsum_4, lkill, ↓reduceIte, if_true, if_false, Bool.false_eq_true, and_true, true_and, and_self, or_self, true_or, or_true, not_true, not_false_iff, mR_stI, mN_stI, isO_stI, isA_stI, mI_stI, mR_mW, mN_mW, isO_mW, isA_mW, mI_mW, mW_mW, stI_mW, vp_0, nI_add, nI_ltI, nI_leI, nI_eq, vpi, nI_clamp, nI_toN, nI_geT, pk_mul, pk_sub, bv_0n, bv_1n, ↓bv_01n, n01a, n01b, Nat.reduceSub, Nat.reduceAdd, Nat.reduceMul, u2_rw, rw_rw, rw_at, rw_ne, up_at, up_ne, Nat.zero_add, Nat.add_zero, lw_mW, m1_lt0, ite_nt, ↓g_W_use_0, ↓g_W_use_5, ↓g_W_use_14, ↓g_W_use_19, ↓g_W_use_30, ↓g_W_use_38, ↓g_W_use_41, ↓g_W_use_42, ↓g_W_use_50, lwA hg, e63, Nat.le_refl]
    exact ⟨rfl, rfl⟩
  | succ n ih =>
    intro i hi
    have h1 : ¬ wn (mI M g) ≤ i := by omega
    have hx := ih (i + 1) (by omega)
    refine X_runT (C := C_W_use) (S := S_W_use) (T := t_W_use_5) 1000 kt_W_use (okE_cons (ok_W_units Z d) okE_nil) ?_
    rw [usW] at hx
    by_cases q : t < nI 0
    · rw [if_pos (Or.inl q)] at hx
      simp (maxSteps := 3000000) (disch := first | exact True.intro | assumption | omega) only [↓eq_self, Option.toList_some, Option.toList_none, List.nil_append, List.cons_append, wsum_0, wsum_1, wsum_2, wsum_3, wsum_4, lkill, ↓reduceIte, if_true, if_false, Bool.false_eq_true, and_true, true_and, and_self, or_self, true_or, or_true, not_true, not_false_iff, mR_stI, mN_stI, isO_stI, isA_stI, mI_stI, mR_mW, mN_mW, isO_mW, isA_mW, mI_mW, mW_mW, stI_mW, vp_0, nI_add, nI_ltI, nI_leI, nI_eq, vpi, nI_clamp, nI_toN, nI_geT, pk_mul, pk_sub, bv_0n, bv_1n, ↓bv_01n, n01a, n01b, Nat.reduceSub, Nat.reduceAdd, Nat.reduceMul, u2_rw, rw_rw, rw_at, rw_ne, up_at, up_ne, Nat.zero_add, Nat.add_zero, lw_mW, m1_lt0, ite_nt, ↓g_W_use_0, ↓g_W_use_5, ↓g_W_use_14, ↓g_W_use_19, ↓g_W_use_30, ↓g_W_use_38, ↓g_W_use_41, ↓g_W_use_42, ↓g_W_use_50, lwA hg, e63, h1, q, pc_W_units]
      exact hx
    · by_cases q2 : owV (mI M g i) = t
      · rw [if_pos (Or.inr q2)] at hx
        unfold owV at q2
        simp (maxSteps := 3000000) (disch := first | exact True.intro | assumption | omega) only [↓eq_self, Option.toList_some, Option.toList_none, List.nil_append, List.cons_append, wsum_0, wsum_1, wsum_2, wsum_3, wsum_4, lkill, ↓reduceIte, if_true, if_false, Bool.false_eq_true, and_true, true_and, and_self, or_self, true_or, or_true, not_true, not_false_iff, mR_stI, mN_stI, isO_stI, isA_stI, mI_stI, mR_mW, mN_mW, isO_mW, isA_mW, mI_mW, mW_mW, stI_mW, vp_0, nI_add, nI_ltI, nI_leI, nI_eq, vpi, nI_clamp, nI_toN, nI_geT, pk_mul, pk_sub, bv_0n, bv_1n, ↓bv_01n, n01a, n01b, Nat.reduceSub, Nat.reduceAdd, Nat.reduceMul, u2_rw, rw_rw, rw_at, rw_ne, up_at, up_ne, Nat.zero_add, Nat.add_zero, lw_mW, m1_lt0, ite_nt, ↓g_W_use_0, ↓g_W_use_5, ↓g_W_use_14, ↓g_W_use_19, ↓g_W_use_30, ↓g_W_use_38, ↓g_W_use_41, ↓g_W_use_42, ↓g_W_use_50, lwA hg, e63, h1, q, q2, pc_W_units]
        exact hx
      · rw [if_neg (fun z => z.elim q q2)] at hx
        unfold owV at q2
        simp (maxSteps := 3000000) (disch := first | exact True.intro | assumption | omega) only [↓eq_self, Option.toList_some, Option.toList_none, List.nil_append, List.cons_append, wsum_0, wsum_1, wsum_2, wsum_3, wsum_4, lkill, ↓reduceIte, if_true, if_false, Bool.false_eq_true, and_true, true_and, and_self, or_self, true_or, or_true, not_true, not_false_iff, mR_stI, mN_stI, isO_stI, isA_stI, mI_stI, mR_mW, mN_mW, isO_mW, isA_mW, mI_mW, mW_mW, stI_mW, vp_0, nI_add, nI_ltI, nI_leI, nI_eq, vpi, nI_clamp, nI_toN, nI_geT, pk_mul, pk_sub, bv_0n, bv_1n, ↓bv_01n, n01a, n01b, Nat.reduceSub, Nat.reduceAdd, Nat.reduceMul, u2_rw, rw_rw, rw_at, rw_ne, up_at, up_ne, Nat.zero_add, Nat.add_zero, lw_mW, m1_lt0, ite_nt, ↓g_W_use_0, ↓g_W_use_5, ↓g_W_use_14, ↓g_W_use_19, ↓g_W_use_30, ↓g_W_use_38, ↓g_W_use_41, ↓g_W_use_42, ↓g_W_use_50, lwA hg, e63, h1, q, q2, pc_W_units]
        exact hx
set_option maxRecDepth 100000 in
set_option maxHeartbeats 4000000 in
theorem ok_W_use (Z : Zt) (d : Nat) : okE Z (d + 2) i_W_use e_W_use := mk_W_use fun g r t M h1 hp => by
  obtain ⟨hg, hG⟩ := hp
  refine Gm_run (C := C_W_use) (S := S_W_use) [some (.ref g), some (.int (nI r)), some (.int t), none, none] 1000 kt_W_use (okE_cons (ok_W_units Z d) okE_nil) (ex_n rfl) ?_
  simp (maxSteps := 3000000) (disch := first | exact True.intro | assumption | omega) only [↓eq_self, Option.toList_some, Option.toList_none, List.nil_append, List.cons_append, wsum_0, wsum_1, wsum_2, wsum_3, wsum_4, lkill, ↓reduceIte, if_true, if_false, Bool.false_eq_true, and_true, true_and, and_self, or_self, true_or, or_true, not_true, not_false_iff, mR_stI, mN_stI, isO_stI, isA_stI, mI_stI, mR_mW, mN_mW, isO_mW, isA_mW, mI_mW, mW_mW, stI_mW, vp_0, nI_add, nI_ltI, nI_leI, nI_eq, vpi, nI_clamp, nI_toN, nI_geT, pk_mul, pk_sub, bv_0n, bv_1n, ↓bv_01n, n01a, n01b, Nat.reduceSub, Nat.reduceAdd, Nat.reduceMul, u2_rw, rw_rw, rw_at, rw_ne, up_at, up_ne, Nat.zero_add, Nat.add_zero, lw_mW, m1_lt0, ite_nt, ↓g_W_use_0, ↓g_W_use_5, ↓g_W_use_14, ↓g_W_use_19, ↓g_W_use_30, ↓g_W_use_38, ↓g_W_use_41, ↓g_W_use_42, ↓g_W_use_50]
  exact lp_W_use Z d hg hG h1 _ 0 (Nat.zero_add _)
def prW (a g : Nat → Int32) (r : Nat) : Int32 := if a r = nI 0 then nI 10 else nI 1 + nI 9 * usL g r (-1) / a r
def e_W_price : Ent := (fun av M => ∃ (a : Nat) (g : Nat) (r : Nat), av = [.ref a, .ref g, .int (nI r)] ∧ r < 2 ^ 31 ∧ (Lw M a ∧ Lw M g ∧ WnD (mI M g) 40 ∧ r < 4), fun av M r_ M_ => ∀ (a : Nat) (g : Nat) (r : Nat), r < 2 ^ 31 → av = [.ref a, .ref g, .int (nI r)] → r_ = (some (.int (prW (mI M a) (mI M g) r))) ∧ M_ = (M))
theorem pc_W_price {a : Nat} {g : Nat} {r : Nat} {M : Mem} {K : Option Value → Mem → Prop} (hp : Lw M a ∧ Lw M g ∧ WnD (mI M g) 40 ∧ r < 4) (h_r : r < 2 ^ 31) : pcall e_W_price [.ref a, .ref g, .int (nI r)] M K = K (some (.int (prW (mI M a) (mI M g) r))) (M) := propext ⟨fun h => h.2 _ _ (fun a' g' r' h_r' e => by simp only [List.cons.injEq, Value.ref.injEq, Value.int.injEq, Value.long.injEq, and_true] at e; obtain ⟨q0, q1, q2⟩ := e; obtain rfl := q0; obtain rfl := q1; obtain rfl := (nI_eq h_r h_r').mp q2; exact ⟨rfl, rfl⟩), fun h => ⟨⟨a, g, r, rfl, h_r, hp⟩, fun r_ M_ q => by obtain ⟨rfl, rfl⟩ := q _ _ _ h_r rfl; exact h⟩⟩
theorem mk_W_price {Z : Zt} {d : Nat} (h : ∀ (a : Nat) (g : Nat) (r : Nat) (M : Mem), r < 2 ^ 31 → (Lw M a ∧ Lw M g ∧ WnD (mI M g) 40 ∧ r < 4) → Gm Z d s_W_price [.ref a, .ref g, .int (nI r)] M (ex (some (.int (prW (mI M a) (mI M g) r))) (M))) : okE Z d i_W_price e_W_price := by
  rintro av M ⟨a, g, r, rfl, h_r, hp⟩
  exact Gm.cons (h a g r M h_r hp) (fun r_ M_ q a' g' r' h_r' e => by simp only [List.cons.injEq, Value.ref.injEq, Value.int.injEq, Value.long.injEq, and_true] at e; obtain ⟨q0, q1, q2⟩ := e; obtain rfl := q0; obtain rfl := q1; obtain rfl := (nI_eq h_r h_r').mp q2; exact q)
def C_W_price : List (Nat × Ent) := [(i_W_use, e_W_use)]
abbrev S_W_price : List Nat := []
def t_W_price_26 : List PI := (26, 9, 0, 0, 0, 0, []) :: []
def t_W_price_20 : List PI := (20, 2, 2, 0, 0, 0, []) :: (21, 1, 1, 0, 0, 0, []) :: (22, 1, 0, 2, 0, 0, []) :: (23, 8, 4, 0, 0, 0, []) :: (24, 2, 3, 0, 0, 0, []) :: (25, 2, 0, 0, 0, 0, []) :: t_W_price_26
def t_W_price_11 : List PI := (11, 0, 0, 0, 0, 1, []) :: (12, 0, 0, 0, 1, 9, []) :: (14, 1, 1, 1, 0, 0, []) :: (15, 1, 0, 2, 0, 0, []) :: (16, 0, 0, 0, 0, -1, []) :: (17, 11, 1, 0, 76, 0, [15, 3]) :: t_W_price_20
def t_W_price_6 : List PI := (6, 0, 0, 0, 1, 10, []) :: (8, 6, 0, 26, 0, 0, []) :: t_W_price_11
def t_W_price_0 : List PI := (0, 1, 1, 0, 0, 0, []) :: (1, 1, 0, 2, 0, 0, []) :: (2, 8, 4, 0, 0, 0, []) :: (3, 5, 1, 11, 0, 0, []) :: t_W_price_6
theorem kt_W_price : okP s_W_price t_W_price_0 := k_W_price
theorem g_W_price_0 {Z : Zt} {nF f : Nat} {Kx : Nat → Kt} {Q : Option Value → Mem → Prop} {M : Mem} {x1 : Nat} {x2 : Nat} {x3 : Int32} : run Z nF C_W_price S_W_price Kx Q (f + 4) t_W_price_0 [some (.ref (x1)), some (.ref (x2)), some (.int (x3))] [] M = (isA (M) (x1) (x3) ∧ (if (mI (M) (x1) (Int32.toNatClampNeg (x3))) = nI 0 then run Z nF C_W_price S_W_price Kx Q f t_W_price_6 [some (.ref (x1)), some (.ref (x2)), some (.int (x3))] [] (M) else run Z nF C_W_price S_W_price Kx Q f t_W_price_11 [some (.ref (x1)), some (.ref (x2)), some (.int (x3))] [] (M))) := rfl
theorem g_W_price_6 {Z : Zt} {nF f : Nat} {Kx : Nat → Kt} {Q : Option Value → Mem → Prop} {M : Mem} {x1 : Nat} {x2 : Nat} {x3 : Int32} : run Z nF C_W_price S_W_price Kx Q (f + 2) t_W_price_6 [some (.ref (x1)), some (.ref (x2)), some (.int (x3))] [] M = (run Z nF C_W_price S_W_price Kx Q f t_W_price_26 [some (.ref (x1)), some (.ref (x2)), some (.int (x3))] [.int ((nI 10))] (M)) := rfl
theorem g_W_price_11 {Z : Zt} {nF f : Nat} {Kx : Nat → Kt} {Q : Option Value → Mem → Prop} {M : Mem} {x1 : Nat} {x2 : Nat} {x3 : Int32} : run Z nF C_W_price S_W_price Kx Q (f + 6) t_W_price_11 [some (.ref (x1)), some (.ref (x2)), some (.int (x3))] [] M = (((True) ∧ wsum [.int ((nI 9)), .int ((nI 1))] ≤ 8) ∧ pcall e_W_use [.ref (x2), .int (x3), .int ((-1 : Int32))] (M) (fun v M_ => run Z nF C_W_price S_W_price Kx Q f t_W_price_20 [some (.ref (x1)), some (.ref (x2)), some (.int (x3))] (v.toList ++ [.int ((nI 9)), .int ((nI 1))]) M_)) := rfl
theorem g_W_price_20 {Z : Zt} {nF f : Nat} {Kx : Nat → Kt} {Q : Option Value → Mem → Prop} {M : Mem} {x1 : Nat} {x2 : Nat} {x3 : Int32} {x4 : Int32} {x5 : Int32} {x6 : Int32} : run Z nF C_W_price S_W_price Kx Q (f + 6) t_W_price_20 [some (.ref (x1)), some (.ref (x2)), some (.int (x3))] [.int (x4), .int (x5), .int (x6)] M = (isA (M) (x1) (x3) ∧ ¬ (mI (M) (x1) (Int32.toNatClampNeg (x3))) = nI 0 ∧ run Z nF C_W_price S_W_price Kx Q f t_W_price_26 [some (.ref (x1)), some (.ref (x2)), some (.int (x3))] [.int ((x6) + (((x5) * (x4)) / (mI (M) (x1) (Int32.toNatClampNeg (x3)))))] (M)) := rfl
theorem g_W_price_26 {Z : Zt} {nF f : Nat} {Kx : Nat → Kt} {Q : Option Value → Mem → Prop} {M : Mem} {x1 : Nat} {x2 : Nat} {x3 : Int32} {x4 : Int32} : run Z nF C_W_price S_W_price Kx Q (f + 1) t_W_price_26 [some (.ref (x1)), some (.ref (x2)), some (.int (x3))] [.int (x4)] M = (Q (some (.int (x4))) (M)) := rfl
set_option maxRecDepth 100000 in
set_option maxHeartbeats 4000000 in
theorem ok_W_price (Z : Zt) (d : Nat) : okE Z (d + 3) i_W_price e_W_price := mk_W_price fun a g r M h1 hp => by
  obtain ⟨ha, hg, hG, hr⟩ := hp
  refine Gm_run (C := C_W_price) (S := S_W_price) [some (.ref a), some (.ref g), some (.int (nI r))] 1000 kt_W_price (okE_cons (ok_W_use Z d) okE_nil) (ex_n rfl) ?_
  unfold prW
  have hu : ∀ {t : Int32} {K : Option Value → Mem → Prop}, pcall e_W_use [.ref g, .int (nI r), .int t] M K = K (some (.int (usL (mI M g) r t))) M := pc_W_use (g := g) (r := r) ⟨hg, hG⟩ h1
  by_cases q : mI M a r = nI 0
  · rw [if_pos q]
    simp (maxSteps := 3000000) (disch := first | exact True.intro | assumption | omega) only [↓eq_self, Option.toList_some, Option.toList_none, List.nil_append, List.cons_append, wsum_0, wsum_1, wsum_2, wsum_3, wsum_4, lkill, ↓reduceIte, if_true, if_false, Bool.false_eq_true, and_true, true_and, and_self, or_self, true_or, or_true, not_true, not_false_iff, mR_stI, mN_stI, isO_stI, isA_stI, mI_stI, mR_mW, mN_mW, isO_mW, isA_mW, mI_mW, mW_mW, stI_mW, vp_0, nI_add, nI_ltI, nI_leI, nI_eq, vpi, nI_clamp, nI_toN, nI_geT, pk_mul, pk_sub, bv_0n, bv_1n, ↓bv_01n, n01a, n01b, Nat.reduceSub, Nat.reduceAdd, Nat.reduceMul, u2_rw, rw_rw, rw_at, rw_ne, up_at, up_ne, Nat.zero_add, Nat.add_zero, lw_mW, m1_lt0, ite_nt, ↓g_W_price_0, ↓g_W_price_6, ↓g_W_price_11, ↓g_W_price_20, ↓g_W_price_26, lwA ha, q]
    exact ⟨rfl, rfl⟩
  · rw [if_neg q]
    simp (maxSteps := 3000000) (disch := first | exact True.intro | assumption | omega) only [↓eq_self, Option.toList_some, Option.toList_none, List.nil_append, List.cons_append, wsum_0, wsum_1, wsum_2, wsum_3, wsum_4, lkill, ↓reduceIte, if_true, if_false, Bool.false_eq_true, and_true, true_and, and_self, or_self, true_or, or_true, not_true, not_false_iff, mR_stI, mN_stI, isO_stI, isA_stI, mI_stI, mR_mW, mN_mW, isO_mW, isA_mW, mI_mW, mW_mW, stI_mW, vp_0, nI_add, nI_ltI, nI_leI, nI_eq, vpi, nI_clamp, nI_toN, nI_geT, pk_mul, pk_sub, bv_0n, bv_1n, ↓bv_01n, n01a, n01b, Nat.reduceSub, Nat.reduceAdd, Nat.reduceMul, u2_rw, rw_rw, rw_at, rw_ne, up_at, up_ne, Nat.zero_add, Nat.add_zero, lw_mW, m1_lt0, ite_nt, ↓g_W_price_0, ↓g_W_price_6, ↓g_W_price_11, ↓g_W_price_20, ↓g_W_price_26, lwA ha, q, hu]
    exact ⟨rfl, rfl⟩
def shS (a g : Nat → Int32) (t r : Nat) : Int32 := nI 10000 * usL g r (nI t) / (a r * a (8 + 12 * t))
def shW (a g : Nat → Int32) (t : Nat) : Nat → Int32
  | 0 => nI 0
  | r + 1 => if a r ≤ nI 0 then shW a g t r else if shS a g t r ≤ shW a g t r then shW a g t r else shS a g t r
def ShOk (a : Nat → Int32) (t : Nat) : Prop := ∀ r, r < 4 → ¬ a r ≤ nI 0 → ¬ a r * a (8 + 12 * t) = nI 0
def e_W_share : Ent := (fun av M => ∃ (a : Nat) (g : Nat) (t : Nat), av = [.ref a, .ref g, .int (nI t)] ∧ t < 2 ^ 31 ∧ (Lw M a ∧ Lw M g ∧ WnD (mI M g) 40 ∧ t < 3 ∧ ShOk (mI M a) t), fun av M r_ M_ => ∀ (a : Nat) (g : Nat) (t : Nat), t < 2 ^ 31 → av = [.ref a, .ref g, .int (nI t)] → r_ = (some (.int (shW (mI M a) (mI M g) t 4))) ∧ M_ = (M))
theorem pc_W_share {a : Nat} {g : Nat} {t : Nat} {M : Mem} {K : Option Value → Mem → Prop} (hp : Lw M a ∧ Lw M g ∧ WnD (mI M g) 40 ∧ t < 3 ∧ ShOk (mI M a) t) (h_t : t < 2 ^ 31) : pcall e_W_share [.ref a, .ref g, .int (nI t)] M K = K (some (.int (shW (mI M a) (mI M g) t 4))) (M) := propext ⟨fun h => h.2 _ _ (fun a' g' t' h_t' e => by simp only [List.cons.injEq, Value.ref.injEq, Value.int.injEq, Value.long.injEq, and_true] at e; obtain ⟨q0, q1, q2⟩ := e; obtain rfl := q0; obtain rfl := q1; obtain rfl := (nI_eq h_t h_t').mp q2; exact ⟨rfl, rfl⟩), fun h => ⟨⟨a, g, t, rfl, h_t, hp⟩, fun r_ M_ q => by obtain ⟨rfl, rfl⟩ := q _ _ _ h_t rfl; exact h⟩⟩
theorem mk_W_share {Z : Zt} {d : Nat} (h : ∀ (a : Nat) (g : Nat) (t : Nat) (M : Mem), t < 2 ^ 31 → (Lw M a ∧ Lw M g ∧ WnD (mI M g) 40 ∧ t < 3 ∧ ShOk (mI M a) t) → Gm Z d s_W_share [.ref a, .ref g, .int (nI t)] M (ex (some (.int (shW (mI M a) (mI M g) t 4))) (M))) : okE Z d i_W_share e_W_share := by
  rintro av M ⟨a, g, t, rfl, h_t, hp⟩
  exact Gm.cons (h a g t M h_t hp) (fun r_ M_ q a' g' t' h_t' e => by simp only [List.cons.injEq, Value.ref.injEq, Value.int.injEq, Value.long.injEq, and_true] at e; obtain ⟨q0, q1, q2⟩ := e; obtain rfl := q0; obtain rfl := q1; obtain rfl := (nI_eq h_t h_t').mp q2; exact q)
def C_W_share : List (Nat × Ent) := [(i_W_use, e_W_use)]
abbrev S_W_share : List Nat := [5]
def t_W_share_65 : List PI := (65, 1, 0, 3, 0, 0, []) :: (66, 9, 0, 0, 0, 0, []) :: []
def t_W_share_59 : List PI := (59, 1, 6, 4, 0, 1, []) :: (62, 6, 0, 5, 0, 0, []) :: t_W_share_65
def t_W_share_58 : List PI := (58, 1, 3, 3, 0, 0, []) :: t_W_share_59
def t_W_share_57 : List PI := (57, 1, 0, 3, 0, 0, []) :: t_W_share_58
def t_W_share_52 : List PI := (52, 1, 0, 5, 0, 0, []) :: (54, 6, 0, 58, 0, 0, []) :: t_W_share_57
def t_W_share_28 : List PI := (28, 2, 2, 0, 0, 0, []) :: (29, 1, 1, 0, 0, 0, []) :: (30, 1, 0, 4, 0, 0, []) :: (32, 8, 4, 0, 0, 0, []) :: (33, 1, 1, 0, 0, 0, []) :: (34, 0, 0, 0, 1, 8, []) :: (36, 0, 0, 0, 1, 12, []) :: (38, 1, 0, 2, 0, 0, []) :: (39, 2, 2, 0, 0, 0, []) :: (40, 2, 0, 0, 0, 0, []) :: (41, 8, 4, 0, 0, 0, []) :: (42, 2, 2, 0, 0, 0, []) :: (43, 2, 3, 0, 0, 0, []) :: (44, 1, 3, 5, 0, 0, []) :: (46, 1, 0, 5, 0, 0, []) :: (48, 1, 0, 3, 0, 0, []) :: (49, 4, 5, 57, 0, 0, []) :: t_W_share_52
def t_W_share_18 : List PI := (18, 0, 0, 0, 2, 10000, []) :: (21, 1, 1, 1, 0, 0, []) :: (22, 1, 0, 4, 0, 0, []) :: (24, 1, 0, 2, 0, 0, []) :: (25, 11, 1, 0, 76, 0, [15, 3]) :: t_W_share_28
def t_W_share_11 : List PI := (11, 1, 1, 0, 0, 0, []) :: (12, 1, 0, 4, 0, 0, []) :: (14, 8, 4, 0, 0, 0, []) :: (15, 5, 5, 59, 0, 0, []) :: t_W_share_18
def t_W_share_5 : List PI := (5, 1, 0, 4, 0, 0, []) :: (7, 0, 0, 0, 0, 4, []) :: (8, 4, 3, 65, 0, 0, []) :: t_W_share_11
def t_W_share_0 : List PI := (0, 0, 0, 0, 0, 0, []) :: (1, 1, 3, 3, 0, 0, []) :: (2, 0, 0, 0, 0, 0, []) :: (3, 1, 3, 4, 0, 0, []) :: t_W_share_5
theorem kt_W_share : okP s_W_share t_W_share_0 := k_W_share
theorem g_W_share_0 {Z : Zt} {nF f : Nat} {Kx : Nat → Kt} {Q : Option Value → Mem → Prop} {M : Mem} {x1 : Nat} {x2 : Nat} {x3 : Int32} : run Z nF C_W_share S_W_share Kx Q (f + 4) t_W_share_0 [some (.ref (x1)), some (.ref (x2)), some (.int (x3)), none, none, none] [] M = (Kx 5 [some (.ref (x1)), some (.ref (x2)), some (.int (x3)), some (.int ((nI 0))), some (.int ((nI 0))), none] [] (M)) := rfl
theorem g_W_share_5 {Z : Zt} {nF f : Nat} {Kx : Nat → Kt} {Q : Option Value → Mem → Prop} {M : Mem} {x1 : Nat} {x2 : Nat} {x3 : Int32} {x4 : Int32} {x5 : Int32} {x6 : Option Value} : run Z nF C_W_share S_W_share Kx Q (f + 3) t_W_share_5 [some (.ref (x1)), some (.ref (x2)), some (.int (x3)), some (.int (x4)), some (.int (x5)), x6] [] M = ((if ((nI 4)) ≤ (x5) then run Z nF C_W_share S_W_share Kx Q f t_W_share_65 [some (.ref (x1)), some (.ref (x2)), some (.int (x3)), some (.int (x4)), some (.int (x5)), x6] [] (M) else run Z nF C_W_share S_W_share Kx Q f t_W_share_11 [some (.ref (x1)), some (.ref (x2)), some (.int (x3)), some (.int (x4)), some (.int (x5)), x6] [] (M))) := rfl
theorem g_W_share_11 {Z : Zt} {nF f : Nat} {Kx : Nat → Kt} {Q : Option Value → Mem → Prop} {M : Mem} {x1 : Nat} {x2 : Nat} {x3 : Int32} {x4 : Int32} {x5 : Int32} {x6 : Option Value} : run Z nF C_W_share S_W_share Kx Q (f + 4) t_W_share_11 [some (.ref (x1)), some (.ref (x2)), some (.int (x3)), some (.int (x4)), some (.int (x5)), x6] [] M = (isA (M) (x1) (x5) ∧ (if (mI (M) (x1) (Int32.toNatClampNeg (x5))) ≤ nI 0 then run Z nF C_W_share S_W_share Kx Q f t_W_share_59 [some (.ref (x1)), some (.ref (x2)), some (.int (x3)), some (.int (x4)), some (.int (x5)), x6] [] (M) else run Z nF C_W_share S_W_share Kx Q f t_W_share_18 [some (.ref (x1)), some (.ref (x2)), some (.int (x3)), some (.int (x4)), some (.int (x5)), x6] [] (M))) := rfl
theorem g_W_share_18 {Z : Zt} {nF f : Nat} {Kx : Nat → Kt} {Q : Option Value → Mem → Prop} {M : Mem} {x1 : Nat} {x2 : Nat} {x3 : Int32} {x4 : Int32} {x5 : Int32} {x6 : Option Value} : run Z nF C_W_share S_W_share Kx Q (f + 5) t_W_share_18 [some (.ref (x1)), some (.ref (x2)), some (.int (x3)), some (.int (x4)), some (.int (x5)), x6] [] M = (((True) ∧ wsum [.int ((nI 10000))] ≤ 8) ∧ pcall e_W_use [.ref (x2), .int (x5), .int (x3)] (M) (fun v M_ => run Z nF C_W_share S_W_share Kx Q f t_W_share_28 [some (.ref (x1)), some (.ref (x2)), some (.int (x3)), some (.int (x4)), some (.int (x5)), x6] (v.toList ++ [.int ((nI 10000))]) M_)) := rfl
theorem g_W_share_28 {Z : Zt} {nF f : Nat} {Kx : Nat → Kt} {Q : Option Value → Mem → Prop} {M : Mem} {x1 : Nat} {x2 : Nat} {x3 : Int32} {x4 : Int32} {x5 : Int32} {x6 : Option Value} {x7 : Int32} {x8 : Int32} : run Z nF C_W_share S_W_share Kx Q (f + 17) t_W_share_28 [some (.ref (x1)), some (.ref (x2)), some (.int (x3)), some (.int (x4)), some (.int (x5)), x6] [.int (x7), .int (x8)] M = (isA (M) (x1) (x5) ∧ isA (M) (x1) (((nI 8)) + (((nI 12)) * (x3))) ∧ ¬ ((mI (M) (x1) (Int32.toNatClampNeg (x5))) * (mI (M) (x1) (Int32.toNatClampNeg (((nI 8)) + (((nI 12)) * (x3)))))) = nI 0 ∧ (if (((x8) * (x7)) / ((mI (M) (x1) (Int32.toNatClampNeg (x5))) * (mI (M) (x1) (Int32.toNatClampNeg (((nI 8)) + (((nI 12)) * (x3))))))) ≤ (x4) then run Z nF C_W_share S_W_share Kx Q f t_W_share_57 [some (.ref (x1)), some (.ref (x2)), some (.int (x3)), some (.int (x4)), some (.int (x5)), some (.int (((x8) * (x7)) / ((mI (M) (x1) (Int32.toNatClampNeg (x5))) * (mI (M) (x1) (Int32.toNatClampNeg (((nI 8)) + (((nI 12)) * (x3))))))))] [] (M) else run Z nF C_W_share S_W_share Kx Q f t_W_share_52 [some (.ref (x1)), some (.ref (x2)), some (.int (x3)), some (.int (x4)), some (.int (x5)), some (.int (((x8) * (x7)) / ((mI (M) (x1) (Int32.toNatClampNeg (x5))) * (mI (M) (x1) (Int32.toNatClampNeg (((nI 8)) + (((nI 12)) * (x3))))))))] [] (M))) := rfl
theorem g_W_share_52 {Z : Zt} {nF f : Nat} {Kx : Nat → Kt} {Q : Option Value → Mem → Prop} {M : Mem} {x1 : Nat} {x2 : Nat} {x3 : Int32} {x4 : Int32} {x5 : Int32} {x6 : Int32} : run Z nF C_W_share S_W_share Kx Q (f + 2) t_W_share_52 [some (.ref (x1)), some (.ref (x2)), some (.int (x3)), some (.int (x4)), some (.int (x5)), some (.int (x6))] [] M = (run Z nF C_W_share S_W_share Kx Q f t_W_share_58 [some (.ref (x1)), some (.ref (x2)), some (.int (x3)), some (.int (x4)), some (.int (x5)), some (.int (x6))] [.int (x6)] (M)) := rfl
theorem g_W_share_57 {Z : Zt} {nF f : Nat} {Kx : Nat → Kt} {Q : Option Value → Mem → Prop} {M : Mem} {x1 : Nat} {x2 : Nat} {x3 : Int32} {x4 : Int32} {x5 : Int32} {x6 : Int32} : run Z nF C_W_share S_W_share Kx Q (f + 1) t_W_share_57 [some (.ref (x1)), some (.ref (x2)), some (.int (x3)), some (.int (x4)), some (.int (x5)), some (.int (x6))] [] M = (run Z nF C_W_share S_W_share Kx Q f t_W_share_58 [some (.ref (x1)), some (.ref (x2)), some (.int (x3)), some (.int (x4)), some (.int (x5)), some (.int (x6))] [.int (x4)] (M)) := rfl
theorem g_W_share_58 {Z : Zt} {nF f : Nat} {Kx : Nat → Kt} {Q : Option Value → Mem → Prop} {M : Mem} {x1 : Nat} {x2 : Nat} {x3 : Int32} {x4 : Int32} {x5 : Int32} {x6 : Int32} {x7 : Int32} : run Z nF C_W_share S_W_share Kx Q (f + 1) t_W_share_58 [some (.ref (x1)), some (.ref (x2)), some (.int (x3)), some (.int (x4)), some (.int (x5)), some (.int (x6))] [.int (x7)] M = (run Z nF C_W_share S_W_share Kx Q f t_W_share_59 [some (.ref (x1)), some (.ref (x2)), some (.int (x3)), some (.int (x7)), some (.int (x5)), some (.int (x6))] [] (M)) := rfl
theorem g_W_share_59 {Z : Zt} {nF f : Nat} {Kx : Nat → Kt} {Q : Option Value → Mem → Prop} {M : Mem} {x1 : Nat} {x2 : Nat} {x3 : Int32} {x4 : Int32} {x5 : Int32} {x6 : Option Value} : run Z nF C_W_share S_W_share Kx Q (f + 2) t_W_share_59 [some (.ref (x1)), some (.ref (x2)), some (.int (x3)), some (.int (x4)), some (.int (x5)), x6] [] M = (Kx 5 [some (.ref (x1)), some (.ref (x2)), some (.int (x3)), some (.int (x4)), some (.int (x5 + (nI 1))), x6] [] (M)) := rfl
theorem g_W_share_65 {Z : Zt} {nF f : Nat} {Kx : Nat → Kt} {Q : Option Value → Mem → Prop} {M : Mem} {x1 : Nat} {x2 : Nat} {x3 : Int32} {x4 : Int32} {x5 : Int32} {x6 : Option Value} : run Z nF C_W_share S_W_share Kx Q (f + 2) t_W_share_65 [some (.ref (x1)), some (.ref (x2)), some (.int (x3)), some (.int (x4)), some (.int (x5)), x6] [] M = (Q (some (.int (x4))) (M)) := rfl
set_option maxRecDepth 100000 in
set_option maxHeartbeats 4000000 in
theorem lp_W_share (Z : Zt) (d : Nat) {M : Mem} {a g t : Nat} (ha : Lw M a) (hg : Lw M g) (hG : WnD (mI M g) 40) (ht : t < 3) (hs : ShOk (mI M a) t) : ∀ n i x, i + n = 4 → X Z (d + 3) s_W_share (mN M) (mN M) (ex (some (.int (shW (mI M a) (mI M g) t 4))) M) 5 [some (.ref a), some (.ref g), some (.int (nI t)), some (.int (shW (mI M a) (mI M g) t i)), some (.int (nI i)), x] [] M := by
  intro n
  induction n with
  | zero =>
    intro i x hi
    obtain rfl : i = 4 := by omega
    refine X_runT (C := C_W_share) (S := S_W_share) (T := t_W_share_5) 1000 kt_W_share (okE_cons (ok_W_use Z d) okE_nil) ?_
    simp (maxSteps := 3000000) (disch := first | exact True.intro | assumption | omega) only [↓eq_self, Option.toList_some, Option.toList_none, List.nil_append, List.cons_append, wsum_0, wsum_1, wsum_2, wsum_3, wsum_4, lkill, ↓reduceIte, if_true, if_false, Bool.false_eq_true, and_true, true_and, and_self, or_self, true_or, or_true, not_true, not_false_iff, mR_stI, mN_stI, isO_stI, isA_stI, mI_stI, mR_mW, mN_mW, isO_mW, isA_mW, mI_mW, mW_mW, stI_mW, vp_0, nI_add, nI_ltI, nI_leI, nI_eq, vpi, nI_clamp, nI_toN, nI_geT, pk_mul, pk_sub, bv_0n, bv_1n, ↓bv_01n, n01a, n01b, Nat.reduceSub, Nat.reduceAdd, Nat.reduceMul, u2_rw, rw_rw, rw_at, rw_ne, up_at, up_ne, Nat.zero_add, Nat.add_zero, lw_mW, m1_lt0, ite_nt, ↓g_W_share_0, ↓g_W_share_5, ↓g_W_share_11, ↓g_W_share_18, ↓g_W_share_28, ↓g_W_share_52, ↓g_W_share_57, ↓g_W_share_58, ↓g_W_share_59, ↓g_W_share_65, Nat.le_refl]
    exact ⟨rfl, rfl⟩
  | succ n ih =>
    intro i x hi
    have h1 : ¬ 4 ≤ i := by omega
    have hu : ∀ {t : Int32} {K : Option Value → Mem → Prop}, pcall e_W_use [.ref g, .int (nI i), .int t] M K = K (some (.int (usL (mI M g) i t))) M := pc_W_use (g := g) (r := i) ⟨hg, hG⟩ (by omega)
    refine X_runT (C := C_W_share) (S := S_W_share) (T := t_W_share_5) 1000 kt_W_share (okE_cons (ok_W_use Z d) okE_nil) ?_
    by_cases q : mI M a i ≤ nI 0
    · have hx := ih (i + 1) x (by omega)
      rw [shW, if_pos q] at hx
      simp (maxSteps := 3000000) (disch := first | exact True.intro | assumption | omega) only [↓eq_self, Option.toList_some, Option.toList_none, List.nil_append, List.cons_append, wsum_0, wsum_1, wsum_2, wsum_3, wsum_4, lkill, ↓reduceIte, if_true, if_false, Bool.false_eq_true, and_true, true_and, and_self, or_self, true_or, or_true, not_true, not_false_iff, mR_stI, mN_stI, isO_stI, isA_stI, mI_stI, mR_mW, mN_mW, isO_mW, isA_mW, mI_mW, mW_mW, stI_mW, vp_0, nI_add, nI_ltI, nI_leI, nI_eq, vpi, nI_clamp, nI_toN, nI_geT, pk_mul, pk_sub, bv_0n, bv_1n, ↓bv_01n, n01a, n01b, Nat.reduceSub, Nat.reduceAdd, Nat.reduceMul, u2_rw, rw_rw, rw_at, rw_ne, up_at, up_ne, Nat.zero_add, Nat.add_zero, lw_mW, m1_lt0, ite_nt, ↓g_W_share_0, ↓g_W_share_5, ↓g_W_share_11, ↓g_W_share_18, ↓g_W_share_28, ↓g_W_share_52, ↓g_W_share_57, ↓g_W_share_58, ↓g_W_share_59, ↓g_W_share_65, lwA ha, h1, q]
      exact hx
    · have h0 := hs i (by omega) q
      have hx := ih (i + 1) (some (.int (shS (mI M a) (mI M g) t i))) (by omega)
      rw [shW, if_neg q] at hx
      by_cases q2 : shS (mI M a) (mI M g) t i ≤ shW (mI M a) (mI M g) t i
      · rw [if_pos q2] at hx
        unfold shS at q2 hx
        simp (maxSteps := 3000000) (disch := first | exact True.intro | assumption | omega) only [↓eq_self, Option.toList_some, Option.toList_none, List.nil_append, List.cons_append, wsum_0, wsum_1, wsum_2, wsum_3, wsum_4, lkill, ↓reduceIte, if_true, if_false, Bool.false_eq_true, and_true, true_and, and_self, or_self, true_or, or_true, not_true, not_false_iff, mR_stI, mN_stI, isO_stI, isA_stI, mI_stI, mR_mW, mN_mW, isO_mW, isA_mW, mI_mW, mW_mW, stI_mW, vp_0, nI_add, nI_ltI, nI_leI, nI_eq, vpi, nI_clamp, nI_toN, nI_geT, pk_mul, pk_sub, bv_0n, bv_1n, ↓bv_01n, n01a, n01b, Nat.reduceSub, Nat.reduceAdd, Nat.reduceMul, u2_rw, rw_rw, rw_at, rw_ne, up_at, up_ne, Nat.zero_add, Nat.add_zero, lw_mW, m1_lt0, ite_nt, ↓g_W_share_0, ↓g_W_share_5, ↓g_W_share_11, ↓g_W_share_18, ↓g_W_share_28, ↓g_W_share_52, ↓g_W_share_57, ↓g_W_share_58, ↓g_W_share_59, ↓g_W_share_65, lwA ha, h1, q, hu, h0, q2]
        exact hx
      · rw [if_neg q2] at hx
        unfold shS at q2 hx
        simp (maxSteps := 3000000) (disch := first | exact True.intro | assumption | omega) only [↓eq_self, Option.toList_some, Option.toList_none, List.nil_append, List.cons_append, wsum_0, wsum_1, wsum_2, wsum_3, wsum_4, lkill, ↓reduceIte, if_true, if_false, Bool.false_eq_true, and_true, true_and, and_self, or_self, true_or, or_true, not_true, not_false_iff, mR_stI, mN_stI, isO_stI, isA_stI, mI_stI, mR_mW, mN_mW, isO_mW, isA_mW, mI_mW, mW_mW, stI_mW, vp_0, nI_add, nI_ltI, nI_leI, nI_eq, vpi, nI_clamp, nI_toN, nI_geT, pk_mul, pk_sub, bv_0n, bv_1n, ↓bv_01n, n01a, n01b, Nat.reduceSub, Nat.reduceAdd, Nat.reduceMul, u2_rw, rw_rw, rw_at, rw_ne, up_at, up_ne, Nat.zero_add, Nat.add_zero, lw_mW, m1_lt0, ite_nt, ↓g_W_share_0, ↓g_W_share_5, ↓g_W_share_11, ↓g_W_share_18, ↓g_W_share_28, ↓g_W_share_52, ↓g_W_share_57, ↓g_W_share_58, ↓g_W_share_59, ↓g_W_share_65, lwA ha, h1, q, hu, h0, q2]
        exact hx
set_option maxRecDepth 100000 in
set_option maxHeartbeats 4000000 in
theorem ok_W_share (Z : Zt) (d : Nat) : okE Z (d + 3) i_W_share e_W_share := mk_W_share fun a g t M h1 hp => by
  obtain ⟨ha, hg, hG, ht, hs⟩ := hp
  refine Gm_run (C := C_W_share) (S := S_W_share) [some (.ref a), some (.ref g), some (.int (nI t)), none, none, none] 1000 kt_W_share (okE_cons (ok_W_use Z d) okE_nil) (ex_n rfl) ?_
  simp (maxSteps := 3000000) (disch := first | exact True.intro | assumption | omega) only [↓eq_self, Option.toList_some, Option.toList_none, List.nil_append, List.cons_append, wsum_0, wsum_1, wsum_2, wsum_3, wsum_4, lkill, ↓reduceIte, if_true, if_false, Bool.false_eq_true, and_true, true_and, and_self, or_self, true_or, or_true, not_true, not_false_iff, mR_stI, mN_stI, isO_stI, isA_stI, mI_stI, mR_mW, mN_mW, isO_mW, isA_mW, mI_mW, mW_mW, stI_mW, vp_0, nI_add, nI_ltI, nI_leI, nI_eq, vpi, nI_clamp, nI_toN, nI_geT, pk_mul, pk_sub, bv_0n, bv_1n, ↓bv_01n, n01a, n01b, Nat.reduceSub, Nat.reduceAdd, Nat.reduceMul, u2_rw, rw_rw, rw_at, rw_ne, up_at, up_ne, Nat.zero_add, Nat.add_zero, lw_mW, m1_lt0, ite_nt, ↓g_W_share_0, ↓g_W_share_5, ↓g_W_share_11, ↓g_W_share_18, ↓g_W_share_28, ↓g_W_share_52, ↓g_W_share_57, ↓g_W_share_58, ↓g_W_share_59, ↓g_W_share_65]
  exact lp_W_share Z d ha hg hG ht hs 4 0 none rfl
def foW (w : Nat → Int32) (t : Int32) : Int32 := fwR (fun k => owV (w k) = t) (wn w) 0
def e_W_firstOf : Ent := (fun av M => ∃ (a : Nat) (t : Int32), av = [.ref a, .int t] ∧ (Lw M a ∧ WnD (mI M a) 40), fun av M r_ M_ => ∀ (a : Nat) (t : Int32), av = [.ref a, .int t] → r_ = (some (.int (foW (mI M a) t))) ∧ M_ = (M))
theorem pc_W_firstOf {a : Nat} {t : Int32} {M : Mem} {K : Option Value → Mem → Prop} (hp : Lw M a ∧ WnD (mI M a) 40) : pcall e_W_firstOf [.ref a, .int t] M K = K (some (.int (foW (mI M a) t))) (M) := propext ⟨fun h => h.2 _ _ (fun a' t' e => by simp only [List.cons.injEq, Value.ref.injEq, Value.int.injEq, Value.long.injEq, and_true] at e; obtain ⟨q0, q1⟩ := e; obtain rfl := q0; obtain rfl := q1; exact ⟨rfl, rfl⟩), fun h => ⟨⟨a, t, rfl, hp⟩, fun r_ M_ q => by obtain ⟨rfl, rfl⟩ := q _ _ rfl; exact h⟩⟩
theorem mk_W_firstOf {Z : Zt} {d : Nat} (h : ∀ (a : Nat) (t : Int32) (M : Mem), (Lw M a ∧ WnD (mI M a) 40) → Gm Z d s_W_firstOf [.ref a, .int t] M (ex (some (.int (foW (mI M a) t))) (M))) : okE Z d i_W_firstOf e_W_firstOf := by
  rintro av M ⟨a, t, rfl, hp⟩
  exact Gm.cons (h a t M  hp) (fun r_ M_ q a' t' e => by simp only [List.cons.injEq, Value.ref.injEq, Value.int.injEq, Value.long.injEq, and_true] at e; obtain ⟨q0, q1⟩ := e; obtain rfl := q0; obtain rfl := q1; exact q)
def C_W_firstOf : List (Nat × Ent) := []
abbrev S_W_firstOf : List Nat := [2]
def t_W_firstOf_28 : List PI := (28, 0, 0, 0, 0, -1, []) :: (29, 9, 0, 0, 0, 0, []) :: []
def t_W_firstOf_22 : List PI := (22, 1, 6, 2, 0, 1, []) :: (25, 6, 0, 2, 0, 0, []) :: t_W_firstOf_28
def t_W_firstOf_20 : List PI := (20, 1, 0, 2, 0, 0, []) :: (21, 9, 0, 0, 0, 0, []) :: t_W_firstOf_22
def t_W_firstOf_10 : List PI := (10, 1, 1, 0, 0, 0, []) :: (11, 1, 0, 2, 0, 0, []) :: (12, 8, 4, 0, 0, 0, []) :: (13, 0, 0, 0, 1, 28, []) :: (15, 2, 9, 0, 0, 0, []) :: (16, 1, 0, 1, 0, 0, []) :: (17, 4, 1, 22, 0, 0, []) :: t_W_firstOf_20
def t_W_firstOf_2 : List PI := (2, 1, 0, 2, 0, 0, []) :: (3, 1, 1, 0, 0, 0, []) :: (4, 0, 0, 0, 1, 63, []) :: (6, 8, 4, 0, 0, 0, []) :: (7, 4, 3, 28, 0, 0, []) :: t_W_firstOf_10
def t_W_firstOf_0 : List PI := (0, 0, 0, 0, 0, 0, []) :: (1, 1, 3, 2, 0, 0, []) :: t_W_firstOf_2
theorem kt_W_firstOf : okP s_W_firstOf t_W_firstOf_0 := k_W_firstOf
theorem g_W_firstOf_0 {Z : Zt} {nF f : Nat} {Kx : Nat → Kt} {Q : Option Value → Mem → Prop} {M : Mem} {x1 : Nat} {x2 : Int32} : run Z nF C_W_firstOf S_W_firstOf Kx Q (f + 2) t_W_firstOf_0 [some (.ref (x1)), some (.int (x2)), none] [] M = (Kx 2 [some (.ref (x1)), some (.int (x2)), some (.int ((nI 0)))] [] (M)) := rfl
theorem g_W_firstOf_2 {Z : Zt} {nF f : Nat} {Kx : Nat → Kt} {Q : Option Value → Mem → Prop} {M : Mem} {x1 : Nat} {x2 : Int32} {x3 : Int32} : run Z nF C_W_firstOf S_W_firstOf Kx Q (f + 5) t_W_firstOf_2 [some (.ref (x1)), some (.int (x2)), some (.int (x3))] [] M = (isA (M) (x1) ((nI 63)) ∧ (if (mI (M) (x1) (Int32.toNatClampNeg ((nI 63)))) ≤ (x3) then run Z nF C_W_firstOf S_W_firstOf Kx Q f t_W_firstOf_28 [some (.ref (x1)), some (.int (x2)), some (.int (x3))] [] (M) else run Z nF C_W_firstOf S_W_firstOf Kx Q f t_W_firstOf_10 [some (.ref (x1)), some (.int (x2)), some (.int (x3))] [] (M))) := rfl
theorem g_W_firstOf_10 {Z : Zt} {nF f : Nat} {Kx : Nat → Kt} {Q : Option Value → Mem → Prop} {M : Mem} {x1 : Nat} {x2 : Int32} {x3 : Int32} : run Z nF C_W_firstOf S_W_firstOf Kx Q (f + 7) t_W_firstOf_10 [some (.ref (x1)), some (.int (x2)), some (.int (x3))] [] M = (isA (M) (x1) (x3) ∧ (if ((mI (M) (x1) (Int32.toNatClampNeg (x3))) >>> (((nI 28)) &&& 31)) = (x2) then run Z nF C_W_firstOf S_W_firstOf Kx Q f t_W_firstOf_20 [some (.ref (x1)), some (.int (x2)), some (.int (x3))] [] (M) else run Z nF C_W_firstOf S_W_firstOf Kx Q f t_W_firstOf_22 [some (.ref (x1)), some (.int (x2)), some (.int (x3))] [] (M))) := rfl
theorem g_W_firstOf_20 {Z : Zt} {nF f : Nat} {Kx : Nat → Kt} {Q : Option Value → Mem → Prop} {M : Mem} {x1 : Nat} {x2 : Int32} {x3 : Int32} : run Z nF C_W_firstOf S_W_firstOf Kx Q (f + 2) t_W_firstOf_20 [some (.ref (x1)), some (.int (x2)), some (.int (x3))] [] M = (Q (some (.int (x3))) (M)) := rfl
theorem g_W_firstOf_22 {Z : Zt} {nF f : Nat} {Kx : Nat → Kt} {Q : Option Value → Mem → Prop} {M : Mem} {x1 : Nat} {x2 : Int32} {x3 : Int32} : run Z nF C_W_firstOf S_W_firstOf Kx Q (f + 2) t_W_firstOf_22 [some (.ref (x1)), some (.int (x2)), some (.int (x3))] [] M = (Kx 2 [some (.ref (x1)), some (.int (x2)), some (.int (x3 + (nI 1)))] [] (M)) := rfl
theorem g_W_firstOf_28 {Z : Zt} {nF f : Nat} {Kx : Nat → Kt} {Q : Option Value → Mem → Prop} {M : Mem} {x1 : Nat} {x2 : Int32} {x3 : Int32} : run Z nF C_W_firstOf S_W_firstOf Kx Q (f + 2) t_W_firstOf_28 [some (.ref (x1)), some (.int (x2)), some (.int (x3))] [] M = (Q (some (.int ((-1 : Int32)))) (M)) := rfl
set_option maxRecDepth 100000 in
set_option maxHeartbeats 4000000 in
theorem lp_W_firstOf (Z : Zt) (d : Nat) {M : Mem} {a : Nat} {t : Int32} (ha : Lw M a) (hG : WnD (mI M a) 40) : ∀ n i, i + n = wn (mI M a) → X Z (d + 1) s_W_firstOf (mN M) (mN M) (ex (some (.int (fwR (fun k => owV (mI M a k) = t) n i))) M) 2 [some (.ref a), some (.int t), some (.int (nI i))] [] M := by
  obtain ⟨e63, h40⟩ := hG
  intro n
  induction n with
  | zero =>
    intro i hi
    obtain rfl : i = wn (mI M a) := by omega
    refine X_runT (C := C_W_firstOf) (S := S_W_firstOf) (T := t_W_firstOf_2) 1000 kt_W_firstOf okE_nil ?_
    simp (maxSteps := 3000000) (disch := first | exact True.intro | assumption | omega) only [↓eq_self, Option.toList_some, Option.toList_none, List.nil_append, List.cons_append, wsum_0, wsum_1, wsum_2, wsum_3, wsum_4, lkill, ↓reduceIte, if_true, if_false, Bool.false_eq_true, and_true, true_and, and_self, or_self, true_or, or_true, not_true, not_false_iff, mR_stI, mN_stI, isO_stI, isA_stI, mI_stI, mR_mW, mN_mW, isO_mW, isA_mW, mI_mW, mW_mW, stI_mW, vp_0, nI_add, nI_ltI, nI_leI, nI_eq, vpi, nI_clamp, nI_toN, nI_geT, pk_mul, pk_sub, bv_0n, bv_1n, ↓bv_01n, n01a, n01b, Nat.reduceSub, Nat.reduceAdd, Nat.reduceMul, u2_rw, rw_rw, rw_at, rw_ne, up_at, up_ne, Nat.zero_add, Nat.add_zero, lw_mW, m1_lt0, ite_nt, ↓g_W_firstOf_0, ↓g_W_firstOf_2, ↓g_W_firstOf_10, ↓g_W_firstOf_20, ↓g_W_firstOf_22, ↓g_W_firstOf_28, lwA ha, e63, Nat.le_refl]
    exact ⟨rfl, rfl⟩
  | succ n ih =>
    intro i hi
    have h1 : ¬ wn (mI M a) ≤ i := by omega
    have hx := ih (i + 1) (by omega)
    refine X_runT (C := C_W_firstOf) (S := S_W_firstOf) (T := t_W_firstOf_2) 1000 kt_W_firstOf okE_nil ?_
    by_cases q : owV (mI M a i) = t
    · rw [fwR, if_pos q]
      unfold owV at q
      simp (maxSteps := 3000000) (disch := first | exact True.intro | assumption | omega) only [↓eq_self, Option.toList_some, Option.toList_none, List.nil_append, List.cons_append, wsum_0, wsum_1, wsum_2, wsum_3, wsum_4, lkill, ↓reduceIte, if_true, if_false, Bool.false_eq_true, and_true, true_and, and_self, or_self, true_or, or_true, not_true, not_false_iff, mR_stI, mN_stI, isO_stI, isA_stI, mI_stI, mR_mW, mN_mW, isO_mW, isA_mW, mI_mW, mW_mW, stI_mW, vp_0, nI_add, nI_ltI, nI_leI, nI_eq, vpi, nI_clamp, nI_toN, nI_geT, pk_mul, pk_sub, bv_0n, bv_1n, ↓bv_01n, n01a, n01b, Nat.reduceSub, Nat.reduceAdd, Nat.reduceMul, u2_rw, rw_rw, rw_at, rw_ne, up_at, up_ne, Nat.zero_add, Nat.add_zero, lw_mW, m1_lt0, ite_nt, ↓g_W_firstOf_0, ↓g_W_firstOf_2, ↓g_W_firstOf_10, ↓g_W_firstOf_20, ↓g_W_firstOf_22, ↓g_W_firstOf_28, lwA ha, e63, h1, q]
      exact ⟨rfl, rfl⟩
    · rw [fwR, if_neg q]
      unfold owV at q
      simp (maxSteps := 3000000) (disch := first | exact True.intro | assumption | omega) only [↓eq_self, Option.toList_some, Option.toList_none, List.nil_append, List.cons_append, wsum_0, wsum_1, wsum_2, wsum_3, wsum_4, lkill, ↓reduceIte, if_true, if_false, Bool.false_eq_true, and_true, true_and, and_self, or_self, true_or, or_true, not_true, not_false_iff, mR_stI, mN_stI, isO_stI, isA_stI, mI_stI, mR_mW, mN_mW, isO_mW, isA_mW, mI_mW, mW_mW, stI_mW, vp_0, nI_add, nI_ltI, nI_leI, nI_eq, vpi, nI_clamp, nI_toN, nI_geT, pk_mul, pk_sub, bv_0n, bv_1n, ↓bv_01n, n01a, n01b, Nat.reduceSub, Nat.reduceAdd, Nat.reduceMul, u2_rw, rw_rw, rw_at, rw_ne, up_at, up_ne, Nat.zero_add, Nat.add_zero, lw_mW, m1_lt0, ite_nt, ↓g_W_firstOf_0, ↓g_W_firstOf_2, ↓g_W_firstOf_10, ↓g_W_firstOf_20, ↓g_W_firstOf_22, ↓g_W_firstOf_28, lwA ha, e63, h1, q]
      exact hx
set_option maxRecDepth 100000 in
set_option maxHeartbeats 4000000 in
theorem ok_W_firstOf (Z : Zt) (d : Nat) : okE Z (d + 1) i_W_firstOf e_W_firstOf := mk_W_firstOf fun a t M hp => by
  obtain ⟨ha, hG⟩ := hp
  refine Gm_run (C := C_W_firstOf) (S := S_W_firstOf) [some (.ref a), some (.int t), none] 1000 kt_W_firstOf okE_nil (ex_n rfl) ?_
  simp (maxSteps := 3000000) (disch := first | exact True.intro | assumption | omega) only [↓eq_self, Option.toList_some, Option.toList_none, List.nil_append, List.cons_append, wsum_0, wsum_1, wsum_2, wsum_3, wsum_4, lkill, ↓reduceIte, if_true, if_false, Bool.false_eq_true, and_true, true_and, and_self, or_self, true_or, or_true, not_true, not_false_iff, mR_stI, mN_stI, isO_stI, isA_stI, mI_stI, mR_mW, mN_mW, isO_mW, isA_mW, mI_mW, mW_mW, stI_mW, vp_0, nI_add, nI_ltI, nI_leI, nI_eq, vpi, nI_clamp, nI_toN, nI_geT, pk_mul, pk_sub, bv_0n, bv_1n, ↓bv_01n, n01a, n01b, Nat.reduceSub, Nat.reduceAdd, Nat.reduceMul, u2_rw, rw_rw, rw_at, rw_ne, up_at, up_ne, Nat.zero_add, Nat.add_zero, lw_mW, m1_lt0, ite_nt, ↓g_W_firstOf_0, ↓g_W_firstOf_2, ↓g_W_firstOf_10, ↓g_W_firstOf_20, ↓g_W_firstOf_22, ↓g_W_firstOf_28]
  exact lp_W_firstOf Z d ha hG _ 0 (Nat.zero_add _)
