/-! ===== the law's rows: 64 numbers each ===== -/
theorem u2_rw (f : Nat → Nat → Int32) (a k : Nat) (v : Int32) : u2 f a k v = rwF f a (upF (f a) k v) := by
  funext x y
  show (if x = a ∧ y = k then v else f x y) = if x = a then (if y = k then v else f a y) else f x y
  by_cases h : x = a
  · by_cases h2 : y = k
    · rw [if_pos ⟨h, h2⟩, if_pos h, if_pos h2]
    · rw [if_neg (fun q => h2 q.2), if_pos h, if_neg h2, h]
  · rw [if_neg (fun q => h q.1), if_neg h]
theorem bv_0n (p : Prop) : (bv p = nI 0) = ¬ p := bv_0 p
theorem bv_01n (p : Prop) : (bv p = nI 0 ∨ bv p = nI 1) = True := bv_01 p
theorem bv_1n (p : Prop) : (bv p = nI 1) = p := by
  by_cases h : p
  · rw [bv_T h]; exact propext ⟨fun _ => h, fun _ => rfl⟩
  · rw [bv_F h]; exact propext ⟨fun q => absurd q (by decide), fun q => absurd q h⟩
theorem n01a : (nI 0 = nI 0 ∨ nI 0 = nI 1) = True := eq_true (Or.inl rfl)
theorem n01b : (nI 1 = nI 0 ∨ nI 1 = nI 1) = True := eq_true (Or.inr rfl)
theorem m1_lt0 : ((-1 : Int32) < nI 0) = True := by decide
def Lw (M : Mem) (x : Nat) : Prop := x < mN M ∧ kd x = (1, 64)
theorem lwA {M : Mem} {x k : Nat} (h : Lw M x) (hk : k < 64) : isA M x (nI k) = True := eq_true ⟨h.1, by rw [h.2], by rw [h.2]; exact vp_in_nI hk (by omega)⟩
theorem lw_mW (M : Mem) (f : Nat → Nat → Int32) (x : Nat) : Lw (mW M f) x = Lw M x := rfl
def wn (w : Nat → Int32) : Nat := (w 63).toNatClampNeg
def WnD (w : Nat → Int32) (m : Nat) : Prop := w 63 = nI (wn w) ∧ wn w ≤ m
def unV (v : Int32) (r : Nat) : Int32 := (v >>> (nI (7 * r) &&& 31)) &&& nI 127
def owV (v : Int32) : Int32 := v >>> (nI 28 &&& 31)
def lowF (v : Int32) (m : Nat) : Nat := v.toBitVec.toNat % 2 ^ 31 % m
theorem lowF_lt (v : Int32) {m : Nat} (h : 0 < m) : lowF v m < m := Nat.mod_lt _ h
theorem low_eq (v : Int32) {m : Nat} (h : 0 < m) (hm : m < 2 ^ 31) : (v &&& nI 2147483647) - (v &&& nI 2147483647) / nI m * nI m = nI (lowF v m) := by
  rw [pk_and v 31 (by decide)]
  exact pk_rem (Nat.mod_lt _ (by decide)) h hm
theorem un_eq (v : Int32) (r : Nat) : unV v r = nI ((v >>> (nI (7 * r) &&& 31)).toBitVec.toNat % 128) := pk_and _ 7 (by decide)
theorem un_bd (v : Int32) (r : Nat) : 0 ≤ (unV v r).toInt ∧ (unV v r).toInt ≤ 127 := by
  rw [un_eq, nI_toInt (by omega)]
  omega
theorem nI_n0 {m : Nat} (h : 0 < m) (hm : m < 2 ^ 31) : (nI m = nI 0) = False := eq_false (fun q => by rw [nI_eq hm (by omega)] at q; omega)
def e_W_low : Ent := (fun av M => ∃ (v : Int32) (m : Nat), av = [.int v, .int (nI m)] ∧ m < 2 ^ 31 ∧ (0 < m), fun av M r_ M_ => ∀ (v : Int32) (m : Nat), m < 2 ^ 31 → av = [.int v, .int (nI m)] → r_ = (some (.int (nI (lowF v m)))) ∧ M_ = (M))
theorem pc_W_low {v : Int32} {m : Nat} {M : Mem} {K : Option Value → Mem → Prop} (hp : 0 < m) (h_m : m < 2 ^ 31) : pcall e_W_low [.int v, .int (nI m)] M K = K (some (.int (nI (lowF v m)))) (M) := propext ⟨fun h => h.2 _ _ (fun v' m' h_m' e => by simp only [List.cons.injEq, Value.ref.injEq, Value.int.injEq, Value.long.injEq, and_true] at e; obtain ⟨q0, q1⟩ := e; obtain rfl := q0; obtain rfl := (nI_eq h_m h_m').mp q1; exact ⟨rfl, rfl⟩), fun h => ⟨⟨v, m, rfl, h_m, hp⟩, fun r_ M_ q => by obtain ⟨rfl, rfl⟩ := q _ _ h_m rfl; exact h⟩⟩
theorem mk_W_low {Z : Zt} {d : Nat} (h : ∀ (v : Int32) (m : Nat) (M : Mem), m < 2 ^ 31 → (0 < m) → Gm Z d s_W_low [.int v, .int (nI m)] M (ex (some (.int (nI (lowF v m)))) (M))) : okE Z d i_W_low e_W_low := by
  rintro av M ⟨v, m, rfl, h_m, hp⟩
  exact Gm.cons (h v m M h_m hp) (fun r_ M_ q v' m' h_m' e => by simp only [List.cons.injEq, Value.ref.injEq, Value.int.injEq, Value.long.injEq, and_true] at e; obtain ⟨q0, q1⟩ := e; obtain rfl := q0; obtain rfl := (nI_eq h_m h_m').mp q1; exact q)
def C_W_low : List (Nat × Ent) := []
abbrev S_W_low : List Nat := []
def t_W_low_0 : List PI := (0, 1, 0, 0, 0, 0, []) :: (1, 0, 0, 8, 3, 2147483647, []) :: (3, 2, 6, 0, 0, 0, []) :: (4, 1, 0, 1, 0, 0, []) :: (5, 2, 4, 0, 0, 0, []) :: (6, 9, 0, 0, 0, 0, []) :: []
theorem kt_W_low : okP s_W_low t_W_low_0 := k_W_low
theorem g_W_low_0 {Z : Zt} {nF f : Nat} {Kx : Nat → Kt} {Q : Option Value → Mem → Prop} {M : Mem} {x1 : Int32} {x2 : Int32} : run Z nF C_W_low S_W_low Kx Q (f + 6) t_W_low_0 [some (.int (x1)), some (.int (x2))] [] M = (¬ (x2) = nI 0 ∧ Q (some (.int (((x1) &&& ((nI 2147483647))) - ((x1) &&& ((nI 2147483647))) / (x2) * (x2)))) (M)) := id rfl
set_option maxRecDepth 100000 in
set_option maxHeartbeats 4000000 in
theorem ok_W_low (Z : Zt) (d : Nat) : okE Z (d + 1) i_W_low e_W_low := mk_W_low fun v m M h1 hp => by
  refine Gm_run (C := C_W_low) (S := S_W_low) [some (.int v), some (.int (nI m))] 1000 kt_W_low okE_nil (ex_n rfl) ?_
  have := nI_n0 hp h1
  simp only [↓g_W_low_0, low_eq v hp h1, this]
  exact ⟨not_false, rfl, rfl⟩
def e_W_units : Ent := (fun av M => ∃ (v : Int32) (r : Nat), av = [.int v, .int (nI r)] ∧ r < 2 ^ 31 ∧ (True), fun av M r_ M_ => ∀ (v : Int32) (r : Nat), r < 2 ^ 31 → av = [.int v, .int (nI r)] → r_ = (some (.int (unV v r))) ∧ M_ = (M))
theorem pc_W_units {v : Int32} {r : Nat} {M : Mem} {K : Option Value → Mem → Prop} (hp : True) (h_r : r < 2 ^ 31) : pcall e_W_units [.int v, .int (nI r)] M K = K (some (.int (unV v r))) (M) := propext ⟨fun h => h.2 _ _ (fun v' r' h_r' e => by simp only [List.cons.injEq, Value.ref.injEq, Value.int.injEq, Value.long.injEq, and_true] at e; obtain ⟨q0, q1⟩ := e; obtain rfl := q0; obtain rfl := (nI_eq h_r h_r').mp q1; exact ⟨rfl, rfl⟩), fun h => ⟨⟨v, r, rfl, h_r, hp⟩, fun r_ M_ q => by obtain ⟨rfl, rfl⟩ := q _ _ h_r rfl; exact h⟩⟩
theorem mk_W_units {Z : Zt} {d : Nat} (h : ∀ (v : Int32) (r : Nat) (M : Mem), r < 2 ^ 31 → (True) → Gm Z d s_W_units [.int v, .int (nI r)] M (ex (some (.int (unV v r))) (M))) : okE Z d i_W_units e_W_units := by
  rintro av M ⟨v, r, rfl, h_r, hp⟩
  exact Gm.cons (h v r M h_r hp) (fun r_ M_ q v' r' h_r' e => by simp only [List.cons.injEq, Value.ref.injEq, Value.int.injEq, Value.long.injEq, and_true] at e; obtain ⟨q0, q1⟩ := e; obtain rfl := q0; obtain rfl := (nI_eq h_r h_r').mp q1; exact q)
def C_W_units : List (Nat × Ent) := []
abbrev S_W_units : List Nat := []
def t_W_units_0 : List PI := (0, 1, 0, 0, 0, 0, []) :: (1, 0, 0, 0, 1, 7, []) :: (3, 1, 0, 1, 0, 0, []) :: (4, 2, 2, 0, 0, 0, []) :: (5, 2, 9, 0, 0, 0, []) :: (6, 0, 0, 0, 1, 127, []) :: (8, 2, 6, 0, 0, 0, []) :: (9, 9, 0, 0, 0, 0, []) :: []
theorem kt_W_units : okP s_W_units t_W_units_0 := k_W_units
theorem g_W_units_0 {Z : Zt} {nF f : Nat} {Kx : Nat → Kt} {Q : Option Value → Mem → Prop} {M : Mem} {x1 : Int32} {x2 : Int32} : run Z nF C_W_units S_W_units Kx Q (f + 8) t_W_units_0 [some (.int (x1)), some (.int (x2))] [] M = (Q (some (.int (((x1) >>> ((((nI 7)) * (x2)) &&& 31)) &&& ((nI 127))))) (M)) := id rfl
set_option maxRecDepth 100000 in
set_option maxHeartbeats 4000000 in
theorem ok_W_units (Z : Zt) (d : Nat) : okE Z (d + 1) i_W_units e_W_units := mk_W_units fun v r M h1 hp => by
  refine Gm_run (C := C_W_units) (S := S_W_units) [some (.int v), some (.int (nI r))] 1000 kt_W_units okE_nil (ex_n rfl) ?_
  simp only [↓g_W_units_0, pk_mul]
  exact ⟨rfl, rfl⟩
/-- the script's numbers: any -/
def e_W_cell : Ent := (fun av _ => ∃ k : Nat, k < 1000 ∧ av = [.ref 1, .int (nI k)], fun av M r_ M_ => ∀ k : Nat, k < 1000 → av = [.ref 1, .int (nI k)] → (∃ v : Int32, r_ = some (.int v)) ∧ M_ = M)
theorem pc_W_cell {k : Nat} {M : Mem} {K : Option Value → Mem → Prop} (hk : k < 1000) : pcall e_W_cell [.ref 1, .int (nI k)] M K = ∀ v : Int32, K (some (.int v)) M := propext ⟨fun h v => h.2 _ _ (fun _ _ _ => ⟨⟨v, rfl⟩, rfl⟩), fun h => ⟨⟨k, hk, rfl⟩, fun r_ M_ q => by
  obtain ⟨⟨v, rfl⟩, rfl⟩ := q k hk rfl
  exact h v⟩⟩
def C_W_cell : List (Nat × Ent) := []
abbrev S_W_cell : List Nat := []
def t_W_cell_18 : List PI := (18, 9, 0, 0, 0, 0, []) :: []
def t_W_cell_12 : List PI := (12, 0, 0, 7, 3, 795577677, []) :: (14, 1, 0, 1, 0, 0, []) :: (15, 0, 0, 0, 0, 1, []) :: (16, 2, 0, 0, 0, 0, []) :: (17, 2, 2, 0, 0, 0, []) :: t_W_cell_18
def t_W_cell_6 : List PI := (6, 1, 1, 0, 0, 0, []) :: (7, 1, 0, 1, 0, 0, []) :: (8, 8, 11, 0, 0, 0, []) :: (9, 6, 0, 18, 0, 0, []) :: t_W_cell_12
def t_W_cell_0 : List PI := (0, 1, 0, 1, 0, 0, []) :: (1, 1, 1, 0, 0, 0, []) :: (2, 8, 12, 0, 0, 0, []) :: (3, 4, 3, 12, 0, 0, []) :: t_W_cell_6
theorem kt_W_cell : okP s_W_cell t_W_cell_0 := k_W_cell
theorem g_W_cell_0 {Z : Zt} {nF f : Nat} {Kx : Nat → Kt} {Q : Option Value → Mem → Prop} {M : Mem} {x1 : Nat} {x2 : Int32} : run Z nF C_W_cell S_W_cell Kx Q (f + 4) t_W_cell_0 [some (.ref (x1)), some (.int (x2))] [] M = ((x1) = 1 ∧ (if (nI (zn Z)) ≤ (x2) then run Z nF C_W_cell S_W_cell Kx Q f t_W_cell_12 [some (.ref (x1)), some (.int (x2))] [] (M) else run Z nF C_W_cell S_W_cell Kx Q f t_W_cell_6 [some (.ref (x1)), some (.int (x2))] [] (M))) := id rfl
theorem g_W_cell_6 {Z : Zt} {nF f : Nat} {Kx : Nat → Kt} {Q : Option Value → Mem → Prop} {M : Mem} {x1 : Nat} {x2 : Int32} : run Z nF C_W_cell S_W_cell Kx Q (f + 4) t_W_cell_6 [some (.ref (x1)), some (.int (x2))] [] M = (((x1) = 1 ∧ vp_in (x2) (zn Z)) ∧ run Z nF C_W_cell S_W_cell Kx Q f t_W_cell_18 [some (.ref (x1)), some (.int (x2))] [.int (zx Z (Int32.toNatClampNeg (x2)))] (M)) := id rfl
theorem g_W_cell_12 {Z : Zt} {nF f : Nat} {Kx : Nat → Kt} {Q : Option Value → Mem → Prop} {M : Mem} {x1 : Nat} {x2 : Int32} : run Z nF C_W_cell S_W_cell Kx Q (f + 5) t_W_cell_12 [some (.ref (x1)), some (.int (x2))] [] M = (run Z nF C_W_cell S_W_cell Kx Q f t_W_cell_18 [some (.ref (x1)), some (.int (x2))] [.int (((nI 795577677)) * ((x2) + ((nI 1))))] (M)) := id rfl
theorem g_W_cell_18 {Z : Zt} {nF f : Nat} {Kx : Nat → Kt} {Q : Option Value → Mem → Prop} {M : Mem} {x1 : Nat} {x2 : Int32} {x3 : Int32} : run Z nF C_W_cell S_W_cell Kx Q (f + 1) t_W_cell_18 [some (.ref (x1)), some (.int (x2))] [.int (x3)] M = (Q (some (.int (x3))) (M)) := id rfl
set_option maxRecDepth 100000 in
set_option maxHeartbeats 4000000 in
theorem ok_W_cell (Z : Zt) (d : Nat) (hz : zn Z ≤ 260) : okE Z (d + 1) i_W_cell e_W_cell := by
  rintro av M ⟨k, hk, rfl⟩
  refine Gm.cons (Q := fun r M' => (∃ v : Int32, r = some (.int v)) ∧ M' = M) ?_ (fun r_ M_ q k' hk' e => q)
  refine Gm_run (C := C_W_cell) (S := S_W_cell) [some (.ref 1), some (.int (nI k))] 1000 kt_W_cell okE_nil (fun r M' q => by rw [q.2]) ?_
  simp only [↓g_W_cell_0]
  refine ⟨trivial, ?_⟩
  by_cases h : zn Z ≤ k
  · rw [if_pos (by rw [nI_leI (by omega) (by omega)]; exact h)]
    simp only [↓g_W_cell_12, ↓g_W_cell_18]
    exact ⟨⟨_, rfl⟩, trivial⟩
  · rw [if_neg (by rw [nI_leI (by omega) (by omega)]; exact h)]
    simp only [↓g_W_cell_6, ↓g_W_cell_18]
    exact ⟨⟨trivial, vp_in_nI (by omega) (by omega)⟩, ⟨_, rfl⟩, trivial⟩
