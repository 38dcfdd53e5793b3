/-! ===== the model: its row of numbers is u = mI M 175 ===== -/
theorem md_a {M : Mem} (h : BkS M) {k : Nat} (hk : k < 454) : isA M 175 (nI k) = True := bk_A h (n := 454) rfl (by omega) hk (by omega)
theorem md_p {M : Mem} (h : BkS M) {k : Nat} (hk : k < 3632) : isA M 176 (nI k) = True := bk_A h (n := 3632) rfl (by omega) hk (by omega)
theorem md_s {M : Mem} (h : BkS M) {k : Nat} (hk : k < 454) : isA M 177 (nI k) = True := bk_A h (n := 454) rfl (by omega) hk (by omega)
theorem md_t {M : Mem} (h : BkS M) {k : Nat} (hk : k < 60) : isA M 178 (nI k) = True := bk_A h (n := 60) rfl (by omega) hk (by omega)
theorem md_r {M : Mem} (h : BkS M) {k : Nat} (hk : k < 4) : isA M 179 (nI k) = True := bk_A h (n := 4) rfl (by omega) hk (by omega)
theorem md_v {M : Mem} (h : BkS M) {k : Nat} (hk : k < 40) : isA M 180 (nI k) = True := bk_A h (n := 40) rfl (by omega) hk (by omega)
theorem nI_lt4 {k : Nat} (h : k < 2 ^ 31) : (nI k < 4) = (k < 4) := propext (nI_ltI (b := 4) h (by omega))
theorem bv_0n (p : Prop) : (bv p = nI 0) = ¬ p := bv_0 p
theorem bv_01n (p : Prop) : (bv p = nI 0 ∨ bv p = nI 1) = True := bv_01 p
theorem bv_1n (p : Prop) : (bv p = nI 1) = p := by
  by_cases h : p
  · rw [bv_T h]; exact propext ⟨fun _ => h, fun _ => rfl⟩
  · rw [bv_F h]; exact propext ⟨fun q => absurd q (by decide), fun q => absurd q h⟩
theorem n01a : (nI 0 = nI 0 ∨ nI 0 = nI 1) = True := eq_true (Or.inl rfl)
theorem n01b : (nI 1 = nI 0 ∨ nI 1 = nI 1) = True := eq_true (Or.inr rfl)
theorem u2_rw (f : Nat → Nat → Int32) (a k : Nat) (v : Int32) : u2 f a k v = rwF f a (upF (f a) k v) := by
  funext x y
  show (if x = a ∧ y = k then v else f x y) = if x = a then (if y = k then v else f a y) else f x y
  by_cases h : x = a
  · by_cases h2 : y = k
    · rw [if_pos ⟨h, h2⟩, if_pos h, if_pos h2]
    · rw [if_neg (fun q => h2 q.2), if_pos h, if_neg h2, h]
  · rw [if_neg (fun q => h q.1), if_neg h]
theorem rw_rw (f : Nat → Nat → Int32) (a : Nat) (u w : Nat → Int32) : rwF (rwF f a u) a w = rwF f a w := by
  funext x y
  unfold rwF
  by_cases h : x = a
  · rw [if_pos h, if_pos h]
  · rw [if_neg h, if_neg h, if_neg h]
theorem rw_at (f : Nat → Nat → Int32) (a : Nat) (u : Nat → Int32) : rwF f a u a = u := by
  funext y
  unfold rwF
  rw [if_pos rfl]
theorem rw_ne {f : Nat → Nat → Int32} {a x : Nat} {u : Nat → Int32} (h : x ≠ a) : rwF f a u x = f x := by
  funext y
  unfold rwF
  rw [if_neg h]
theorem rw_sw {f : Nat → Nat → Int32} {a b : Nat} {u w : Nat → Int32} (h : b < a) : rwF (rwF f a u) b w = rwF (rwF f b w) a u := by
  funext x y
  unfold rwF
  by_cases h1 : x = a
  · rw [if_neg (show ¬ x = b by omega), if_pos h1, if_pos h1]
  · rw [if_neg h1, if_neg h1]
theorem rw_175_174 (f : Nat → Nat → Int32) (u w : Nat → Int32) : rwF (rwF f 175 u) 174 w = rwF (rwF f 174 w) 175 u := rw_sw (by omega)
theorem rw_176_174 (f : Nat → Nat → Int32) (u w : Nat → Int32) : rwF (rwF f 176 u) 174 w = rwF (rwF f 174 w) 176 u := rw_sw (by omega)
theorem rw_176_175 (f : Nat → Nat → Int32) (u w : Nat → Int32) : rwF (rwF f 176 u) 175 w = rwF (rwF f 175 w) 176 u := rw_sw (by omega)
theorem rw_177_174 (f : Nat → Nat → Int32) (u w : Nat → Int32) : rwF (rwF f 177 u) 174 w = rwF (rwF f 174 w) 177 u := rw_sw (by omega)
theorem rw_177_175 (f : Nat → Nat → Int32) (u w : Nat → Int32) : rwF (rwF f 177 u) 175 w = rwF (rwF f 175 w) 177 u := rw_sw (by omega)
theorem rw_177_176 (f : Nat → Nat → Int32) (u w : Nat → Int32) : rwF (rwF f 177 u) 176 w = rwF (rwF f 176 w) 177 u := rw_sw (by omega)
theorem rw_178_174 (f : Nat → Nat → Int32) (u w : Nat → Int32) : rwF (rwF f 178 u) 174 w = rwF (rwF f 174 w) 178 u := rw_sw (by omega)
theorem rw_178_175 (f : Nat → Nat → Int32) (u w : Nat → Int32) : rwF (rwF f 178 u) 175 w = rwF (rwF f 175 w) 178 u := rw_sw (by omega)
theorem rw_178_176 (f : Nat → Nat → Int32) (u w : Nat → Int32) : rwF (rwF f 178 u) 176 w = rwF (rwF f 176 w) 178 u := rw_sw (by omega)
theorem rw_178_177 (f : Nat → Nat → Int32) (u w : Nat → Int32) : rwF (rwF f 178 u) 177 w = rwF (rwF f 177 w) 178 u := rw_sw (by omega)
theorem rw_179_174 (f : Nat → Nat → Int32) (u w : Nat → Int32) : rwF (rwF f 179 u) 174 w = rwF (rwF f 174 w) 179 u := rw_sw (by omega)
theorem rw_179_175 (f : Nat → Nat → Int32) (u w : Nat → Int32) : rwF (rwF f 179 u) 175 w = rwF (rwF f 175 w) 179 u := rw_sw (by omega)
theorem rw_179_176 (f : Nat → Nat → Int32) (u w : Nat → Int32) : rwF (rwF f 179 u) 176 w = rwF (rwF f 176 w) 179 u := rw_sw (by omega)
theorem rw_179_177 (f : Nat → Nat → Int32) (u w : Nat → Int32) : rwF (rwF f 179 u) 177 w = rwF (rwF f 177 w) 179 u := rw_sw (by omega)
theorem rw_179_178 (f : Nat → Nat → Int32) (u w : Nat → Int32) : rwF (rwF f 179 u) 178 w = rwF (rwF f 178 w) 179 u := rw_sw (by omega)
theorem rw_180_174 (f : Nat → Nat → Int32) (u w : Nat → Int32) : rwF (rwF f 180 u) 174 w = rwF (rwF f 174 w) 180 u := rw_sw (by omega)
theorem rw_180_175 (f : Nat → Nat → Int32) (u w : Nat → Int32) : rwF (rwF f 180 u) 175 w = rwF (rwF f 175 w) 180 u := rw_sw (by omega)
theorem rw_180_176 (f : Nat → Nat → Int32) (u w : Nat → Int32) : rwF (rwF f 180 u) 176 w = rwF (rwF f 176 w) 180 u := rw_sw (by omega)
theorem rw_180_177 (f : Nat → Nat → Int32) (u w : Nat → Int32) : rwF (rwF f 180 u) 177 w = rwF (rwF f 177 w) 180 u := rw_sw (by omega)
theorem rw_180_178 (f : Nat → Nat → Int32) (u w : Nat → Int32) : rwF (rwF f 180 u) 178 w = rwF (rwF f 178 w) 180 u := rw_sw (by omega)
theorem rw_180_179 (f : Nat → Nat → Int32) (u w : Nat → Int32) : rwF (rwF f 180 u) 179 w = rwF (rwF f 179 w) 180 u := rw_sw (by omega)
theorem up_at (u : Nat → Int32) (k : Nat) (v : Int32) : upF u k v k = v := if_pos rfl
theorem up_ne {u : Nat → Int32} {k j : Nat} {v : Int32} (h : j ≠ k) : upF u k v j = u j := if_neg h
def uT (u : Nat → Int32) : Nat := (u 447).toNatClampNeg
def uG (u : Nat → Int32) : Nat := (u 448).toNatClampNeg
def uD (u : Nat → Int32) : Nat := (u 449).toNatClampNeg
def uB (u : Nat → Int32) : Nat := (u 450).toNatClampNeg
def MdD (u : Nat → Int32) : Prop := (u 447 = nI (uT u) ∧ uT u ≤ 6) ∧ (u 448 = nI (uG u) ∧ uG u ≤ 40) ∧ (u 449 = nI (uD u) ∧ uD u ≤ 24) ∧ (u 450 = nI (uB u) ∧ uB u ≤ 6)
def MO (M : Mem) : Prop := BkS M ∧ MdD (mI M 175)
theorem MO_rw {M : Mem} {u : Nat → Int32} (h : BkS M) (hu : MdD u) : MO (mW M (rwF (mI M) 175 u)) := ⟨h, by rw [mI_mW, rw_at]; exact hu⟩
def e_M_in : Ent := (fun av M => ∃ (v : Int32) (a : Int32) (b : Int32), av = [.int v, .int a, .int b] ∧ (True), fun av M r_ M_ => ∀ (v : Int32) (a : Int32) (b : Int32), av = [.int v, .int a, .int b] → r_ = (some (.int (bv (a ≤ v ∧ v ≤ b)))) ∧ M_ = (M))
theorem pc_M_in {v : Int32} {a : Int32} {b : Int32} {M : Mem} {K : Option Value → Mem → Prop} (hp : True) : pcall e_M_in [.int v, .int a, .int b] M K = K (some (.int (bv (a ≤ v ∧ v ≤ b)))) (M) := propext ⟨fun h => h.2 _ _ (fun v' a' b' e => by simp only [List.cons.injEq, Value.ref.injEq, Value.int.injEq, Value.long.injEq, and_true] at e; obtain ⟨q0, q1, q2⟩ := e; obtain rfl := q0; obtain rfl := q1; obtain rfl := q2; exact ⟨rfl, rfl⟩), fun h => ⟨⟨v, a, b, rfl, hp⟩, fun r_ M_ q => by obtain ⟨rfl, rfl⟩ := q _ _ _ rfl; exact h⟩⟩
theorem mk_M_in {Z : Zt} {d : Nat} (h : ∀ (v : Int32) (a : Int32) (b : Int32) (M : Mem), (True) → Gm Z d s_M_in [.int v, .int a, .int b] M (ex (some (.int (bv (a ≤ v ∧ v ≤ b)))) (M))) : okE Z d i_M_in e_M_in := by
  rintro av M ⟨v, a, b, rfl, hp⟩
  exact Gm.cons (h v a b M  hp) (fun r_ M_ q v' a' b' e => by simp only [List.cons.injEq, Value.ref.injEq, Value.int.injEq, Value.long.injEq, and_true] at e; obtain ⟨q0, q1, q2⟩ := e; obtain rfl := q0; obtain rfl := q1; obtain rfl := q2; exact q)
def C_M_in : List (Nat × Ent) := []
abbrev S_M_in : List Nat := []
def t_M_in_15 : List PI := (15, 9, 1, 0, 0, 0, []) :: []
def t_M_in_14 : List PI := (14, 0, 0, 0, 0, 0, []) :: t_M_in_15
def t_M_in_10 : List PI := (10, 0, 0, 0, 0, 1, []) :: (11, 6, 0, 15, 0, 0, []) :: t_M_in_14
def t_M_in_5 : List PI := (5, 1, 0, 0, 0, 0, []) :: (6, 1, 0, 2, 0, 0, []) :: (7, 4, 4, 14, 0, 0, []) :: t_M_in_10
def t_M_in_0 : List PI := (0, 1, 0, 0, 0, 0, []) :: (1, 1, 0, 1, 0, 0, []) :: (2, 4, 2, 14, 0, 0, []) :: t_M_in_5
theorem kt_M_in : okP s_M_in t_M_in_0 := k_M_in
theorem g_M_in_0 {Z : Zt} {nF f : Nat} {Kx : Nat → Kt} {Q : Option Value → Mem → Prop} {M : Mem} {x1 : Int32} {x2 : Int32} {x3 : Int32} : run Z nF C_M_in S_M_in Kx Q (f + 3) t_M_in_0 [some (.int (x1)), some (.int (x2)), some (.int (x3))] [] M = ((if (x1) < (x2) then run Z nF C_M_in S_M_in Kx Q f t_M_in_14 [some (.int (x1)), some (.int (x2)), some (.int (x3))] [] (M) else run Z nF C_M_in S_M_in Kx Q f t_M_in_5 [some (.int (x1)), some (.int (x2)), some (.int (x3))] [] (M))) := rfl
theorem g_M_in_5 {Z : Zt} {nF f : Nat} {Kx : Nat → Kt} {Q : Option Value → Mem → Prop} {M : Mem} {x1 : Int32} {x2 : Int32} {x3 : Int32} : run Z nF C_M_in S_M_in Kx Q (f + 3) t_M_in_5 [some (.int (x1)), some (.int (x2)), some (.int (x3))] [] M = ((if (x3) < (x1) then run Z nF C_M_in S_M_in Kx Q f t_M_in_14 [some (.int (x1)), some (.int (x2)), some (.int (x3))] [] (M) else run Z nF C_M_in S_M_in Kx Q f t_M_in_10 [some (.int (x1)), some (.int (x2)), some (.int (x3))] [] (M))) := rfl
theorem g_M_in_10 {Z : Zt} {nF f : Nat} {Kx : Nat → Kt} {Q : Option Value → Mem → Prop} {M : Mem} {x1 : Int32} {x2 : Int32} {x3 : Int32} : run Z nF C_M_in S_M_in Kx Q (f + 2) t_M_in_10 [some (.int (x1)), some (.int (x2)), some (.int (x3))] [] M = (run Z nF C_M_in S_M_in Kx Q f t_M_in_15 [some (.int (x1)), some (.int (x2)), some (.int (x3))] [.int ((nI 1))] (M)) := rfl
theorem g_M_in_14 {Z : Zt} {nF f : Nat} {Kx : Nat → Kt} {Q : Option Value → Mem → Prop} {M : Mem} {x1 : Int32} {x2 : Int32} {x3 : Int32} : run Z nF C_M_in S_M_in Kx Q (f + 1) t_M_in_14 [some (.int (x1)), some (.int (x2)), some (.int (x3))] [] M = (run Z nF C_M_in S_M_in Kx Q f t_M_in_15 [some (.int (x1)), some (.int (x2)), some (.int (x3))] [.int ((nI 0))] (M)) := rfl
theorem g_M_in_15 {Z : Zt} {nF f : Nat} {Kx : Nat → Kt} {Q : Option Value → Mem → Prop} {M : Mem} {x1 : Int32} {x2 : Int32} {x3 : Int32} {x4 : Int32} : run Z nF C_M_in S_M_in Kx Q (f + 1) t_M_in_15 [some (.int (x1)), some (.int (x2)), some (.int (x3))] [.int (x4)] M = (((x4) = nI 0 ∨ (x4) = nI 1) ∧ Q (some (.int (x4))) (M)) := rfl
set_option maxRecDepth 100000 in
set_option maxHeartbeats 4000000 in
theorem ok_M_in (Z : Zt) (d : Nat) : okE Z (d + 1) i_M_in e_M_in := mk_M_in fun v a b M hp => by
  refine Gm_run (C := C_M_in) (S := S_M_in) [some (.int v), some (.int a), some (.int b)] 1000 kt_M_in okE_nil (ex_n rfl) ?_
  simp (maxSteps := 3000000) (disch := first | exact True.intro | assumption | omega) only [↓eq_self, Option.toList_some, Option.toList_none, List.nil_append, List.cons_append, wsum_0, wsum_1, wsum_2, wsum_3, wsum_4, lkill, ↓reduceIte, if_true, if_false, Bool.false_eq_true, and_true, true_and, and_self, or_self, true_or, or_true, not_true, not_false_iff, mR_stI, mN_stI, isO_stI, isA_stI, mI_stI, mR_mW, mN_mW, isO_mW, isA_mW, mI_mW, mW_mW, stI_mW, vp_0, nI_addL, nI_mulL, nI_subL, nI_ltL, nI_leL, nI_Llt, nI_Lle, nI_eqL, nI_Leq, nI_add, pk_mul, nI_ltI, nI_leI, nI_eq, vpi, nI_clamp, nI_toN, ↓g_M_in_0, ↓g_M_in_5, ↓g_M_in_10, ↓g_M_in_14, ↓g_M_in_15, n01a, n01b]
  split
  · next h => exact ⟨by rw [bv_F (fun q => absurd q.1 (Int32.not_le.mpr h))]; rfl, rfl⟩
  · next h =>
    split
    · next h2 => exact ⟨by rw [bv_F (fun q => absurd q.2 (Int32.not_le.mpr h2))]; rfl, rfl⟩
    · next h2 => exact ⟨by rw [bv_T ⟨Int32.not_lt.mp h, Int32.not_lt.mp h2⟩]; rfl, rfl⟩
def e_M_least : Ent := (fun av M => ∃ (a : Int32) (b : Int32), av = [.int a, .int b] ∧ (True), fun av M r_ M_ => ∀ (a : Int32) (b : Int32), av = [.int a, .int b] → r_ = (some (.int (if b ≤ a then b else a))) ∧ M_ = (M))
theorem pc_M_least {a : Int32} {b : Int32} {M : Mem} {K : Option Value → Mem → Prop} (hp : True) : pcall e_M_least [.int a, .int b] M K = K (some (.int (if b ≤ a then b else a))) (M) := propext ⟨fun h => h.2 _ _ (fun a' b' e => by simp only [List.cons.injEq, Value.ref.injEq, Value.int.injEq, Value.long.injEq, and_true] at e; obtain ⟨q0, q1⟩ := e; obtain rfl := q0; obtain rfl := q1; exact ⟨rfl, rfl⟩), fun h => ⟨⟨a, b, rfl, hp⟩, fun r_ M_ q => by obtain ⟨rfl, rfl⟩ := q _ _ rfl; exact h⟩⟩
theorem mk_M_least {Z : Zt} {d : Nat} (h : ∀ (a : Int32) (b : Int32) (M : Mem), (True) → Gm Z d s_M_least [.int a, .int b] M (ex (some (.int (if b ≤ a then b else a))) (M))) : okE Z d i_M_least e_M_least := by
  rintro av M ⟨a, b, rfl, hp⟩
  exact Gm.cons (h a b M  hp) (fun r_ M_ q a' b' e => by simp only [List.cons.injEq, Value.ref.injEq, Value.int.injEq, Value.long.injEq, and_true] at e; obtain ⟨q0, q1⟩ := e; obtain rfl := q0; obtain rfl := q1; exact q)
def C_M_least : List (Nat × Ent) := []
abbrev S_M_least : List Nat := []
def t_M_least_10 : List PI := (10, 9, 0, 0, 0, 0, []) :: []
def t_M_least_9 : List PI := (9, 1, 0, 1, 0, 0, []) :: t_M_least_10
def t_M_least_5 : List PI := (5, 1, 0, 0, 0, 0, []) :: (6, 6, 0, 10, 0, 0, []) :: t_M_least_9
def t_M_least_0 : List PI := (0, 1, 0, 0, 0, 0, []) :: (1, 1, 0, 1, 0, 0, []) :: (2, 4, 3, 9, 0, 0, []) :: t_M_least_5
theorem kt_M_least : okP s_M_least t_M_least_0 := k_M_least
theorem g_M_least_0 {Z : Zt} {nF f : Nat} {Kx : Nat → Kt} {Q : Option Value → Mem → Prop} {M : Mem} {x1 : Int32} {x2 : Int32} : run Z nF C_M_least S_M_least Kx Q (f + 3) t_M_least_0 [some (.int (x1)), some (.int (x2))] [] M = ((if (x2) ≤ (x1) then run Z nF C_M_least S_M_least Kx Q f t_M_least_9 [some (.int (x1)), some (.int (x2))] [] (M) else run Z nF C_M_least S_M_least Kx Q f t_M_least_5 [some (.int (x1)), some (.int (x2))] [] (M))) := rfl
theorem g_M_least_5 {Z : Zt} {nF f : Nat} {Kx : Nat → Kt} {Q : Option Value → Mem → Prop} {M : Mem} {x1 : Int32} {x2 : Int32} : run Z nF C_M_least S_M_least Kx Q (f + 2) t_M_least_5 [some (.int (x1)), some (.int (x2))] [] M = (run Z nF C_M_least S_M_least Kx Q f t_M_least_10 [some (.int (x1)), some (.int (x2))] [.int (x1)] (M)) := rfl
theorem g_M_least_9 {Z : Zt} {nF f : Nat} {Kx : Nat → Kt} {Q : Option Value → Mem → Prop} {M : Mem} {x1 : Int32} {x2 : Int32} : run Z nF C_M_least S_M_least Kx Q (f + 1) t_M_least_9 [some (.int (x1)), some (.int (x2))] [] M = (run Z nF C_M_least S_M_least Kx Q f t_M_least_10 [some (.int (x1)), some (.int (x2))] [.int (x2)] (M)) := rfl
theorem g_M_least_10 {Z : Zt} {nF f : Nat} {Kx : Nat → Kt} {Q : Option Value → Mem → Prop} {M : Mem} {x1 : Int32} {x2 : Int32} {x3 : Int32} : run Z nF C_M_least S_M_least Kx Q (f + 1) t_M_least_10 [some (.int (x1)), some (.int (x2))] [.int (x3)] M = (Q (some (.int (x3))) (M)) := rfl
set_option maxRecDepth 100000 in
set_option maxHeartbeats 4000000 in
theorem ok_M_least (Z : Zt) (d : Nat) : okE Z (d + 1) i_M_least e_M_least := mk_M_least fun a b M hp => by
  refine Gm_run (C := C_M_least) (S := S_M_least) [some (.int a), some (.int b)] 1000 kt_M_least okE_nil (ex_n rfl) ?_
  simp (maxSteps := 3000000) (disch := first | exact True.intro | assumption | omega) only [↓eq_self, Option.toList_some, Option.toList_none, List.nil_append, List.cons_append, wsum_0, wsum_1, wsum_2, wsum_3, wsum_4, lkill, ↓reduceIte, if_true, if_false, Bool.false_eq_true, and_true, true_and, and_self, or_self, true_or, or_true, not_true, not_false_iff, mR_stI, mN_stI, isO_stI, isA_stI, mI_stI, mR_mW, mN_mW, isO_mW, isA_mW, mI_mW, mW_mW, stI_mW, vp_0, nI_addL, nI_mulL, nI_subL, nI_ltL, nI_leL, nI_Llt, nI_Lle, nI_eqL, nI_Leq, nI_add, pk_mul, nI_ltI, nI_leI, nI_eq, vpi, nI_clamp, nI_toN, ↓g_M_least_0, ↓g_M_least_5, ↓g_M_least_9, ↓g_M_least_10]
  split <;> exact ⟨rfl, rfl⟩
theorem le3_lt4 (r : Int32) : (r ≤ nI 3) = (r < 4) := le_pred r (s := 4) (by omega)
theorem le_predn (a : Int32) {s : Nat} (hs : s < 2 ^ 31) : (a ≤ nI s - nI 1) = (a < nI s) := le_pred a hs
def e_M_isResource : Ent := (fun av M => ∃ (r : Int32), av = [.int r] ∧ (True), fun av M r_ M_ => ∀ (r : Int32), av = [.int r] → r_ = (some (.int (bv (0 ≤ r ∧ r < 4)))) ∧ M_ = (M))
theorem pc_M_isResource {r : Int32} {M : Mem} {K : Option Value → Mem → Prop} (hp : True) : pcall e_M_isResource [.int r] M K = K (some (.int (bv (0 ≤ r ∧ r < 4)))) (M) := propext ⟨fun h => h.2 _ _ (fun r' e => by simp only [List.cons.injEq, Value.ref.injEq, Value.int.injEq, Value.long.injEq, and_true] at e; have q0 := e; obtain rfl := q0; exact ⟨rfl, rfl⟩), fun h => ⟨⟨r, rfl, hp⟩, fun r_ M_ q => by obtain ⟨rfl, rfl⟩ := q _ rfl; exact h⟩⟩
theorem mk_M_isResource {Z : Zt} {d : Nat} (h : ∀ (r : Int32) (M : Mem), (True) → Gm Z d s_M_isResource [.int r] M (ex (some (.int (bv (0 ≤ r ∧ r < 4)))) (M))) : okE Z d i_M_isResource e_M_isResource := by
  rintro av M ⟨r, rfl, hp⟩
  exact Gm.cons (h r M  hp) (fun r_ M_ q r' e => by simp only [List.cons.injEq, Value.ref.injEq, Value.int.injEq, Value.long.injEq, and_true] at e; have q0 := e; obtain rfl := q0; exact q)
def C_M_isResource : List (Nat × Ent) := [(i_M_in, e_M_in)]
abbrev S_M_isResource : List Nat := []
def t_M_isResource_6 : List PI := (6, 9, 1, 0, 0, 0, []) :: []
def t_M_isResource_0 : List PI := (0, 1, 0, 0, 0, 0, []) :: (1, 0, 0, 0, 0, 0, []) :: (2, 0, 0, 0, 0, 3, []) :: (3, 11, 1, 0, 101, 0, [28, 3]) :: t_M_isResource_6
theorem kt_M_isResource : okP s_M_isResource t_M_isResource_0 := k_M_isResource
theorem g_M_isResource_0 {Z : Zt} {nF f : Nat} {Kx : Nat → Kt} {Q : Option Value → Mem → Prop} {M : Mem} {x1 : Int32} : run Z nF C_M_isResource S_M_isResource Kx Q (f + 4) t_M_isResource_0 [some (.int (x1))] [] M = (((True) ∧ wsum [] ≤ 8) ∧ pcall e_M_in [.int (x1), .int ((nI 0)), .int ((nI 3))] (M) (fun v M_ => run Z nF C_M_isResource S_M_isResource Kx Q f t_M_isResource_6 [some (.int (x1))] (v.toList ++ []) M_)) := rfl
theorem g_M_isResource_6 {Z : Zt} {nF f : Nat} {Kx : Nat → Kt} {Q : Option Value → Mem → Prop} {M : Mem} {x1 : Int32} {x2 : Int32} : run Z nF C_M_isResource S_M_isResource Kx Q (f + 1) t_M_isResource_6 [some (.int (x1))] [.int (x2)] M = (((x2) = nI 0 ∨ (x2) = nI 1) ∧ Q (some (.int (x2))) (M)) := rfl
set_option maxRecDepth 100000 in
set_option maxHeartbeats 4000000 in
theorem ok_M_isResource (Z : Zt) (d : Nat) : okE Z (d + 2) i_M_isResource e_M_isResource := mk_M_isResource fun r M hp => by
  refine Gm_run (C := C_M_isResource) (S := S_M_isResource) [some (.int r)] 1000 kt_M_isResource (okE_cons (ok_M_in Z d) okE_nil) (ex_n rfl) ?_
  simp (maxSteps := 3000000) (disch := first | exact True.intro | assumption | omega) only [↓eq_self, Option.toList_some, Option.toList_none, List.nil_append, List.cons_append, wsum_0, wsum_1, wsum_2, wsum_3, wsum_4, lkill, ↓reduceIte, if_true, if_false, Bool.false_eq_true, and_true, true_and, and_self, or_self, true_or, or_true, not_true, not_false_iff, mR_stI, mN_stI, isO_stI, isA_stI, mI_stI, mR_mW, mN_mW, isO_mW, isA_mW, mI_mW, mW_mW, stI_mW, vp_0, nI_addL, nI_mulL, nI_subL, nI_ltL, nI_leL, nI_Llt, nI_Lle, nI_eqL, nI_Leq, nI_add, pk_mul, nI_ltI, nI_leI, nI_eq, vpi, nI_clamp, nI_toN, ↓g_M_isResource_0, ↓g_M_isResource_6, pc_M_in, bv_01n, le3_lt4]
  exact ⟨rfl, rfl⟩
def e_M_isTenant : Ent := (fun av M => ∃ (o : Nat) (t : Int32), av = [.ref o, .int t] ∧ (o = 174 ∧ MO M), fun av M r_ M_ => ∀ (o : Nat) (t : Int32), av = [.ref o, .int t] → r_ = (some (.int (bv (0 ≤ t ∧ t < nI (uT (mI M 175)))))) ∧ M_ = (M))
theorem pc_M_isTenant {o : Nat} {t : Int32} {M : Mem} {K : Option Value → Mem → Prop} (hp : o = 174 ∧ MO M) : pcall e_M_isTenant [.ref o, .int t] M K = K (some (.int (bv (0 ≤ t ∧ t < nI (uT (mI M 175)))))) (M) := propext ⟨fun h => h.2 _ _ (fun o' t' e => by simp only [List.cons.injEq, Value.ref.injEq, Value.int.injEq, Value.long.injEq, and_true] at e; obtain ⟨q0, q1⟩ := e; obtain rfl := q0; obtain rfl := q1; exact ⟨rfl, rfl⟩), fun h => ⟨⟨o, t, rfl, hp⟩, fun r_ M_ q => by obtain ⟨rfl, rfl⟩ := q _ _ rfl; exact h⟩⟩
theorem mk_M_isTenant {Z : Zt} {d : Nat} (h : ∀ (o : Nat) (t : Int32) (M : Mem), (o = 174 ∧ MO M) → Gm Z d s_M_isTenant [.ref o, .int t] M (ex (some (.int (bv (0 ≤ t ∧ t < nI (uT (mI M 175)))))) (M))) : okE Z d i_M_isTenant e_M_isTenant := by
  rintro av M ⟨o, t, rfl, hp⟩
  exact Gm.cons (h o t M  hp) (fun r_ M_ q o' t' e => by simp only [List.cons.injEq, Value.ref.injEq, Value.int.injEq, Value.long.injEq, and_true] at e; obtain ⟨q0, q1⟩ := e; obtain rfl := q0; obtain rfl := q1; exact q)
def C_M_isTenant : List (Nat × Ent) := [(i_M_in, e_M_in)]
abbrev S_M_isTenant : List Nat := []
def t_M_isTenant_15 : List PI := (15, 9, 1, 0, 0, 0, []) :: []
def t_M_isTenant_0 : List PI := (0, 1, 0, 1, 0, 0, []) :: (1, 0, 0, 0, 0, 0, []) :: (2, 1, 1, 0, 0, 0, []) :: (3, 8, 1, 5, 0, 0, [7]) :: (6, 0, 0, 0, 2, 447, []) :: (9, 8, 4, 0, 0, 0, []) :: (10, 0, 0, 0, 0, 1, []) :: (11, 2, 1, 0, 0, 0, []) :: (12, 11, 1, 0, 101, 0, [28, 3]) :: t_M_isTenant_15
theorem kt_M_isTenant : okP s_M_isTenant t_M_isTenant_0 := k_M_isTenant
theorem g_M_isTenant_0 {Z : Zt} {nF f : Nat} {Kx : Nat → Kt} {Q : Option Value → Mem → Prop} {M : Mem} {x1 : Nat} {x2 : Int32} : run Z nF C_M_isTenant S_M_isTenant Kx Q (f + 9) t_M_isTenant_0 [some (.ref (x1)), some (.int (x2))] [] M = (isO (M) (x1) 5 ∧ isA (M) (mR (M) (x1) 0) ((nI 447)) ∧ ((True) ∧ wsum [] ≤ 8) ∧ pcall e_M_in [.int (x2), .int ((nI 0)), .int ((mI (M) (mR (M) (x1) 0) (Int32.toNatClampNeg ((nI 447)))) - ((nI 1)))] (M) (fun v M_ => run Z nF C_M_isTenant S_M_isTenant Kx Q f t_M_isTenant_15 [some (.ref (x1)), some (.int (x2))] (v.toList ++ []) M_)) := rfl
theorem g_M_isTenant_15 {Z : Zt} {nF f : Nat} {Kx : Nat → Kt} {Q : Option Value → Mem → Prop} {M : Mem} {x1 : Nat} {x2 : Int32} {x3 : Int32} : run Z nF C_M_isTenant S_M_isTenant Kx Q (f + 1) t_M_isTenant_15 [some (.ref (x1)), some (.int (x2))] [.int (x3)] M = (((x3) = nI 0 ∨ (x3) = nI 1) ∧ Q (some (.int (x3))) (M)) := rfl
set_option maxRecDepth 100000 in
set_option maxHeartbeats 4000000 in
theorem ok_M_isTenant (Z : Zt) (d : Nat) : okE Z (d + 2) i_M_isTenant e_M_isTenant := mk_M_isTenant fun o t M hp => by
  obtain ⟨rfl, hB, hU⟩ := hp
  have hT := hU.1.1
  have h6 := hU.1.2
  refine Gm_run (C := C_M_isTenant) (S := S_M_isTenant) [some (.ref 174), some (.int t)] 1000 kt_M_isTenant (okE_cons (ok_M_in Z d) okE_nil) (ex_n rfl) ?_
  simp (maxSteps := 3000000) (disch := first | exact True.intro | assumption | omega) only [↓eq_self, Option.toList_some, Option.toList_none, List.nil_append, List.cons_append, wsum_0, wsum_1, wsum_2, wsum_3, wsum_4, lkill, ↓reduceIte, if_true, if_false, Bool.false_eq_true, and_true, true_and, and_self, or_self, true_or, or_true, not_true, not_false_iff, mR_stI, mN_stI, isO_stI, isA_stI, mI_stI, mR_mW, mN_mW, isO_mW, isA_mW, mI_mW, mW_mW, stI_mW, vp_0, nI_add, nI_ltI, nI_leI, nI_eq, vpi, nI_clamp, nI_toN, nI_geT, nI_lt4, pk_mul, pk_sub, bv_0n, bv_1n, ↓bv_01n, n01a, n01b, Nat.reduceSub, u2_rw, rw_rw, rw_at, rw_ne, rw_175_174, rw_176_174, rw_176_175, rw_177_174, rw_177_175, rw_177_176, rw_178_174, rw_178_175, rw_178_176, rw_178_177, rw_179_174, rw_179_175, rw_179_176, rw_179_177, rw_179_178, rw_180_174, rw_180_175, rw_180_176, rw_180_177, rw_180_178, rw_180_179, up_at, up_ne, Nat.zero_add, Nat.add_zero, bk_oM hB, bk_m0 hB, bk_m1 hB, bk_m2 hB, bk_m4 hB, bk_m6 hB, bk_m9 hB, md_a hB, md_p hB, md_s hB, md_t hB, md_r hB, md_v hB, ite_nt, ↓g_M_isTenant_0, ↓g_M_isTenant_15, pc_M_in, hT, le_predn]
  exact ⟨rfl, rfl⟩
def e_M_of : Ent := (fun av M => ∃ (o : Nat) (t : Nat) (w : Nat), av = [.ref o, .int (nI t), .int (nI w)] ∧ t < 2 ^ 31 ∧ w < 2 ^ 31 ∧ (o = 174 ∧ BkS M ∧ t < 6 ∧ w < 12), fun av M r_ M_ => ∀ (o : Nat) (t : Nat) (w : Nat), t < 2 ^ 31 → w < 2 ^ 31 → av = [.ref o, .int (nI t), .int (nI w)] → r_ = (some (.int (mI M 175 (8 + 12 * t + w)))) ∧ M_ = (M))
theorem pc_M_of {o : Nat} {t : Nat} {w : Nat} {M : Mem} {K : Option Value → Mem → Prop} (hp : o = 174 ∧ BkS M ∧ t < 6 ∧ w < 12) (h_t : t < 2 ^ 31) (h_w : w < 2 ^ 31) : pcall e_M_of [.ref o, .int (nI t), .int (nI w)] M K = K (some (.int (mI M 175 (8 + 12 * t + w)))) (M) := propext ⟨fun h => h.2 _ _ (fun o' t' w' h_t' h_w' e => by simp only [List.cons.injEq, Value.ref.injEq, Value.int.injEq, Value.long.injEq, and_true] at e; obtain ⟨q0, q1, q2⟩ := e; obtain rfl := q0; obtain rfl := (nI_eq h_t h_t').mp q1; obtain rfl := (nI_eq h_w h_w').mp q2; exact ⟨rfl, rfl⟩), fun h => ⟨⟨o, t, w, rfl, h_t, h_w, hp⟩, fun r_ M_ q => by obtain ⟨rfl, rfl⟩ := q _ _ _ h_t h_w rfl; exact h⟩⟩
theorem mk_M_of {Z : Zt} {d : Nat} (h : ∀ (o : Nat) (t : Nat) (w : Nat) (M : Mem), t < 2 ^ 31 → w < 2 ^ 31 → (o = 174 ∧ BkS M ∧ t < 6 ∧ w < 12) → Gm Z d s_M_of [.ref o, .int (nI t), .int (nI w)] M (ex (some (.int (mI M 175 (8 + 12 * t + w)))) (M))) : okE Z d i_M_of e_M_of := by
  rintro av M ⟨o, t, w, rfl, h_t, h_w, hp⟩
  exact Gm.cons (h o t w M h_t h_w hp) (fun r_ M_ q o' t' w' h_t' h_w' e => by simp only [List.cons.injEq, Value.ref.injEq, Value.int.injEq, Value.long.injEq, and_true] at e; obtain ⟨q0, q1, q2⟩ := e; obtain rfl := q0; obtain rfl := (nI_eq h_t h_t').mp q1; obtain rfl := (nI_eq h_w h_w').mp q2; exact q)
def C_M_of : List (Nat × Ent) := []
abbrev S_M_of : List Nat := []
def t_M_of_0 : List PI := (0, 1, 1, 0, 0, 0, []) :: (1, 8, 1, 5, 0, 0, [7]) :: (4, 0, 0, 0, 1, 8, []) :: (6, 0, 0, 0, 1, 12, []) :: (8, 1, 0, 1, 0, 0, []) :: (9, 2, 2, 0, 0, 0, []) :: (10, 2, 0, 0, 0, 0, []) :: (11, 1, 0, 2, 0, 0, []) :: (12, 2, 0, 0, 0, 0, []) :: (13, 8, 4, 0, 0, 0, []) :: (14, 9, 0, 0, 0, 0, []) :: []
theorem kt_M_of : okP s_M_of t_M_of_0 := k_M_of
theorem g_M_of_0 {Z : Zt} {nF f : Nat} {Kx : Nat → Kt} {Q : Option Value → Mem → Prop} {M : Mem} {x1 : Nat} {x2 : Int32} {x3 : Int32} : run Z nF C_M_of S_M_of Kx Q (f + 11) t_M_of_0 [some (.ref (x1)), some (.int (x2)), some (.int (x3))] [] M = (isO (M) (x1) 5 ∧ isA (M) (mR (M) (x1) 0) ((((nI 8)) + (((nI 12)) * (x2))) + (x3)) ∧ Q (some (.int (mI (M) (mR (M) (x1) 0) (Int32.toNatClampNeg ((((nI 8)) + (((nI 12)) * (x2))) + (x3)))))) (M)) := rfl
set_option maxRecDepth 100000 in
set_option maxHeartbeats 4000000 in
theorem ok_M_of (Z : Zt) (d : Nat) : okE Z (d + 1) i_M_of e_M_of := mk_M_of fun o t w M h1 h2 hp => by
  obtain ⟨rfl, hB, ht, hw⟩ := hp
  refine Gm_run (C := C_M_of) (S := S_M_of) [some (.ref 174), some (.int (nI t)), some (.int (nI w))] 1000 kt_M_of okE_nil (ex_n rfl) ?_
  simp (maxSteps := 3000000) (disch := first | exact True.intro | assumption | omega) only [↓eq_self, Option.toList_some, Option.toList_none, List.nil_append, List.cons_append, wsum_0, wsum_1, wsum_2, wsum_3, wsum_4, lkill, ↓reduceIte, if_true, if_false, Bool.false_eq_true, and_true, true_and, and_self, or_self, true_or, or_true, not_true, not_false_iff, mR_stI, mN_stI, isO_stI, isA_stI, mI_stI, mR_mW, mN_mW, isO_mW, isA_mW, mI_mW, mW_mW, stI_mW, vp_0, nI_add, nI_ltI, nI_leI, nI_eq, vpi, nI_clamp, nI_toN, nI_geT, nI_lt4, pk_mul, pk_sub, bv_0n, bv_1n, ↓bv_01n, n01a, n01b, Nat.reduceSub, u2_rw, rw_rw, rw_at, rw_ne, rw_175_174, rw_176_174, rw_176_175, rw_177_174, rw_177_175, rw_177_176, rw_178_174, rw_178_175, rw_178_176, rw_178_177, rw_179_174, rw_179_175, rw_179_176, rw_179_177, rw_179_178, rw_180_174, rw_180_175, rw_180_176, rw_180_177, rw_180_178, rw_180_179, up_at, up_ne, Nat.zero_add, Nat.add_zero, bk_oM hB, bk_m0 hB, bk_m1 hB, bk_m2 hB, bk_m4 hB, bk_m6 hB, bk_m9 hB, md_a hB, md_p hB, md_s hB, md_t hB, md_r hB, md_v hB, ite_nt, ↓g_M_of_0]
  exact ⟨rfl, rfl⟩
def e_M_adds : Ent := (fun av M => ∃ (o : Nat) (t : Nat) (w : Nat) (n : Int32), av = [.ref o, .int (nI t), .int (nI w), .int n] ∧ t < 2 ^ 31 ∧ w < 2 ^ 31 ∧ (o = 174 ∧ BkS M ∧ t < 6 ∧ w < 12), fun av M r_ M_ => ∀ (o : Nat) (t : Nat) (w : Nat) (n : Int32), t < 2 ^ 31 → w < 2 ^ 31 → av = [.ref o, .int (nI t), .int (nI w), .int n] → r_ = (none) ∧ M_ = (mW M (rwF (mI M) 175 (upF (mI M 175) (8 + 12 * t + w) (mI M 175 (8 + 12 * t + w) + n)))))
theorem pc_M_adds {o : Nat} {t : Nat} {w : Nat} {n : Int32} {M : Mem} {K : Option Value → Mem → Prop} (hp : o = 174 ∧ BkS M ∧ t < 6 ∧ w < 12) (h_t : t < 2 ^ 31) (h_w : w < 2 ^ 31) : pcall e_M_adds [.ref o, .int (nI t), .int (nI w), .int n] M K = K (none) (mW M (rwF (mI M) 175 (upF (mI M 175) (8 + 12 * t + w) (mI M 175 (8 + 12 * t + w) + n)))) := propext ⟨fun h => h.2 _ _ (fun o' t' w' n' h_t' h_w' e => by simp only [List.cons.injEq, Value.ref.injEq, Value.int.injEq, Value.long.injEq, and_true] at e; obtain ⟨q0, q1, q2, q3⟩ := e; obtain rfl := q0; obtain rfl := (nI_eq h_t h_t').mp q1; obtain rfl := (nI_eq h_w h_w').mp q2; obtain rfl := q3; exact ⟨rfl, rfl⟩), fun h => ⟨⟨o, t, w, n, rfl, h_t, h_w, hp⟩, fun r_ M_ q => by obtain ⟨rfl, rfl⟩ := q _ _ _ _ h_t h_w rfl; exact h⟩⟩
theorem mk_M_adds {Z : Zt} {d : Nat} (h : ∀ (o : Nat) (t : Nat) (w : Nat) (n : Int32) (M : Mem), t < 2 ^ 31 → w < 2 ^ 31 → (o = 174 ∧ BkS M ∧ t < 6 ∧ w < 12) → Gm Z d s_M_adds [.ref o, .int (nI t), .int (nI w), .int n] M (ex (none) (mW M (rwF (mI M) 175 (upF (mI M 175) (8 + 12 * t + w) (mI M 175 (8 + 12 * t + w) + n)))))) : okE Z d i_M_adds e_M_adds := by
  rintro av M ⟨o, t, w, n, rfl, h_t, h_w, hp⟩
  exact Gm.cons (h o t w n M h_t h_w hp) (fun r_ M_ q o' t' w' n' h_t' h_w' e => by simp only [List.cons.injEq, Value.ref.injEq, Value.int.injEq, Value.long.injEq, and_true] at e; obtain ⟨q0, q1, q2, q3⟩ := e; obtain rfl := q0; obtain rfl := (nI_eq h_t h_t').mp q1; obtain rfl := (nI_eq h_w h_w').mp q2; obtain rfl := q3; exact q)
def C_M_adds : List (Nat × Ent) := []
abbrev S_M_adds : List Nat := []
def t_M_adds_0 : List PI := (0, 1, 1, 0, 0, 0, []) :: (1, 8, 1, 5, 0, 0, [7]) :: (4, 0, 0, 0, 1, 8, []) :: (6, 0, 0, 0, 1, 12, []) :: (8, 1, 0, 1, 0, 0, []) :: (9, 2, 2, 0, 0, 0, []) :: (10, 2, 0, 0, 0, 0, []) :: (11, 1, 0, 2, 0, 0, []) :: (12, 2, 0, 0, 0, 0, []) :: (13, 7, 1, 0, 0, 0, []) :: (14, 8, 4, 0, 0, 0, []) :: (15, 1, 0, 3, 0, 0, []) :: (16, 2, 0, 0, 0, 0, []) :: (17, 10, 4, 0, 0, 0, []) :: (18, 9, 5, 0, 0, 0, []) :: []
theorem kt_M_adds : okP s_M_adds t_M_adds_0 := k_M_adds
theorem g_M_adds_0 {Z : Zt} {nF f : Nat} {Kx : Nat → Kt} {Q : Option Value → Mem → Prop} {M : Mem} {x1 : Nat} {x2 : Int32} {x3 : Int32} {x4 : Int32} : run Z nF C_M_adds S_M_adds Kx Q (f + 15) t_M_adds_0 [some (.ref (x1)), some (.int (x2)), some (.int (x3)), some (.int (x4))] [] M = (isO (M) (x1) 5 ∧ isA (M) (mR (M) (x1) 0) ((((nI 8)) + (((nI 12)) * (x2))) + (x3)) ∧ isA (M) (mR (M) (x1) 0) ((((nI 8)) + (((nI 12)) * (x2))) + (x3)) ∧ Q none (stI (M) (mR (M) (x1) 0) (Int32.toNatClampNeg ((((nI 8)) + (((nI 12)) * (x2))) + (x3))) ((mI (M) (mR (M) (x1) 0) (Int32.toNatClampNeg ((((nI 8)) + (((nI 12)) * (x2))) + (x3)))) + (x4)))) := rfl
set_option maxRecDepth 100000 in
set_option maxHeartbeats 4000000 in
theorem ok_M_adds (Z : Zt) (d : Nat) : okE Z (d + 1) i_M_adds e_M_adds := mk_M_adds fun o t w n M h1 h2 hp => by
  obtain ⟨rfl, hB, ht, hw⟩ := hp
  refine Gm_run (C := C_M_adds) (S := S_M_adds) [some (.ref 174), some (.int (nI t)), some (.int (nI w)), some (.int n)] 1000 kt_M_adds okE_nil (ex_n rfl) ?_
  simp (maxSteps := 3000000) (disch := first | exact True.intro | assumption | omega) only [↓eq_self, Option.toList_some, Option.toList_none, List.nil_append, List.cons_append, wsum_0, wsum_1, wsum_2, wsum_3, wsum_4, lkill, ↓reduceIte, if_true, if_false, Bool.false_eq_true, and_true, true_and, and_self, or_self, true_or, or_true, not_true, not_false_iff, mR_stI, mN_stI, isO_stI, isA_stI, mI_stI, mR_mW, mN_mW, isO_mW, isA_mW, mI_mW, mW_mW, stI_mW, vp_0, nI_add, nI_ltI, nI_leI, nI_eq, vpi, nI_clamp, nI_toN, nI_geT, nI_lt4, pk_mul, pk_sub, bv_0n, bv_1n, ↓bv_01n, n01a, n01b, Nat.reduceSub, u2_rw, rw_rw, rw_at, rw_ne, rw_175_174, rw_176_174, rw_176_175, rw_177_174, rw_177_175, rw_177_176, rw_178_174, rw_178_175, rw_178_176, rw_178_177, rw_179_174, rw_179_175, rw_179_176, rw_179_177, rw_179_178, rw_180_174, rw_180_175, rw_180_176, rw_180_177, rw_180_178, rw_180_179, up_at, up_ne, Nat.zero_add, Nat.add_zero, bk_oM hB, bk_m0 hB, bk_m1 hB, bk_m2 hB, bk_m4 hB, bk_m6 hB, bk_m9 hB, md_a hB, md_p hB, md_s hB, md_t hB, md_r hB, md_v hB, ite_nt, ↓g_M_adds_0]
  exact ⟨rfl, rfl⟩
/-- the first n numbers of a row taken over -/
def cpU (a b : Nat → Int32) (n : Nat) : Nat → Int32 := fun k => if k < n then b k else a k
theorem cpU_0 (a b : Nat → Int32) : cpU a b 0 = a := by
  funext k
  exact if_neg (Nat.not_lt_zero _)
theorem cpU_s (a b : Nat → Int32) (i : Nat) : upF (cpU a b i) i (b i) = cpU a b (i + 1) := by
  funext k
  show (if k = i then b i else if k < i then b k else a k) = if k < i + 1 then b k else a k
  by_cases h : k = i
  · rw [if_pos h, if_pos (by omega), h]
  · rw [if_neg h]
    by_cases h2 : k < i
    · rw [if_pos h2, if_pos (by omega)]
    · rw [if_neg h2, if_neg (by omega)]
def e_M_keepsAside : Ent := (fun av M => ∃ (o : Nat), av = [.ref o] ∧ (o = 174 ∧ BkS M), fun av M r_ M_ => ∀ (o : Nat), av = [.ref o] → r_ = (none) ∧ M_ = (mW M (rwF (mI M) 177 (cpU (mI M 177) (mI M 175) 454))))
theorem pc_M_keepsAside {o : Nat} {M : Mem} {K : Option Value → Mem → Prop} (hp : o = 174 ∧ BkS M) : pcall e_M_keepsAside [.ref o] M K = K (none) (mW M (rwF (mI M) 177 (cpU (mI M 177) (mI M 175) 454))) := propext ⟨fun h => h.2 _ _ (fun o' e => by simp only [List.cons.injEq, Value.ref.injEq, Value.int.injEq, Value.long.injEq, and_true] at e; have q0 := e; obtain rfl := q0; exact ⟨rfl, rfl⟩), fun h => ⟨⟨o, rfl, hp⟩, fun r_ M_ q => by obtain ⟨rfl, rfl⟩ := q _ rfl; exact h⟩⟩
theorem mk_M_keepsAside {Z : Zt} {d : Nat} (h : ∀ (o : Nat) (M : Mem), (o = 174 ∧ BkS M) → Gm Z d s_M_keepsAside [.ref o] M (ex (none) (mW M (rwF (mI M) 177 (cpU (mI M 177) (mI M 175) 454))))) : okE Z d i_M_keepsAside e_M_keepsAside := by
  rintro av M ⟨o, rfl, hp⟩
  exact Gm.cons (h o M  hp) (fun r_ M_ q o' e => by simp only [List.cons.injEq, Value.ref.injEq, Value.int.injEq, Value.long.injEq, and_true] at e; have q0 := e; obtain rfl := q0; exact q)
def C_M_keepsAside : List (Nat × Ent) := []
abbrev S_M_keepsAside : List Nat := [2]
def t_M_keepsAside_27 : List PI := (27, 9, 5, 0, 0, 0, []) :: []
def t_M_keepsAside_9 : List PI := (9, 1, 1, 0, 0, 0, []) :: (10, 8, 1, 5, 2, 0, [16]) :: (13, 1, 0, 1, 0, 0, []) :: (14, 1, 1, 0, 0, 0, []) :: (15, 8, 1, 5, 0, 0, [7]) :: (18, 1, 0, 1, 0, 0, []) :: (19, 8, 4, 0, 0, 0, []) :: (20, 10, 4, 0, 0, 0, []) :: (21, 1, 6, 1, 0, 1, []) :: (24, 6, 0, 2, 0, 0, []) :: t_M_keepsAside_27
def t_M_keepsAside_2 : List PI := (2, 1, 0, 1, 0, 0, []) :: (3, 0, 0, 0, 2, 454, []) :: (6, 4, 3, 27, 0, 0, []) :: t_M_keepsAside_9
def t_M_keepsAside_0 : List PI := (0, 0, 0, 0, 0, 0, []) :: (1, 1, 3, 1, 0, 0, []) :: t_M_keepsAside_2
theorem kt_M_keepsAside : okP s_M_keepsAside t_M_keepsAside_0 := k_M_keepsAside
theorem g_M_keepsAside_0 {Z : Zt} {nF f : Nat} {Kx : Nat → Kt} {Q : Option Value → Mem → Prop} {M : Mem} {x1 : Nat} : run Z nF C_M_keepsAside S_M_keepsAside Kx Q (f + 2) t_M_keepsAside_0 [some (.ref (x1)), none] [] M = (Kx 2 [some (.ref (x1)), some (.int ((nI 0)))] [] (M)) := rfl
theorem g_M_keepsAside_2 {Z : Zt} {nF f : Nat} {Kx : Nat → Kt} {Q : Option Value → Mem → Prop} {M : Mem} {x1 : Nat} {x2 : Int32} : run Z nF C_M_keepsAside S_M_keepsAside Kx Q (f + 3) t_M_keepsAside_2 [some (.ref (x1)), some (.int (x2))] [] M = ((if ((nI 454)) ≤ (x2) then run Z nF C_M_keepsAside S_M_keepsAside Kx Q f t_M_keepsAside_27 [some (.ref (x1)), some (.int (x2))] [] (M) else run Z nF C_M_keepsAside S_M_keepsAside Kx Q f t_M_keepsAside_9 [some (.ref (x1)), some (.int (x2))] [] (M))) := rfl
theorem g_M_keepsAside_9 {Z : Zt} {nF f : Nat} {Kx : Nat → Kt} {Q : Option Value → Mem → Prop} {M : Mem} {x1 : Nat} {x2 : Int32} : run Z nF C_M_keepsAside S_M_keepsAside Kx Q (f + 10) t_M_keepsAside_9 [some (.ref (x1)), some (.int (x2))] [] M = (isO (M) (x1) 5 ∧ isO (M) (x1) 5 ∧ isA (M) (mR (M) (x1) 0) (x2) ∧ isA (M) (mR (M) (x1) 2) (x2) ∧ Kx 2 [some (.ref (x1)), some (.int (x2 + (nI 1)))] [] (stI (M) (mR (M) (x1) 2) (Int32.toNatClampNeg (x2)) (mI (M) (mR (M) (x1) 0) (Int32.toNatClampNeg (x2))))) := rfl
theorem g_M_keepsAside_27 {Z : Zt} {nF f : Nat} {Kx : Nat → Kt} {Q : Option Value → Mem → Prop} {M : Mem} {x1 : Nat} {x2 : Int32} : run Z nF C_M_keepsAside S_M_keepsAside Kx Q (f + 1) t_M_keepsAside_27 [some (.ref (x1)), some (.int (x2))] [] M = (Q none (M)) := rfl
set_option maxRecDepth 100000 in
set_option maxHeartbeats 4000000 in
theorem lp_M_keepsAside (Z : Zt) (d : Nat) {M : Mem} (hB : BkS M) : ∀ n i, i + n = 454 → X Z (d + 1) s_M_keepsAside (mN M) (mN M) (ex none (mW M (rwF (mI M) 177 (cpU (mI M 177) (mI M 175) 454)))) 2 [some (.ref 174), some (.int (nI i))] [] (mW M (rwF (mI M) 177 (cpU (mI M 177) (mI M 175) i))) := by
  intro n
  induction n with
  | zero =>
    intro i hi
    obtain rfl : i = 454 := by omega
    refine X_runT (C := C_M_keepsAside) (S := S_M_keepsAside) (T := t_M_keepsAside_2) 1000 kt_M_keepsAside okE_nil ?_
    simp (maxSteps := 3000000) (disch := first | exact True.intro | assumption | omega) only [↓eq_self, Option.toList_some, Option.toList_none, List.nil_append, List.cons_append, wsum_0, wsum_1, wsum_2, wsum_3, wsum_4, lkill, ↓reduceIte, if_true, if_false, Bool.false_eq_true, and_true, true_and, and_self, or_self, true_or, or_true, not_true, not_false_iff, mR_stI, mN_stI, isO_stI, isA_stI, mI_stI, mR_mW, mN_mW, isO_mW, isA_mW, mI_mW, mW_mW, stI_mW, vp_0, nI_add, nI_ltI, nI_leI, nI_eq, vpi, nI_clamp, nI_toN, nI_geT, nI_lt4, pk_mul, pk_sub, bv_0n, bv_1n, ↓bv_01n, n01a, n01b, Nat.reduceSub, u2_rw, rw_rw, rw_at, rw_ne, rw_175_174, rw_176_174, rw_176_175, rw_177_174, rw_177_175, rw_177_176, rw_178_174, rw_178_175, rw_178_176, rw_178_177, rw_179_174, rw_179_175, rw_179_176, rw_179_177, rw_179_178, rw_180_174, rw_180_175, rw_180_176, rw_180_177, rw_180_178, rw_180_179, up_at, up_ne, Nat.zero_add, Nat.add_zero, bk_oM hB, bk_m0 hB, bk_m1 hB, bk_m2 hB, bk_m4 hB, bk_m6 hB, bk_m9 hB, md_a hB, md_p hB, md_s hB, md_t hB, md_r hB, md_v hB, ite_nt, ↓g_M_keepsAside_0, ↓g_M_keepsAside_2, ↓g_M_keepsAside_9, ↓g_M_keepsAside_27, Nat.le_refl]
    exact ⟨rfl, rfl⟩
  | succ n ih =>
    intro i hi
    have h1 : ¬ 454 ≤ i := by omega
    refine X_runT (C := C_M_keepsAside) (S := S_M_keepsAside) (T := t_M_keepsAside_2) 1000 kt_M_keepsAside okE_nil ?_
    simp (maxSteps := 3000000) (disch := first | exact True.intro | assumption | omega) only [↓eq_self, Option.toList_some, Option.toList_none, List.nil_append, List.cons_append, wsum_0, wsum_1, wsum_2, wsum_3, wsum_4, lkill, ↓reduceIte, if_true, if_false, Bool.false_eq_true, and_true, true_and, and_self, or_self, true_or, or_true, not_true, not_false_iff, mR_stI, mN_stI, isO_stI, isA_stI, mI_stI, mR_mW, mN_mW, isO_mW, isA_mW, mI_mW, mW_mW, stI_mW, vp_0, nI_add, nI_ltI, nI_leI, nI_eq, vpi, nI_clamp, nI_toN, nI_geT, nI_lt4, pk_mul, pk_sub, bv_0n, bv_1n, ↓bv_01n, n01a, n01b, Nat.reduceSub, u2_rw, rw_rw, rw_at, rw_ne, rw_175_174, rw_176_174, rw_176_175, rw_177_174, rw_177_175, rw_177_176, rw_178_174, rw_178_175, rw_178_176, rw_178_177, rw_179_174, rw_179_175, rw_179_176, rw_179_177, rw_179_178, rw_180_174, rw_180_175, rw_180_176, rw_180_177, rw_180_178, rw_180_179, up_at, up_ne, Nat.zero_add, Nat.add_zero, bk_oM hB, bk_m0 hB, bk_m1 hB, bk_m2 hB, bk_m4 hB, bk_m6 hB, bk_m9 hB, md_a hB, md_p hB, md_s hB, md_t hB, md_r hB, md_v hB, ite_nt, ↓g_M_keepsAside_0, ↓g_M_keepsAside_2, ↓g_M_keepsAside_9, ↓g_M_keepsAside_27, h1, cpU_s]
    exact ih (i + 1) (by omega)
set_option maxRecDepth 100000 in
set_option maxHeartbeats 4000000 in
theorem ok_M_keepsAside (Z : Zt) (d : Nat) : okE Z (d + 1) i_M_keepsAside e_M_keepsAside := mk_M_keepsAside fun o M hp => by
  obtain ⟨rfl, hB⟩ := hp
  refine Gm_run (C := C_M_keepsAside) (S := S_M_keepsAside) [some (.ref 174), none] 1000 kt_M_keepsAside okE_nil (ex_n rfl) ?_
  simp (maxSteps := 3000000) (disch := first | exact True.intro | assumption | omega) only [↓eq_self, Option.toList_some, Option.toList_none, List.nil_append, List.cons_append, wsum_0, wsum_1, wsum_2, wsum_3, wsum_4, lkill, ↓reduceIte, if_true, if_false, Bool.false_eq_true, and_true, true_and, and_self, or_self, true_or, or_true, not_true, not_false_iff, mR_stI, mN_stI, isO_stI, isA_stI, mI_stI, mR_mW, mN_mW, isO_mW, isA_mW, mI_mW, mW_mW, stI_mW, vp_0, nI_add, nI_ltI, nI_leI, nI_eq, vpi, nI_clamp, nI_toN, nI_geT, nI_lt4, pk_mul, pk_sub, bv_0n, bv_1n, ↓bv_01n, n01a, n01b, Nat.reduceSub, u2_rw, rw_rw, rw_at, rw_ne, rw_175_174, rw_176_174, rw_176_175, rw_177_174, rw_177_175, rw_177_176, rw_178_174, rw_178_175, rw_178_176, rw_178_177, rw_179_174, rw_179_175, rw_179_176, rw_179_177, rw_179_178, rw_180_174, rw_180_175, rw_180_176, rw_180_177, rw_180_178, rw_180_179, up_at, up_ne, Nat.zero_add, Nat.add_zero, bk_oM hB, bk_m0 hB, bk_m1 hB, bk_m2 hB, bk_m4 hB, bk_m6 hB, bk_m9 hB, md_a hB, md_p hB, md_s hB, md_t hB, md_r hB, md_v hB, ite_nt, ↓g_M_keepsAside_0, ↓g_M_keepsAside_2, ↓g_M_keepsAside_9, ↓g_M_keepsAside_27]
  have := lp_M_keepsAside Z d hB 454 0 rfl
  rw [cpU_0, rwF_self] at this
  exact this
def e_M_returns : Ent := (fun av M => ∃ (o : Nat), av = [.ref o] ∧ (o = 174 ∧ BkS M), fun av M r_ M_ => ∀ (o : Nat), av = [.ref o] → r_ = (none) ∧ M_ = (mW M (rwF (mI M) 175 (cpU (mI M 175) (mI M 177) 454))))
theorem pc_M_returns {o : Nat} {M : Mem} {K : Option Value → Mem → Prop} (hp : o = 174 ∧ BkS M) : pcall e_M_returns [.ref o] M K = K (none) (mW M (rwF (mI M) 175 (cpU (mI M 175) (mI M 177) 454))) := propext ⟨fun h => h.2 _ _ (fun o' e => by simp only [List.cons.injEq, Value.ref.injEq, Value.int.injEq, Value.long.injEq, and_true] at e; have q0 := e; obtain rfl := q0; exact ⟨rfl, rfl⟩), fun h => ⟨⟨o, rfl, hp⟩, fun r_ M_ q => by obtain ⟨rfl, rfl⟩ := q _ rfl; exact h⟩⟩
theorem mk_M_returns {Z : Zt} {d : Nat} (h : ∀ (o : Nat) (M : Mem), (o = 174 ∧ BkS M) → Gm Z d s_M_returns [.ref o] M (ex (none) (mW M (rwF (mI M) 175 (cpU (mI M 175) (mI M 177) 454))))) : okE Z d i_M_returns e_M_returns := by
  rintro av M ⟨o, rfl, hp⟩
  exact Gm.cons (h o M  hp) (fun r_ M_ q o' e => by simp only [List.cons.injEq, Value.ref.injEq, Value.int.injEq, Value.long.injEq, and_true] at e; have q0 := e; obtain rfl := q0; exact q)
def C_M_returns : List (Nat × Ent) := []
abbrev S_M_returns : List Nat := [2]
def t_M_returns_27 : List PI := (27, 9, 5, 0, 0, 0, []) :: []
def t_M_returns_9 : List PI := (9, 1, 1, 0, 0, 0, []) :: (10, 8, 1, 5, 0, 0, [7]) :: (13, 1, 0, 1, 0, 0, []) :: (14, 1, 1, 0, 0, 0, []) :: (15, 8, 1, 5, 2, 0, [16]) :: (18, 1, 0, 1, 0, 0, []) :: (19, 8, 4, 0, 0, 0, []) :: (20, 10, 4, 0, 0, 0, []) :: (21, 1, 6, 1, 0, 1, []) :: (24, 6, 0, 2, 0, 0, []) :: t_M_returns_27
def t_M_returns_2 : List PI := (2, 1, 0, 1, 0, 0, []) :: (3, 0, 0, 0, 2, 454, []) :: (6, 4, 3, 27, 0, 0, []) :: t_M_returns_9
def t_M_returns_0 : List PI := (0, 0, 0, 0, 0, 0, []) :: (1, 1, 3, 1, 0, 0, []) :: t_M_returns_2
theorem kt_M_returns : okP s_M_returns t_M_returns_0 := k_M_returns
theorem g_M_returns_0 {Z : Zt} {nF f : Nat} {Kx : Nat → Kt} {Q : Option Value → Mem → Prop} {M : Mem} {x1 : Nat} : run Z nF C_M_returns S_M_returns Kx Q (f + 2) t_M_returns_0 [some (.ref (x1)), none] [] M = (Kx 2 [some (.ref (x1)), some (.int ((nI 0)))] [] (M)) := rfl
theorem g_M_returns_2 {Z : Zt} {nF f : Nat} {Kx : Nat → Kt} {Q : Option Value → Mem → Prop} {M : Mem} {x1 : Nat} {x2 : Int32} : run Z nF C_M_returns S_M_returns Kx Q (f + 3) t_M_returns_2 [some (.ref (x1)), some (.int (x2))] [] M = ((if ((nI 454)) ≤ (x2) then run Z nF C_M_returns S_M_returns Kx Q f t_M_returns_27 [some (.ref (x1)), some (.int (x2))] [] (M) else run Z nF C_M_returns S_M_returns Kx Q f t_M_returns_9 [some (.ref (x1)), some (.int (x2))] [] (M))) := rfl
theorem g_M_returns_9 {Z : Zt} {nF f : Nat} {Kx : Nat → Kt} {Q : Option Value → Mem → Prop} {M : Mem} {x1 : Nat} {x2 : Int32} : run Z nF C_M_returns S_M_returns Kx Q (f + 10) t_M_returns_9 [some (.ref (x1)), some (.int (x2))] [] M = (isO (M) (x1) 5 ∧ isO (M) (x1) 5 ∧ isA (M) (mR (M) (x1) 2) (x2) ∧ isA (M) (mR (M) (x1) 0) (x2) ∧ Kx 2 [some (.ref (x1)), some (.int (x2 + (nI 1)))] [] (stI (M) (mR (M) (x1) 0) (Int32.toNatClampNeg (x2)) (mI (M) (mR (M) (x1) 2) (Int32.toNatClampNeg (x2))))) := rfl
theorem g_M_returns_27 {Z : Zt} {nF f : Nat} {Kx : Nat → Kt} {Q : Option Value → Mem → Prop} {M : Mem} {x1 : Nat} {x2 : Int32} : run Z nF C_M_returns S_M_returns Kx Q (f + 1) t_M_returns_27 [some (.ref (x1)), some (.int (x2))] [] M = (Q none (M)) := rfl
set_option maxRecDepth 100000 in
set_option maxHeartbeats 4000000 in
theorem lp_M_returns (Z : Zt) (d : Nat) {M : Mem} (hB : BkS M) : ∀ n i, i + n = 454 → X Z (d + 1) s_M_returns (mN M) (mN M) (ex none (mW M (rwF (mI M) 175 (cpU (mI M 175) (mI M 177) 454)))) 2 [some (.ref 174), some (.int (nI i))] [] (mW M (rwF (mI M) 175 (cpU (mI M 175) (mI M 177) i))) := by
  intro n
  induction n with
  | zero =>
    intro i hi
    obtain rfl : i = 454 := by omega
    refine X_runT (C := C_M_returns) (S := S_M_returns) (T := t_M_returns_2) 1000 kt_M_returns okE_nil ?_
    simp (maxSteps := 3000000) (disch := first | exact True.intro | assumption | omega) only [↓eq_self, Option.toList_some, Option.toList_none, List.nil_append, List.cons_append, wsum_0, wsum_1, wsum_2, wsum_3, wsum_4, lkill, ↓reduceIte, if_true, if_false, Bool.false_eq_true, and_true, true_and, and_self, or_self, true_or, or_true, not_true, not_false_iff, mR_stI, mN_stI, isO_stI, isA_stI, mI_stI, mR_mW, mN_mW, isO_mW, isA_mW, mI_mW, mW_mW, stI_mW, vp_0, nI_add, nI_ltI, nI_leI, nI_eq, vpi, nI_clamp, nI_toN, nI_geT, nI_lt4, pk_mul, pk_sub, bv_0n, bv_1n, ↓bv_01n, n01a, n01b, Nat.reduceSub, u2_rw, rw_rw, rw_at, rw_ne, rw_175_174, rw_176_174, rw_176_175, rw_177_174, rw_177_175, rw_177_176, rw_178_174, rw_178_175, rw_178_176, rw_178_177, rw_179_174, rw_179_175, rw_179_176, rw_179_177, rw_179_178, rw_180_174, rw_180_175, rw_180_176, rw_180_177, rw_180_178, rw_180_179, up_at, up_ne, Nat.zero_add, Nat.add_zero, bk_oM hB, bk_m0 hB, bk_m1 hB, bk_m2 hB, bk_m4 hB, bk_m6 hB, bk_m9 hB, md_a hB, md_p hB, md_s hB, md_t hB, md_r hB, md_v hB, ite_nt, ↓g_M_returns_0, ↓g_M_returns_2, ↓g_M_returns_9, ↓g_M_returns_27, Nat.le_refl]
    exact ⟨rfl, rfl⟩
  | succ n ih =>
    intro i hi
    have h1 : ¬ 454 ≤ i := by omega
    refine X_runT (C := C_M_returns) (S := S_M_returns) (T := t_M_returns_2) 1000 kt_M_returns okE_nil ?_
    simp (maxSteps := 3000000) (disch := first | exact True.intro | assumption | omega) only [↓eq_self, Option.toList_some, Option.toList_none, List.nil_append, List.cons_append, wsum_0, wsum_1, wsum_2, wsum_3, wsum_4, lkill, ↓reduceIte, if_true, if_false, Bool.false_eq_true, and_true, true_and, and_self, or_self, true_or, or_true, not_true, not_false_iff, mR_stI, mN_stI, isO_stI, isA_stI, mI_stI, mR_mW, mN_mW, isO_mW, isA_mW, mI_mW, mW_mW, stI_mW, vp_0, nI_add, nI_ltI, nI_leI, nI_eq, vpi, nI_clamp, nI_toN, nI_geT, nI_lt4, pk_mul, pk_sub, bv_0n, bv_1n, ↓bv_01n, n01a, n01b, Nat.reduceSub, u2_rw, rw_rw, rw_at, rw_ne, rw_175_174, rw_176_174, rw_176_175, rw_177_174, rw_177_175, rw_177_176, rw_178_174, rw_178_175, rw_178_176, rw_178_177, rw_179_174, rw_179_175, rw_179_176, rw_179_177, rw_179_178, rw_180_174, rw_180_175, rw_180_176, rw_180_177, rw_180_178, rw_180_179, up_at, up_ne, Nat.zero_add, Nat.add_zero, bk_oM hB, bk_m0 hB, bk_m1 hB, bk_m2 hB, bk_m4 hB, bk_m6 hB, bk_m9 hB, md_a hB, md_p hB, md_s hB, md_t hB, md_r hB, md_v hB, ite_nt, ↓g_M_returns_0, ↓g_M_returns_2, ↓g_M_returns_9, ↓g_M_returns_27, h1, cpU_s]
    exact ih (i + 1) (by omega)
set_option maxRecDepth 100000 in
set_option maxHeartbeats 4000000 in
theorem ok_M_returns (Z : Zt) (d : Nat) : okE Z (d + 1) i_M_returns e_M_returns := mk_M_returns fun o M hp => by
  obtain ⟨rfl, hB⟩ := hp
  refine Gm_run (C := C_M_returns) (S := S_M_returns) [some (.ref 174), none] 1000 kt_M_returns okE_nil (ex_n rfl) ?_
  simp (maxSteps := 3000000) (disch := first | exact True.intro | assumption | omega) only [↓eq_self, Option.toList_some, Option.toList_none, List.nil_append, List.cons_append, wsum_0, wsum_1, wsum_2, wsum_3, wsum_4, lkill, ↓reduceIte, if_true, if_false, Bool.false_eq_true, and_true, true_and, and_self, or_self, true_or, or_true, not_true, not_false_iff, mR_stI, mN_stI, isO_stI, isA_stI, mI_stI, mR_mW, mN_mW, isO_mW, isA_mW, mI_mW, mW_mW, stI_mW, vp_0, nI_add, nI_ltI, nI_leI, nI_eq, vpi, nI_clamp, nI_toN, nI_geT, nI_lt4, pk_mul, pk_sub, bv_0n, bv_1n, ↓bv_01n, n01a, n01b, Nat.reduceSub, u2_rw, rw_rw, rw_at, rw_ne, rw_175_174, rw_176_174, rw_176_175, rw_177_174, rw_177_175, rw_177_176, rw_178_174, rw_178_175, rw_178_176, rw_178_177, rw_179_174, rw_179_175, rw_179_176, rw_179_177, rw_179_178, rw_180_174, rw_180_175, rw_180_176, rw_180_177, rw_180_178, rw_180_179, up_at, up_ne, Nat.zero_add, Nat.add_zero, bk_oM hB, bk_m0 hB, bk_m1 hB, bk_m2 hB, bk_m4 hB, bk_m6 hB, bk_m9 hB, md_a hB, md_p hB, md_s hB, md_t hB, md_r hB, md_v hB, ite_nt, ↓g_M_returns_0, ↓g_M_returns_2, ↓g_M_returns_9, ↓g_M_returns_27]
  have := lp_M_returns Z d hB 454 0 rfl
  rw [cpU_0, rwF_self] at this
  exact this
/-- the kept states -/
def mU (f : Nat → Nat → Int32) : Nat := (f 174 3).toNatClampNeg
def MuD (f : Nat → Nat → Int32) : Prop := f 174 3 = nI (mU f) ∧ mU f ≤ 8
def shU (p : Nat → Int32) (i : Nat) : Nat → Int32 := fun k => if k < i then p (k + 454) else p k
theorem shU_0 (p : Nat → Int32) : shU p 0 = p := by
  funext k
  exact if_neg (Nat.not_lt_zero _)
theorem shU_s (p : Nat → Int32) (i : Nat) : upF (shU p i) i (shU p i (i + 454)) = shU p (i + 1) := by
  have e : shU p i (i + 454) = p (i + 454) := if_neg (by omega)
  rw [e]
  funext k
  show (if k = i then p (i + 454) else if k < i then p (k + 454) else p k) = if k < i + 1 then p (k + 454) else p k
  by_cases h : k = i
  · rw [if_pos h, if_pos (by omega), h]
  · rw [if_neg h]
    by_cases h2 : k < i
    · rw [if_pos h2, if_pos (by omega)]
    · rw [if_neg h2, if_neg (by omega)]
def ppU (p m : Nat → Int32) (U i : Nat) : Nat → Int32 := fun k => if 454 * U ≤ k ∧ k < 454 * U + i then m (k - 454 * U) else p k
theorem ppU_0 (p m : Nat → Int32) (U : Nat) : ppU p m U 0 = p := by
  funext k
  exact if_neg (by omega)
theorem ppU_s (p m : Nat → Int32) (U i : Nat) : upF (ppU p m U i) (454 * U + i) (m i) = ppU p m U (i + 1) := by
  funext k
  show (if k = 454 * U + i then m i else if 454 * U ≤ k ∧ k < 454 * U + i then m (k - 454 * U) else p k) = if 454 * U ≤ k ∧ k < 454 * U + (i + 1) then m (k - 454 * U) else p k
  by_cases h : k = 454 * U + i
  · rw [if_pos h, if_pos (by omega), h, Nat.add_sub_cancel_left]
  · rw [if_neg h]
    by_cases h2 : 454 * U ≤ k ∧ k < 454 * U + i
    · rw [if_pos h2, if_pos (by omega)]
    · rw [if_neg h2, if_neg (by omega)]
def kpS (f : Nat → Nat → Int32) : Nat := if mU f < 8 then mU f else 7
def kpR (f : Nat → Nat → Int32) : Nat → Int32 := if mU f < 8 then f 176 else shU (f 176) 3178
def kpU (f : Nat → Nat → Int32) : Nat → Nat → Int32 := rwF (rwF f 174 (upF (f 174) 3 (nI (kpS f + 1)))) 176 (ppU (kpR f) (f 175) (kpS f) 454)
def e_M_keeps : Ent := (fun av M => ∃ (o : Nat), av = [.ref o] ∧ (o = 174 ∧ BkS M ∧ MuD (mI M)), fun av M r_ M_ => ∀ (o : Nat), av = [.ref o] → r_ = (none) ∧ M_ = (mW M (kpU (mI M))))
theorem pc_M_keeps {o : Nat} {M : Mem} {K : Option Value → Mem → Prop} (hp : o = 174 ∧ BkS M ∧ MuD (mI M)) : pcall e_M_keeps [.ref o] M K = K (none) (mW M (kpU (mI M))) := propext ⟨fun h => h.2 _ _ (fun o' e => by simp only [List.cons.injEq, Value.ref.injEq, Value.int.injEq, Value.long.injEq, and_true] at e; have q0 := e; obtain rfl := q0; exact ⟨rfl, rfl⟩), fun h => ⟨⟨o, rfl, hp⟩, fun r_ M_ q => by obtain ⟨rfl, rfl⟩ := q _ rfl; exact h⟩⟩
theorem mk_M_keeps {Z : Zt} {d : Nat} (h : ∀ (o : Nat) (M : Mem), (o = 174 ∧ BkS M ∧ MuD (mI M)) → Gm Z d s_M_keeps [.ref o] M (ex (none) (mW M (kpU (mI M))))) : okE Z d i_M_keeps e_M_keeps := by
  rintro av M ⟨o, rfl, hp⟩
  exact Gm.cons (h o M  hp) (fun r_ M_ q o' e => by simp only [List.cons.injEq, Value.ref.injEq, Value.int.injEq, Value.long.injEq, and_true] at e; have q0 := e; obtain rfl := q0; exact q)
def C_M_keeps : List (Nat × Ent) := []
abbrev S_M_keeps : List Nat := [11, 52]
def t_M_keeps_86 : List PI := (86, 1, 1, 0, 0, 0, []) :: (87, 7, 0, 0, 0, 0, []) :: (88, 8, 0, 5, 3, 0, [32]) :: (91, 0, 0, 0, 0, 1, []) :: (92, 2, 0, 0, 0, 0, []) :: (93, 10, 0, 5, 3, 0, [32]) :: (96, 9, 5, 0, 0, 0, []) :: []
def t_M_keeps_59 : List PI := (59, 1, 1, 0, 0, 0, []) :: (60, 8, 1, 5, 1, 0, [13]) :: (63, 0, 0, 0, 2, 454, []) :: (66, 1, 1, 0, 0, 0, []) :: (67, 8, 0, 5, 3, 0, [32]) :: (70, 2, 2, 0, 0, 0, []) :: (71, 1, 0, 1, 0, 0, []) :: (72, 2, 0, 0, 0, 0, []) :: (73, 1, 1, 0, 0, 0, []) :: (74, 8, 1, 5, 0, 0, [7]) :: (77, 1, 0, 1, 0, 0, []) :: (78, 8, 4, 0, 0, 0, []) :: (79, 10, 4, 0, 0, 0, []) :: (80, 1, 6, 1, 0, 1, []) :: (83, 6, 0, 52, 0, 0, []) :: t_M_keeps_86
def t_M_keeps_52 : List PI := (52, 1, 0, 1, 0, 0, []) :: (53, 0, 0, 0, 2, 454, []) :: (56, 4, 3, 86, 0, 0, []) :: t_M_keeps_59
def t_M_keeps_50 : List PI := (50, 0, 0, 0, 0, 0, []) :: (51, 1, 3, 1, 0, 0, []) :: t_M_keeps_52
def t_M_keeps_40 : List PI := (40, 1, 1, 0, 0, 0, []) :: (41, 7, 0, 0, 0, 0, []) :: (42, 8, 0, 5, 3, 0, [32]) :: (45, 0, 0, 0, 0, 1, []) :: (46, 2, 1, 0, 0, 0, []) :: (47, 10, 0, 5, 3, 0, [32]) :: t_M_keeps_50
def t_M_keeps_18 : List PI := (18, 1, 1, 0, 0, 0, []) :: (19, 8, 1, 5, 1, 0, [13]) :: (22, 1, 0, 1, 0, 0, []) :: (23, 1, 1, 0, 0, 0, []) :: (24, 8, 1, 5, 1, 0, [13]) :: (27, 1, 0, 1, 0, 0, []) :: (28, 0, 0, 0, 2, 454, []) :: (31, 2, 0, 0, 0, 0, []) :: (32, 8, 4, 0, 0, 0, []) :: (33, 10, 4, 0, 0, 0, []) :: (34, 1, 6, 1, 0, 1, []) :: (37, 6, 0, 11, 0, 0, []) :: t_M_keeps_40
def t_M_keeps_11 : List PI := (11, 1, 0, 1, 0, 0, []) :: (12, 0, 0, 0, 2, 3178, []) :: (15, 4, 3, 40, 0, 0, []) :: t_M_keeps_18
def t_M_keeps_9 : List PI := (9, 0, 0, 0, 0, 0, []) :: (10, 1, 3, 1, 0, 0, []) :: t_M_keeps_11
def t_M_keeps_0 : List PI := (0, 1, 1, 0, 0, 0, []) :: (1, 8, 0, 5, 3, 0, [32]) :: (4, 0, 0, 0, 1, 8, []) :: (6, 4, 1, 50, 0, 0, []) :: t_M_keeps_9
theorem kt_M_keeps : okP s_M_keeps t_M_keeps_0 := k_M_keeps
theorem g_M_keeps_0 {Z : Zt} {nF f : Nat} {Kx : Nat → Kt} {Q : Option Value → Mem → Prop} {M : Mem} {x1 : Nat} : run Z nF C_M_keeps S_M_keeps Kx Q (f + 4) t_M_keeps_0 [some (.ref (x1)), none] [] M = (isO (M) (x1) 5 ∧ (if (mI (M) (x1) 3) = ((nI 8)) then run Z nF C_M_keeps S_M_keeps Kx Q f t_M_keeps_9 [some (.ref (x1)), none] [] (M) else run Z nF C_M_keeps S_M_keeps Kx Q f t_M_keeps_50 [some (.ref (x1)), none] [] (M))) := rfl
theorem g_M_keeps_9 {Z : Zt} {nF f : Nat} {Kx : Nat → Kt} {Q : Option Value → Mem → Prop} {M : Mem} {x1 : Nat} : run Z nF C_M_keeps S_M_keeps Kx Q (f + 2) t_M_keeps_9 [some (.ref (x1)), none] [] M = (Kx 11 [some (.ref (x1)), some (.int ((nI 0)))] [] (M)) := rfl
theorem g_M_keeps_11 {Z : Zt} {nF f : Nat} {Kx : Nat → Kt} {Q : Option Value → Mem → Prop} {M : Mem} {x1 : Nat} {x2 : Int32} : run Z nF C_M_keeps S_M_keeps Kx Q (f + 3) t_M_keeps_11 [some (.ref (x1)), some (.int (x2))] [] M = ((if ((nI 3178)) ≤ (x2) then run Z nF C_M_keeps S_M_keeps Kx Q f t_M_keeps_40 [some (.ref (x1)), some (.int (x2))] [] (M) else run Z nF C_M_keeps S_M_keeps Kx Q f t_M_keeps_18 [some (.ref (x1)), some (.int (x2))] [] (M))) := rfl
theorem g_M_keeps_18 {Z : Zt} {nF f : Nat} {Kx : Nat → Kt} {Q : Option Value → Mem → Prop} {M : Mem} {x1 : Nat} {x2 : Int32} : run Z nF C_M_keeps S_M_keeps Kx Q (f + 12) t_M_keeps_18 [some (.ref (x1)), some (.int (x2))] [] M = (isO (M) (x1) 5 ∧ isO (M) (x1) 5 ∧ isA (M) (mR (M) (x1) 1) ((x2) + ((nI 454))) ∧ isA (M) (mR (M) (x1) 1) (x2) ∧ Kx 11 [some (.ref (x1)), some (.int (x2 + (nI 1)))] [] (stI (M) (mR (M) (x1) 1) (Int32.toNatClampNeg (x2)) (mI (M) (mR (M) (x1) 1) (Int32.toNatClampNeg ((x2) + ((nI 454))))))) := rfl
theorem g_M_keeps_40 {Z : Zt} {nF f : Nat} {Kx : Nat → Kt} {Q : Option Value → Mem → Prop} {M : Mem} {x1 : Nat} {x2 : Int32} : run Z nF C_M_keeps S_M_keeps Kx Q (f + 6) t_M_keeps_40 [some (.ref (x1)), some (.int (x2))] [] M = (isO (M) (x1) 5 ∧ isO (M) (x1) 5 ∧ run Z nF C_M_keeps S_M_keeps Kx Q f t_M_keeps_50 [some (.ref (x1)), some (.int (x2))] [] (stI (M) (x1) 3 ((mI (M) (x1) 3) - ((nI 1))))) := rfl
theorem g_M_keeps_50 {Z : Zt} {nF f : Nat} {Kx : Nat → Kt} {Q : Option Value → Mem → Prop} {M : Mem} {x1 : Nat} {x2 : Option Value} : run Z nF C_M_keeps S_M_keeps Kx Q (f + 2) t_M_keeps_50 [some (.ref (x1)), x2] [] M = (Kx 52 [some (.ref (x1)), some (.int ((nI 0)))] [] (M)) := rfl
theorem g_M_keeps_52 {Z : Zt} {nF f : Nat} {Kx : Nat → Kt} {Q : Option Value → Mem → Prop} {M : Mem} {x1 : Nat} {x2 : Int32} : run Z nF C_M_keeps S_M_keeps Kx Q (f + 3) t_M_keeps_52 [some (.ref (x1)), some (.int (x2))] [] M = ((if ((nI 454)) ≤ (x2) then run Z nF C_M_keeps S_M_keeps Kx Q f t_M_keeps_86 [some (.ref (x1)), some (.int (x2))] [] (M) else run Z nF C_M_keeps S_M_keeps Kx Q f t_M_keeps_59 [some (.ref (x1)), some (.int (x2))] [] (M))) := rfl
theorem g_M_keeps_59 {Z : Zt} {nF f : Nat} {Kx : Nat → Kt} {Q : Option Value → Mem → Prop} {M : Mem} {x1 : Nat} {x2 : Int32} : run Z nF C_M_keeps S_M_keeps Kx Q (f + 15) t_M_keeps_59 [some (.ref (x1)), some (.int (x2))] [] M = (isO (M) (x1) 5 ∧ isO (M) (x1) 5 ∧ isO (M) (x1) 5 ∧ isA (M) (mR (M) (x1) 0) (x2) ∧ isA (M) (mR (M) (x1) 1) ((((nI 454)) * (mI (M) (x1) 3)) + (x2)) ∧ Kx 52 [some (.ref (x1)), some (.int (x2 + (nI 1)))] [] (stI (M) (mR (M) (x1) 1) (Int32.toNatClampNeg ((((nI 454)) * (mI (M) (x1) 3)) + (x2))) (mI (M) (mR (M) (x1) 0) (Int32.toNatClampNeg (x2))))) := rfl
theorem g_M_keeps_86 {Z : Zt} {nF f : Nat} {Kx : Nat → Kt} {Q : Option Value → Mem → Prop} {M : Mem} {x1 : Nat} {x2 : Int32} : run Z nF C_M_keeps S_M_keeps Kx Q (f + 7) t_M_keeps_86 [some (.ref (x1)), some (.int (x2))] [] M = (isO (M) (x1) 5 ∧ isO (M) (x1) 5 ∧ Q none (stI (M) (x1) 3 ((mI (M) (x1) 3) + ((nI 1))))) := rfl
set_option maxRecDepth 100000 in
set_option maxHeartbeats 4000000 in
theorem lp_M_keeps2 (Z : Zt) (d : Nat) {M : Mem} {f : Nat → Nat → Int32} {p : Nat → Int32} {U : Nat} (hB : BkS M) (hU : f 174 3 = nI U) (hU7 : U ≤ 7) : ∀ n i, i + n = 454 → X Z (d + 1) s_M_keeps (mN M) (mN M) (ex none (mW M (rwF (rwF f 174 (upF (f 174) 3 (nI (U + 1)))) 176 (ppU p (f 175) U 454)))) 52 [some (.ref 174), some (.int (nI i))] [] (mW M (rwF f 176 (ppU p (f 175) U i))) := by
  intro n
  induction n with
  | zero =>
    intro i hi
    obtain rfl : i = 454 := by omega
    refine X_runT (C := C_M_keeps) (S := S_M_keeps) (T := t_M_keeps_52) 1000 kt_M_keeps okE_nil ?_
    simp (maxSteps := 3000000) (disch := first | exact True.intro | assumption | omega) only [↓eq_self, Option.toList_some, Option.toList_none, List.nil_append, List.cons_append, wsum_0, wsum_1, wsum_2, wsum_3, wsum_4, lkill, ↓reduceIte, if_true, if_false, Bool.false_eq_true, and_true, true_and, and_self, or_self, true_or, or_true, not_true, not_false_iff, mR_stI, mN_stI, isO_stI, isA_stI, mI_stI, mR_mW, mN_mW, isO_mW, isA_mW, mI_mW, mW_mW, stI_mW, vp_0, nI_add, nI_ltI, nI_leI, nI_eq, vpi, nI_clamp, nI_toN, nI_geT, nI_lt4, pk_mul, pk_sub, bv_0n, bv_1n, ↓bv_01n, n01a, n01b, Nat.reduceSub, u2_rw, rw_rw, rw_at, rw_ne, rw_175_174, rw_176_174, rw_176_175, rw_177_174, rw_177_175, rw_177_176, rw_178_174, rw_178_175, rw_178_176, rw_178_177, rw_179_174, rw_179_175, rw_179_176, rw_179_177, rw_179_178, rw_180_174, rw_180_175, rw_180_176, rw_180_177, rw_180_178, rw_180_179, up_at, up_ne, Nat.zero_add, Nat.add_zero, bk_oM hB, bk_m0 hB, bk_m1 hB, bk_m2 hB, bk_m4 hB, bk_m6 hB, bk_m9 hB, md_a hB, md_p hB, md_s hB, md_t hB, md_r hB, md_v hB, ite_nt, ↓g_M_keeps_0, ↓g_M_keeps_9, ↓g_M_keeps_11, ↓g_M_keeps_18, ↓g_M_keeps_40, ↓g_M_keeps_50, ↓g_M_keeps_52, ↓g_M_keeps_59, ↓g_M_keeps_86, Nat.le_refl, hU]
    exact ⟨rfl, rfl⟩
  | succ n ih =>
    intro i hi
    have h1 : ¬ 454 ≤ i := by omega
    refine X_runT (C := C_M_keeps) (S := S_M_keeps) (T := t_M_keeps_52) 1000 kt_M_keeps okE_nil ?_
    simp (maxSteps := 3000000) (disch := first | exact True.intro | assumption | omega) only [↓eq_self, Option.toList_some, Option.toList_none, List.nil_append, List.cons_append, wsum_0, wsum_1, wsum_2, wsum_3, wsum_4, lkill, ↓reduceIte, if_true, if_false, Bool.false_eq_true, and_true, true_and, and_self, or_self, true_or, or_true, not_true, not_false_iff, mR_stI, mN_stI, isO_stI, isA_stI, mI_stI, mR_mW, mN_mW, isO_mW, isA_mW, mI_mW, mW_mW, stI_mW, vp_0, nI_add, nI_ltI, nI_leI, nI_eq, vpi, nI_clamp, nI_toN, nI_geT, nI_lt4, pk_mul, pk_sub, bv_0n, bv_1n, ↓bv_01n, n01a, n01b, Nat.reduceSub, u2_rw, rw_rw, rw_at, rw_ne, rw_175_174, rw_176_174, rw_176_175, rw_177_174, rw_177_175, rw_177_176, rw_178_174, rw_178_175, rw_178_176, rw_178_177, rw_179_174, rw_179_175, rw_179_176, rw_179_177, rw_179_178, rw_180_174, rw_180_175, rw_180_176, rw_180_177, rw_180_178, rw_180_179, up_at, up_ne, Nat.zero_add, Nat.add_zero, bk_oM hB, bk_m0 hB, bk_m1 hB, bk_m2 hB, bk_m4 hB, bk_m6 hB, bk_m9 hB, md_a hB, md_p hB, md_s hB, md_t hB, md_r hB, md_v hB, ite_nt, ↓g_M_keeps_0, ↓g_M_keeps_9, ↓g_M_keeps_11, ↓g_M_keeps_18, ↓g_M_keeps_40, ↓g_M_keeps_50, ↓g_M_keeps_52, ↓g_M_keeps_59, ↓g_M_keeps_86, h1, hU, ppU_s]
    exact ih (i + 1) (by omega)
set_option maxRecDepth 100000 in
set_option maxHeartbeats 4000000 in
theorem lp_M_keeps1 (Z : Zt) (d : Nat) {M : Mem} (hB : BkS M) (hU : mI M 174 3 = nI 8) : ∀ n i, i + n = 3178 → X Z (d + 1) s_M_keeps (mN M) (mN M) (ex none (mW M (rwF (rwF (mI M) 174 (upF (mI M 174) 3 (nI 8))) 176 (ppU (shU (mI M 176) 3178) (mI M 175) 7 454)))) 11 [some (.ref 174), some (.int (nI i))] [] (mW M (rwF (mI M) 176 (shU (mI M 176) i))) := by
  intro n
  induction n with
  | zero =>
    intro i hi
    obtain rfl : i = 3178 := by omega
    refine X_runT (C := C_M_keeps) (S := S_M_keeps) (T := t_M_keeps_11) 1000 kt_M_keeps okE_nil ?_
    simp (maxSteps := 3000000) (disch := first | exact True.intro | assumption | omega) only [↓eq_self, Option.toList_some, Option.toList_none, List.nil_append, List.cons_append, wsum_0, wsum_1, wsum_2, wsum_3, wsum_4, lkill, ↓reduceIte, if_true, if_false, Bool.false_eq_true, and_true, true_and, and_self, or_self, true_or, or_true, not_true, not_false_iff, mR_stI, mN_stI, isO_stI, isA_stI, mI_stI, mR_mW, mN_mW, isO_mW, isA_mW, mI_mW, mW_mW, stI_mW, vp_0, nI_add, nI_ltI, nI_leI, nI_eq, vpi, nI_clamp, nI_toN, nI_geT, nI_lt4, pk_mul, pk_sub, bv_0n, bv_1n, ↓bv_01n, n01a, n01b, Nat.reduceSub, u2_rw, rw_rw, rw_at, rw_ne, rw_175_174, rw_176_174, rw_176_175, rw_177_174, rw_177_175, rw_177_176, rw_178_174, rw_178_175, rw_178_176, rw_178_177, rw_179_174, rw_179_175, rw_179_176, rw_179_177, rw_179_178, rw_180_174, rw_180_175, rw_180_176, rw_180_177, rw_180_178, rw_180_179, up_at, up_ne, Nat.zero_add, Nat.add_zero, bk_oM hB, bk_m0 hB, bk_m1 hB, bk_m2 hB, bk_m4 hB, bk_m6 hB, bk_m9 hB, md_a hB, md_p hB, md_s hB, md_t hB, md_r hB, md_v hB, ite_nt, ↓g_M_keeps_0, ↓g_M_keeps_9, ↓g_M_keeps_11, ↓g_M_keeps_18, ↓g_M_keeps_40, ↓g_M_keeps_50, ↓g_M_keeps_52, ↓g_M_keeps_59, ↓g_M_keeps_86, Nat.le_refl, hU]
    have := lp_M_keeps2 Z d (M := M) (f := rwF (mI M) 174 (upF (mI M 174) 3 (nI 7))) (p := shU (mI M 176) 3178) (U := 7) hB (by rw [rw_at, up_at]) (by omega) 454 0 rfl
    rw [ppU_0] at this
    simp only [rw_at, rw_rw, rw_ne (show (175 : Nat) ≠ 174 by omega)] at this
    have e : upF (upF (mI M 174) 3 (nI 7)) 3 (nI (7 + 1)) = upF (mI M 174) 3 (nI 8) := by
      funext y
      by_cases h : y = 3
      · rw [h, up_at, up_at]
      · rw [up_ne h, up_ne h, up_ne h]
    rw [e] at this
    exact this
  | succ n ih =>
    intro i hi
    have h1 : ¬ 3178 ≤ i := by omega
    refine X_runT (C := C_M_keeps) (S := S_M_keeps) (T := t_M_keeps_11) 1000 kt_M_keeps okE_nil ?_
    simp (maxSteps := 3000000) (disch := first | exact True.intro | assumption | omega) only [↓eq_self, Option.toList_some, Option.toList_none, List.nil_append, List.cons_append, wsum_0, wsum_1, wsum_2, wsum_3, wsum_4, lkill, ↓reduceIte, if_true, if_false, Bool.false_eq_true, and_true, true_and, and_self, or_self, true_or, or_true, not_true, not_false_iff, mR_stI, mN_stI, isO_stI, isA_stI, mI_stI, mR_mW, mN_mW, isO_mW, isA_mW, mI_mW, mW_mW, stI_mW, vp_0, nI_add, nI_ltI, nI_leI, nI_eq, vpi, nI_clamp, nI_toN, nI_geT, nI_lt4, pk_mul, pk_sub, bv_0n, bv_1n, ↓bv_01n, n01a, n01b, Nat.reduceSub, u2_rw, rw_rw, rw_at, rw_ne, rw_175_174, rw_176_174, rw_176_175, rw_177_174, rw_177_175, rw_177_176, rw_178_174, rw_178_175, rw_178_176, rw_178_177, rw_179_174, rw_179_175, rw_179_176, rw_179_177, rw_179_178, rw_180_174, rw_180_175, rw_180_176, rw_180_177, rw_180_178, rw_180_179, up_at, up_ne, Nat.zero_add, Nat.add_zero, bk_oM hB, bk_m0 hB, bk_m1 hB, bk_m2 hB, bk_m4 hB, bk_m6 hB, bk_m9 hB, md_a hB, md_p hB, md_s hB, md_t hB, md_r hB, md_v hB, ite_nt, ↓g_M_keeps_0, ↓g_M_keeps_9, ↓g_M_keeps_11, ↓g_M_keeps_18, ↓g_M_keeps_40, ↓g_M_keeps_50, ↓g_M_keeps_52, ↓g_M_keeps_59, ↓g_M_keeps_86, h1, shU_s]
    exact ih (i + 1) (by omega)
set_option maxRecDepth 100000 in
set_option maxHeartbeats 4000000 in
theorem ok_M_keeps (Z : Zt) (d : Nat) : okE Z (d + 1) i_M_keeps e_M_keeps := mk_M_keeps fun o M hp => by
  obtain ⟨rfl, hB, hU, h8⟩ := hp
  refine Gm_run (C := C_M_keeps) (S := S_M_keeps) [some (.ref 174), none] 1000 kt_M_keeps okE_nil (ex_n rfl) ?_
  unfold kpU kpS kpR
  by_cases h : mU (mI M) < 8
  · have h1 : ¬ mU (mI M) = 8 := by omega
    rw [if_pos h, if_pos h]
    simp (maxSteps := 3000000) (disch := first | exact True.intro | assumption | omega) only [↓eq_self, Option.toList_some, Option.toList_none, List.nil_append, List.cons_append, wsum_0, wsum_1, wsum_2, wsum_3, wsum_4, lkill, ↓reduceIte, if_true, if_false, Bool.false_eq_true, and_true, true_and, and_self, or_self, true_or, or_true, not_true, not_false_iff, mR_stI, mN_stI, isO_stI, isA_stI, mI_stI, mR_mW, mN_mW, isO_mW, isA_mW, mI_mW, mW_mW, stI_mW, vp_0, nI_add, nI_ltI, nI_leI, nI_eq, vpi, nI_clamp, nI_toN, nI_geT, nI_lt4, pk_mul, pk_sub, bv_0n, bv_1n, ↓bv_01n, n01a, n01b, Nat.reduceSub, u2_rw, rw_rw, rw_at, rw_ne, rw_175_174, rw_176_174, rw_176_175, rw_177_174, rw_177_175, rw_177_176, rw_178_174, rw_178_175, rw_178_176, rw_178_177, rw_179_174, rw_179_175, rw_179_176, rw_179_177, rw_179_178, rw_180_174, rw_180_175, rw_180_176, rw_180_177, rw_180_178, rw_180_179, up_at, up_ne, Nat.zero_add, Nat.add_zero, bk_oM hB, bk_m0 hB, bk_m1 hB, bk_m2 hB, bk_m4 hB, bk_m6 hB, bk_m9 hB, md_a hB, md_p hB, md_s hB, md_t hB, md_r hB, md_v hB, ite_nt, ↓g_M_keeps_0, ↓g_M_keeps_9, ↓g_M_keeps_11, ↓g_M_keeps_18, ↓g_M_keeps_40, ↓g_M_keeps_50, ↓g_M_keeps_52, ↓g_M_keeps_59, ↓g_M_keeps_86, hU, h1]
    have := lp_M_keeps2 Z d (M := M) (f := mI M) (p := mI M 176) (U := mU (mI M)) hB hU (by omega) 454 0 rfl
    rw [ppU_0, rwF_self] at this
    exact this
  · have h1 : mU (mI M) = 8 := by omega
    rw [h1] at hU
    rw [if_neg h, if_neg h]
    simp (maxSteps := 3000000) (disch := first | exact True.intro | assumption | omega) only [↓eq_self, Option.toList_some, Option.toList_none, List.nil_append, List.cons_append, wsum_0, wsum_1, wsum_2, wsum_3, wsum_4, lkill, ↓reduceIte, if_true, if_false, Bool.false_eq_true, and_true, true_and, and_self, or_self, true_or, or_true, not_true, not_false_iff, mR_stI, mN_stI, isO_stI, isA_stI, mI_stI, mR_mW, mN_mW, isO_mW, isA_mW, mI_mW, mW_mW, stI_mW, vp_0, nI_add, nI_ltI, nI_leI, nI_eq, vpi, nI_clamp, nI_toN, nI_geT, nI_lt4, pk_mul, pk_sub, bv_0n, bv_1n, ↓bv_01n, n01a, n01b, Nat.reduceSub, u2_rw, rw_rw, rw_at, rw_ne, rw_175_174, rw_176_174, rw_176_175, rw_177_174, rw_177_175, rw_177_176, rw_178_174, rw_178_175, rw_178_176, rw_178_177, rw_179_174, rw_179_175, rw_179_176, rw_179_177, rw_179_178, rw_180_174, rw_180_175, rw_180_176, rw_180_177, rw_180_178, rw_180_179, up_at, up_ne, Nat.zero_add, Nat.add_zero, bk_oM hB, bk_m0 hB, bk_m1 hB, bk_m2 hB, bk_m4 hB, bk_m6 hB, bk_m9 hB, md_a hB, md_p hB, md_s hB, md_t hB, md_r hB, md_v hB, ite_nt, ↓g_M_keeps_0, ↓g_M_keeps_9, ↓g_M_keeps_11, ↓g_M_keeps_18, ↓g_M_keeps_40, ↓g_M_keeps_50, ↓g_M_keeps_52, ↓g_M_keeps_59, ↓g_M_keeps_86, hU]
    have := lp_M_keeps1 Z d (M := M) hB hU 3178 0 rfl
    rw [shU_0, rwF_self] at this
    exact this
def udU (f : Nat → Nat → Int32) : Nat → Nat → Int32 := if mU f = 0 then f else rwF (rwF f 174 (upF (f 174) 3 (nI (mU f - 1)))) 175 (cpU (f 175) (fun k => f 176 (454 * (mU f - 1) + k)) 454)
def e_M_undo : Ent := (fun av M => ∃ (o : Nat), av = [.ref o] ∧ (o = 174 ∧ BkS M ∧ MuD (mI M)), fun av M r_ M_ => ∀ (o : Nat), av = [.ref o] → r_ = (some (.int (if mU (mI M) = 0 then -1000001 else nI (mU (mI M) - 1)))) ∧ M_ = (mW M (udU (mI M))))
theorem pc_M_undo {o : Nat} {M : Mem} {K : Option Value → Mem → Prop} (hp : o = 174 ∧ BkS M ∧ MuD (mI M)) : pcall e_M_undo [.ref o] M K = K (some (.int (if mU (mI M) = 0 then -1000001 else nI (mU (mI M) - 1)))) (mW M (udU (mI M))) := propext ⟨fun h => h.2 _ _ (fun o' e => by simp only [List.cons.injEq, Value.ref.injEq, Value.int.injEq, Value.long.injEq, and_true] at e; have q0 := e; obtain rfl := q0; exact ⟨rfl, rfl⟩), fun h => ⟨⟨o, rfl, hp⟩, fun r_ M_ q => by obtain ⟨rfl, rfl⟩ := q _ rfl; exact h⟩⟩
theorem mk_M_undo {Z : Zt} {d : Nat} (h : ∀ (o : Nat) (M : Mem), (o = 174 ∧ BkS M ∧ MuD (mI M)) → Gm Z d s_M_undo [.ref o] M (ex (some (.int (if mU (mI M) = 0 then -1000001 else nI (mU (mI M) - 1)))) (mW M (udU (mI M))))) : okE Z d i_M_undo e_M_undo := by
  rintro av M ⟨o, rfl, hp⟩
  exact Gm.cons (h o M  hp) (fun r_ M_ q o' e => by simp only [List.cons.injEq, Value.ref.injEq, Value.int.injEq, Value.long.injEq, and_true] at e; have q0 := e; obtain rfl := q0; exact q)
def C_M_undo : List (Nat × Ent) := []
abbrev S_M_undo : List Nat := [22]
def t_M_undo_56 : List PI := (56, 1, 1, 0, 0, 0, []) :: (57, 8, 0, 5, 3, 0, [32]) :: (60, 9, 0, 0, 0, 0, []) :: []
def t_M_undo_29 : List PI := (29, 1, 1, 0, 0, 0, []) :: (30, 8, 1, 5, 0, 0, [7]) :: (33, 1, 0, 1, 0, 0, []) :: (34, 1, 1, 0, 0, 0, []) :: (35, 8, 1, 5, 1, 0, [13]) :: (38, 0, 0, 0, 2, 454, []) :: (41, 1, 1, 0, 0, 0, []) :: (42, 8, 0, 5, 3, 0, [32]) :: (45, 2, 2, 0, 0, 0, []) :: (46, 1, 0, 1, 0, 0, []) :: (47, 2, 0, 0, 0, 0, []) :: (48, 8, 4, 0, 0, 0, []) :: (49, 10, 4, 0, 0, 0, []) :: (50, 1, 6, 1, 0, 1, []) :: (53, 6, 0, 22, 0, 0, []) :: t_M_undo_56
def t_M_undo_22 : List PI := (22, 1, 0, 1, 0, 0, []) :: (23, 0, 0, 0, 2, 454, []) :: (26, 4, 3, 56, 0, 0, []) :: t_M_undo_29
def t_M_undo_10 : List PI := (10, 1, 1, 0, 0, 0, []) :: (11, 7, 0, 0, 0, 0, []) :: (12, 8, 0, 5, 3, 0, [32]) :: (15, 0, 0, 0, 0, 1, []) :: (16, 2, 1, 0, 0, 0, []) :: (17, 10, 0, 5, 3, 0, [32]) :: (20, 0, 0, 0, 0, 0, []) :: (21, 1, 3, 1, 0, 0, []) :: t_M_undo_22
def t_M_undo_7 : List PI := (7, 0, 0, 36, 3, -1000001, []) :: (9, 9, 0, 0, 0, 0, []) :: t_M_undo_10
def t_M_undo_0 : List PI := (0, 1, 1, 0, 0, 0, []) :: (1, 8, 0, 5, 3, 0, [32]) :: (4, 5, 1, 10, 0, 0, []) :: t_M_undo_7
theorem kt_M_undo : okP s_M_undo t_M_undo_0 := k_M_undo
theorem g_M_undo_0 {Z : Zt} {nF f : Nat} {Kx : Nat → Kt} {Q : Option Value → Mem → Prop} {M : Mem} {x1 : Nat} : run Z nF C_M_undo S_M_undo Kx Q (f + 3) t_M_undo_0 [some (.ref (x1)), none] [] M = (isO (M) (x1) 5 ∧ (if (mI (M) (x1) 3) = nI 0 then run Z nF C_M_undo S_M_undo Kx Q f t_M_undo_7 [some (.ref (x1)), none] [] (M) else run Z nF C_M_undo S_M_undo Kx Q f t_M_undo_10 [some (.ref (x1)), none] [] (M))) := rfl
theorem g_M_undo_7 {Z : Zt} {nF f : Nat} {Kx : Nat → Kt} {Q : Option Value → Mem → Prop} {M : Mem} {x1 : Nat} : run Z nF C_M_undo S_M_undo Kx Q (f + 2) t_M_undo_7 [some (.ref (x1)), none] [] M = (Q (some (.int ((-1000001 : Int32)))) (M)) := rfl
theorem g_M_undo_10 {Z : Zt} {nF f : Nat} {Kx : Nat → Kt} {Q : Option Value → Mem → Prop} {M : Mem} {x1 : Nat} : run Z nF C_M_undo S_M_undo Kx Q (f + 8) t_M_undo_10 [some (.ref (x1)), none] [] M = (isO (M) (x1) 5 ∧ isO (M) (x1) 5 ∧ Kx 22 [some (.ref (x1)), some (.int ((nI 0)))] [] (stI (M) (x1) 3 ((mI (M) (x1) 3) - ((nI 1))))) := rfl
theorem g_M_undo_22 {Z : Zt} {nF f : Nat} {Kx : Nat → Kt} {Q : Option Value → Mem → Prop} {M : Mem} {x1 : Nat} {x2 : Int32} : run Z nF C_M_undo S_M_undo Kx Q (f + 3) t_M_undo_22 [some (.ref (x1)), some (.int (x2))] [] M = ((if ((nI 454)) ≤ (x2) then run Z nF C_M_undo S_M_undo Kx Q f t_M_undo_56 [some (.ref (x1)), some (.int (x2))] [] (M) else run Z nF C_M_undo S_M_undo Kx Q f t_M_undo_29 [some (.ref (x1)), some (.int (x2))] [] (M))) := rfl
theorem g_M_undo_29 {Z : Zt} {nF f : Nat} {Kx : Nat → Kt} {Q : Option Value → Mem → Prop} {M : Mem} {x1 : Nat} {x2 : Int32} : run Z nF C_M_undo S_M_undo Kx Q (f + 15) t_M_undo_29 [some (.ref (x1)), some (.int (x2))] [] M = (isO (M) (x1) 5 ∧ isO (M) (x1) 5 ∧ isO (M) (x1) 5 ∧ isA (M) (mR (M) (x1) 1) ((((nI 454)) * (mI (M) (x1) 3)) + (x2)) ∧ isA (M) (mR (M) (x1) 0) (x2) ∧ Kx 22 [some (.ref (x1)), some (.int (x2 + (nI 1)))] [] (stI (M) (mR (M) (x1) 0) (Int32.toNatClampNeg (x2)) (mI (M) (mR (M) (x1) 1) (Int32.toNatClampNeg ((((nI 454)) * (mI (M) (x1) 3)) + (x2)))))) := rfl
theorem g_M_undo_56 {Z : Zt} {nF f : Nat} {Kx : Nat → Kt} {Q : Option Value → Mem → Prop} {M : Mem} {x1 : Nat} {x2 : Int32} : run Z nF C_M_undo S_M_undo Kx Q (f + 3) t_M_undo_56 [some (.ref (x1)), some (.int (x2))] [] M = (isO (M) (x1) 5 ∧ Q (some (.int (mI (M) (x1) 3))) (M)) := rfl
set_option maxRecDepth 100000 in
set_option maxHeartbeats 4000000 in
theorem lp_M_undo (Z : Zt) (d : Nat) {M : Mem} {f : Nat → Nat → Int32} {U : Nat} (hB : BkS M) (hU : f 174 3 = nI U) (hU7 : U ≤ 7) : ∀ n i, i + n = 454 → X Z (d + 1) s_M_undo (mN M) (mN M) (ex (some (.int (nI U))) (mW M (rwF f 175 (cpU (f 175) (fun k => f 176 (454 * U + k)) 454)))) 22 [some (.ref 174), some (.int (nI i))] [] (mW M (rwF f 175 (cpU (f 175) (fun k => f 176 (454 * U + k)) i))) := by
  intro n
  induction n with
  | zero =>
    intro i hi
    obtain rfl : i = 454 := by omega
    refine X_runT (C := C_M_undo) (S := S_M_undo) (T := t_M_undo_22) 1000 kt_M_undo okE_nil ?_
    simp (maxSteps := 3000000) (disch := first | exact True.intro | assumption | omega) only [↓eq_self, Option.toList_some, Option.toList_none, List.nil_append, List.cons_append, wsum_0, wsum_1, wsum_2, wsum_3, wsum_4, lkill, ↓reduceIte, if_true, if_false, Bool.false_eq_true, and_true, true_and, and_self, or_self, true_or, or_true, not_true, not_false_iff, mR_stI, mN_stI, isO_stI, isA_stI, mI_stI, mR_mW, mN_mW, isO_mW, isA_mW, mI_mW, mW_mW, stI_mW, vp_0, nI_add, nI_ltI, nI_leI, nI_eq, vpi, nI_clamp, nI_toN, nI_geT, nI_lt4, pk_mul, pk_sub, bv_0n, bv_1n, ↓bv_01n, n01a, n01b, Nat.reduceSub, u2_rw, rw_rw, rw_at, rw_ne, rw_175_174, rw_176_174, rw_176_175, rw_177_174, rw_177_175, rw_177_176, rw_178_174, rw_178_175, rw_178_176, rw_178_177, rw_179_174, rw_179_175, rw_179_176, rw_179_177, rw_179_178, rw_180_174, rw_180_175, rw_180_176, rw_180_177, rw_180_178, rw_180_179, up_at, up_ne, Nat.zero_add, Nat.add_zero, bk_oM hB, bk_m0 hB, bk_m1 hB, bk_m2 hB, bk_m4 hB, bk_m6 hB, bk_m9 hB, md_a hB, md_p hB, md_s hB, md_t hB, md_r hB, md_v hB, ite_nt, ↓g_M_undo_0, ↓g_M_undo_7, ↓g_M_undo_10, ↓g_M_undo_22, ↓g_M_undo_29, ↓g_M_undo_56, Nat.le_refl, hU]
    exact ⟨rfl, rfl⟩
  | succ n ih =>
    intro i hi
    have h1 : ¬ 454 ≤ i := by omega
    refine X_runT (C := C_M_undo) (S := S_M_undo) (T := t_M_undo_22) 1000 kt_M_undo okE_nil ?_
    have hs := cpU_s (f 175) (fun k => f 176 (454 * U + k)) i
    simp (maxSteps := 3000000) (disch := first | exact True.intro | assumption | omega) only [↓eq_self, Option.toList_some, Option.toList_none, List.nil_append, List.cons_append, wsum_0, wsum_1, wsum_2, wsum_3, wsum_4, lkill, ↓reduceIte, if_true, if_false, Bool.false_eq_true, and_true, true_and, and_self, or_self, true_or, or_true, not_true, not_false_iff, mR_stI, mN_stI, isO_stI, isA_stI, mI_stI, mR_mW, mN_mW, isO_mW, isA_mW, mI_mW, mW_mW, stI_mW, vp_0, nI_add, nI_ltI, nI_leI, nI_eq, vpi, nI_clamp, nI_toN, nI_geT, nI_lt4, pk_mul, pk_sub, bv_0n, bv_1n, ↓bv_01n, n01a, n01b, Nat.reduceSub, u2_rw, rw_rw, rw_at, rw_ne, rw_175_174, rw_176_174, rw_176_175, rw_177_174, rw_177_175, rw_177_176, rw_178_174, rw_178_175, rw_178_176, rw_178_177, rw_179_174, rw_179_175, rw_179_176, rw_179_177, rw_179_178, rw_180_174, rw_180_175, rw_180_176, rw_180_177, rw_180_178, rw_180_179, up_at, up_ne, Nat.zero_add, Nat.add_zero, bk_oM hB, bk_m0 hB, bk_m1 hB, bk_m2 hB, bk_m4 hB, bk_m6 hB, bk_m9 hB, md_a hB, md_p hB, md_s hB, md_t hB, md_r hB, md_v hB, ite_nt, ↓g_M_undo_0, ↓g_M_undo_7, ↓g_M_undo_10, ↓g_M_undo_22, ↓g_M_undo_29, ↓g_M_undo_56, h1, hU, hs]
    exact ih (i + 1) (by omega)
set_option maxRecDepth 100000 in
set_option maxHeartbeats 4000000 in
theorem ok_M_undo (Z : Zt) (d : Nat) : okE Z (d + 1) i_M_undo e_M_undo := mk_M_undo fun o M hp => by
  obtain ⟨rfl, hB, hU, h8⟩ := hp
  refine Gm_run (C := C_M_undo) (S := S_M_undo) [some (.ref 174), none] 1000 kt_M_undo okE_nil (ex_n rfl) ?_
  unfold udU
  by_cases h : mU (mI M) = 0
  · rw [if_pos h, if_pos h]
    simp (maxSteps := 3000000) (disch := first | exact True.intro | assumption | omega) only [↓eq_self, Option.toList_some, Option.toList_none, List.nil_append, List.cons_append, wsum_0, wsum_1, wsum_2, wsum_3, wsum_4, lkill, ↓reduceIte, if_true, if_false, Bool.false_eq_true, and_true, true_and, and_self, or_self, true_or, or_true, not_true, not_false_iff, mR_stI, mN_stI, isO_stI, isA_stI, mI_stI, mR_mW, mN_mW, isO_mW, isA_mW, mI_mW, mW_mW, stI_mW, vp_0, nI_add, nI_ltI, nI_leI, nI_eq, vpi, nI_clamp, nI_toN, nI_geT, nI_lt4, pk_mul, pk_sub, bv_0n, bv_1n, ↓bv_01n, n01a, n01b, Nat.reduceSub, u2_rw, rw_rw, rw_at, rw_ne, rw_175_174, rw_176_174, rw_176_175, rw_177_174, rw_177_175, rw_177_176, rw_178_174, rw_178_175, rw_178_176, rw_178_177, rw_179_174, rw_179_175, rw_179_176, rw_179_177, rw_179_178, rw_180_174, rw_180_175, rw_180_176, rw_180_177, rw_180_178, rw_180_179, up_at, up_ne, Nat.zero_add, Nat.add_zero, bk_oM hB, bk_m0 hB, bk_m1 hB, bk_m2 hB, bk_m4 hB, bk_m6 hB, bk_m9 hB, md_a hB, md_p hB, md_s hB, md_t hB, md_r hB, md_v hB, ite_nt, ↓g_M_undo_0, ↓g_M_undo_7, ↓g_M_undo_10, ↓g_M_undo_22, ↓g_M_undo_29, ↓g_M_undo_56, hU, h]
    exact ⟨rfl, rfl⟩
  · rw [if_neg h, if_neg h]
    simp (maxSteps := 3000000) (disch := first | exact True.intro | assumption | omega) only [↓eq_self, Option.toList_some, Option.toList_none, List.nil_append, List.cons_append, wsum_0, wsum_1, wsum_2, wsum_3, wsum_4, lkill, ↓reduceIte, if_true, if_false, Bool.false_eq_true, and_true, true_and, and_self, or_self, true_or, or_true, not_true, not_false_iff, mR_stI, mN_stI, isO_stI, isA_stI, mI_stI, mR_mW, mN_mW, isO_mW, isA_mW, mI_mW, mW_mW, stI_mW, vp_0, nI_add, nI_ltI, nI_leI, nI_eq, vpi, nI_clamp, nI_toN, nI_geT, nI_lt4, pk_mul, pk_sub, bv_0n, bv_1n, ↓bv_01n, n01a, n01b, Nat.reduceSub, u2_rw, rw_rw, rw_at, rw_ne, rw_175_174, rw_176_174, rw_176_175, rw_177_174, rw_177_175, rw_177_176, rw_178_174, rw_178_175, rw_178_176, rw_178_177, rw_179_174, rw_179_175, rw_179_176, rw_179_177, rw_179_178, rw_180_174, rw_180_175, rw_180_176, rw_180_177, rw_180_178, rw_180_179, up_at, up_ne, Nat.zero_add, Nat.add_zero, bk_oM hB, bk_m0 hB, bk_m1 hB, bk_m2 hB, bk_m4 hB, bk_m6 hB, bk_m9 hB, md_a hB, md_p hB, md_s hB, md_t hB, md_r hB, md_v hB, ite_nt, ↓g_M_undo_0, ↓g_M_undo_7, ↓g_M_undo_10, ↓g_M_undo_22, ↓g_M_undo_29, ↓g_M_undo_56, hU, h]
    have := lp_M_undo Z d (M := M) (f := rwF (mI M) 174 (upF (mI M 174) 3 (nI (mU (mI M) - 1)))) (U := mU (mI M) - 1) hB (by rw [rw_at, up_at]) (by omega) 454 0 rfl
    rw [cpU_0, rwF_self] at this
    simp only [rw_ne (show (175 : Nat) ≠ 174 by omega), rw_ne (show (176 : Nat) ≠ 174 by omega)] at this
    exact this
