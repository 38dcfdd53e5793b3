/-! ===== the law types a vector, and demands ===== -/
section Tx
variable {M : Mem} {g : Nat → Nat → Int32}
theorem WB_x (h : WB M) (hg : ∀ x y, 19 < x → g x y = mI M x y) (hT : TxD g) : WB (mW M g) := by
  obtain ⟨hB, hD, hD2, hH, -⟩ := h
  exact ⟨hB, LedD_cg hD (fun y => hg _ _ (by omega)) (fun y => hg _ _ (by omega)) (fun y => hg _ _ (by omega)), LedD_cg hD2 (fun y => hg _ _ (by omega)) (fun y => hg _ _ (by omega)) (fun y => hg _ _ (by omega)), HisD_cg hH (fun x y h1 h2 => hg _ _ (by omega)), hT⟩
/-- only the text's cells are other -/
def TX (M : Mem) (g : Nat → Nat → Int32) : Prop := (∀ x y, x < 17 ∨ 19 < x → g x y = mI M x y) ∧ TxD g
theorem TX.W (h : TX M g) (hW : WB M) : WB (mW M g) := WB_x hW (fun x y hx => h.1 x y (Or.inr hx)) h.2
theorem TX.ap (h : TX M g) {v : Int32} (ht : tl g < 60) : TX M (apF g v) := ⟨fun x y hx => (apF_o (by omega) (by omega)).trans (h.1 x y hx), apF_T ht⟩
theorem TX.apL (h : TX M g) (l : List Int32) (ht : tl g + l.length ≤ 60) : TX M (apL g l) := ⟨fun x y hx => (apL_o (by omega) (by omega) _ _).trans (h.1 x y hx), apL_T _ _ h.2 ht⟩
theorem TX.rd (h : TX M g) (u : Nat → Int32) : TX M (rwF g 19 u) := ⟨fun x y hx => (rowF_o (by omega)).trans (h.1 x y hx), h.2⟩
theorem TX.rf (hW : WB M) : TX M (mI M) := ⟨fun _ _ _ => rfl, hW.2.2.2.2⟩
theorem pc_ty (h : TX M g) (hW : WB M) {v : Nat} (hv : v ≤ 127) (ht : tl g < 60) {K : Option Value → Mem → Prop} : pcall e_B_type [.ref 16, .int (nI v)] (mW M g) K = K (some (.int (nI (tl g + 1)))) (mW M (apF g (nI v))) := by
  have hc : 0 ≤ nI v ∧ nI v ≤ 127 := ⟨nI_ge0 (by omega), (nI_leI (b := 127) (by omega) (by omega)).mpr hv⟩
  rw [pc_B_type (o := 16) (v := nI v) (M := mW M g) ⟨rfl, h.W hW⟩, mI_mW, mW_mW]
  unfold tyR tyF
  rw [if_pos hc, if_pos hc, if_pos ht]
theorem pc_fl (h : TX M g) (hW : WB M) {K : Option Value → Mem → Prop} : pcall e_B_fault [.ref 16] (mW M g) K = K (some (.int (rvF g).1)) (mW M (rwF g 19 (rvF g).2)) := by
  rw [pc_B_fault (o := 16) (M := mW M g) ⟨rfl, h.W hW⟩, mI_mW, mW_mW]
theorem pc_c9 (h : TX M g) (hW : WB M) {K : Option Value → Mem → Prop} : pcall e_B_count [.ref 16, .int (nI 9)] (mW M g) K = K (some (.int (nI (tl g)))) (mW M g) := by
  rw [pc_B_count (o := 16) (w := nI 9) (M := mW M g) ⟨rfl, h.W hW⟩, mI_mW]
  have : cnR g (nI 9) = g 17 2 := rfl
  rw [this, h.2.1]
theorem nI_s (n : Nat) (h : n < 100) : ¬ nI (n + 1) ≤ nI 0 := by
  rw [nI_leI (by omega) (by omega)]
  omega
end Tx
def e_W_typesNumber : Ent := (fun av M => ∃ (o : Nat) (v : Nat), av = [.ref o, .int (nI v)] ∧ v < 2 ^ 31 ∧ (o = 16 ∧ WB M ∧ v < 100 ∧ tl (mI M) + 2 ≤ 60), fun av M r_ M_ => ∀ (o : Nat) (v : Nat), v < 2 ^ 31 → av = [.ref o, .int (nI v)] → r_ = (some (.int (nI 1))) ∧ M_ = (mW M (apL (mI M) (nuB v))))
theorem pc_W_typesNumber {o : Nat} {v : Nat} {M : Mem} {K : Option Value → Mem → Prop} (hp : o = 16 ∧ WB M ∧ v < 100 ∧ tl (mI M) + 2 ≤ 60) (h_v : v < 2 ^ 31) : pcall e_W_typesNumber [.ref o, .int (nI v)] M K = K (some (.int (nI 1))) (mW M (apL (mI M) (nuB v))) := propext ⟨fun h => h.2 _ _ (fun o' v' h_v' e => by simp only [List.cons.injEq, Value.ref.injEq, Value.int.injEq, Value.long.injEq, and_true] at e; obtain ⟨q0, q1⟩ := e; obtain rfl := q0; obtain rfl := (nI_eq h_v h_v').mp q1; exact ⟨rfl, rfl⟩), fun h => ⟨⟨o, v, rfl, h_v, hp⟩, fun r_ M_ q => by obtain ⟨rfl, rfl⟩ := q _ _ h_v rfl; exact h⟩⟩
theorem mk_W_typesNumber {Z : Zt} {d : Nat} (h : ∀ (o : Nat) (v : Nat) (M : Mem), v < 2 ^ 31 → (o = 16 ∧ WB M ∧ v < 100 ∧ tl (mI M) + 2 ≤ 60) → Gm Z d s_W_typesNumber [.ref o, .int (nI v)] M (ex (some (.int (nI 1))) (mW M (apL (mI M) (nuB v))))) : okE Z d i_W_typesNumber e_W_typesNumber := by
  rintro av M ⟨o, v, rfl, h_v, hp⟩
  exact Gm.cons (h o v M h_v hp) (fun r_ M_ q o' v' h_v' e => by simp only [List.cons.injEq, Value.ref.injEq, Value.int.injEq, Value.long.injEq, and_true] at e; obtain ⟨q0, q1⟩ := e; obtain rfl := q0; obtain rfl := (nI_eq h_v h_v').mp q1; exact q)
def C_W_typesNumber : List (Nat × Ent) := [(i_B_type, e_B_type)]
abbrev S_W_typesNumber : List Nat := []
def t_W_typesNumber_39 : List PI := (39, 9, 1, 0, 0, 0, []) :: []
def t_W_typesNumber_38 : List PI := (38, 0, 0, 0, 0, 0, []) :: t_W_typesNumber_39
def t_W_typesNumber_34 : List PI := (34, 0, 0, 0, 0, 1, []) :: (35, 6, 0, 39, 0, 0, []) :: t_W_typesNumber_38
def t_W_typesNumber_31 : List PI := (31, 5, 5, 38, 0, 0, []) :: t_W_typesNumber_34
def t_W_typesNumber_20 : List PI := (20, 1, 1, 0, 0, 0, []) :: (21, 0, 0, 0, 1, 48, []) :: (23, 1, 0, 1, 0, 0, []) :: (24, 0, 0, 0, 1, 10, []) :: (26, 2, 4, 0, 0, 0, []) :: (27, 2, 0, 0, 0, 0, []) :: (28, 11, 0, 4, 53, 0, [19, 2]) :: t_W_typesNumber_31
def t_W_typesNumber_17 : List PI := (17, 5, 5, 38, 0, 0, []) :: t_W_typesNumber_20
def t_W_typesNumber_6 : List PI := (6, 1, 1, 0, 0, 0, []) :: (7, 0, 0, 0, 1, 48, []) :: (9, 1, 0, 1, 0, 0, []) :: (10, 0, 0, 0, 1, 10, []) :: (12, 2, 3, 0, 0, 0, []) :: (13, 2, 0, 0, 0, 0, []) :: (14, 11, 0, 4, 53, 0, [19, 2]) :: t_W_typesNumber_17
def t_W_typesNumber_0 : List PI := (0, 1, 0, 1, 0, 0, []) :: (1, 0, 0, 0, 1, 10, []) :: (3, 4, 2, 20, 0, 0, []) :: t_W_typesNumber_6
theorem kt_W_typesNumber : okP s_W_typesNumber t_W_typesNumber_0 := k_W_typesNumber
theorem g_W_typesNumber_0 {Z : Zt} {nF f : Nat} {Kx : Nat → Kt} {Q : Option Value → Mem → Prop} {M : Mem} {x1 : Nat} {x2 : Int32} : run Z nF C_W_typesNumber S_W_typesNumber Kx Q (f + 3) t_W_typesNumber_0 [some (.ref (x1)), some (.int (x2))] [] M = ((if (x2) < ((nI 10)) then run Z nF C_W_typesNumber S_W_typesNumber Kx Q f t_W_typesNumber_20 [some (.ref (x1)), some (.int (x2))] [] (M) else run Z nF C_W_typesNumber S_W_typesNumber Kx Q f t_W_typesNumber_6 [some (.ref (x1)), some (.int (x2))] [] (M))) := id rfl
theorem g_W_typesNumber_6 {Z : Zt} {nF f : Nat} {Kx : Nat → Kt} {Q : Option Value → Mem → Prop} {M : Mem} {x1 : Nat} {x2 : Int32} : run Z nF C_W_typesNumber S_W_typesNumber Kx Q (f + 7) t_W_typesNumber_6 [some (.ref (x1)), some (.int (x2))] [] M = (¬ ((nI 10)) = nI 0 ∧ ((isO (M) (x1) 4) ∧ wsum [] ≤ 8) ∧ pcall e_B_type [.ref (x1), .int (((nI 48)) + ((x2) / ((nI 10))))] (M) (fun v M_ => run Z nF C_W_typesNumber S_W_typesNumber Kx Q f t_W_typesNumber_17 [some (.ref (x1)), some (.int (x2))] (v.toList ++ []) M_)) := id rfl
theorem g_W_typesNumber_17 {Z : Zt} {nF f : Nat} {Kx : Nat → Kt} {Q : Option Value → Mem → Prop} {M : Mem} {x1 : Nat} {x2 : Int32} {x3 : Int32} : run Z nF C_W_typesNumber S_W_typesNumber Kx Q (f + 1) t_W_typesNumber_17 [some (.ref (x1)), some (.int (x2))] [.int (x3)] M = ((if (x3) ≤ nI 0 then run Z nF C_W_typesNumber S_W_typesNumber Kx Q f t_W_typesNumber_38 [some (.ref (x1)), some (.int (x2))] [] (M) else run Z nF C_W_typesNumber S_W_typesNumber Kx Q f t_W_typesNumber_20 [some (.ref (x1)), some (.int (x2))] [] (M))) := id rfl
theorem g_W_typesNumber_20 {Z : Zt} {nF f : Nat} {Kx : Nat → Kt} {Q : Option Value → Mem → Prop} {M : Mem} {x1 : Nat} {x2 : Int32} : run Z nF C_W_typesNumber S_W_typesNumber Kx Q (f + 7) t_W_typesNumber_20 [some (.ref (x1)), some (.int (x2))] [] M = (¬ ((nI 10)) = nI 0 ∧ ((isO (M) (x1) 4) ∧ wsum [] ≤ 8) ∧ pcall e_B_type [.ref (x1), .int (((nI 48)) + ((x2) - (x2) / ((nI 10)) * ((nI 10))))] (M) (fun v M_ => run Z nF C_W_typesNumber S_W_typesNumber Kx Q f t_W_typesNumber_31 [some (.ref (x1)), some (.int (x2))] (v.toList ++ []) M_)) := id rfl
theorem g_W_typesNumber_31 {Z : Zt} {nF f : Nat} {Kx : Nat → Kt} {Q : Option Value → Mem → Prop} {M : Mem} {x1 : Nat} {x2 : Int32} {x3 : Int32} : run Z nF C_W_typesNumber S_W_typesNumber Kx Q (f + 1) t_W_typesNumber_31 [some (.ref (x1)), some (.int (x2))] [.int (x3)] M = ((if (x3) ≤ nI 0 then run Z nF C_W_typesNumber S_W_typesNumber Kx Q f t_W_typesNumber_38 [some (.ref (x1)), some (.int (x2))] [] (M) else run Z nF C_W_typesNumber S_W_typesNumber Kx Q f t_W_typesNumber_34 [some (.ref (x1)), some (.int (x2))] [] (M))) := id rfl
theorem g_W_typesNumber_34 {Z : Zt} {nF f : Nat} {Kx : Nat → Kt} {Q : Option Value → Mem → Prop} {M : Mem} {x1 : Nat} {x2 : Int32} : run Z nF C_W_typesNumber S_W_typesNumber Kx Q (f + 2) t_W_typesNumber_34 [some (.ref (x1)), some (.int (x2))] [] M = (run Z nF C_W_typesNumber S_W_typesNumber Kx Q f t_W_typesNumber_39 [some (.ref (x1)), some (.int (x2))] [.int ((nI 1))] (M)) := id rfl
theorem g_W_typesNumber_38 {Z : Zt} {nF f : Nat} {Kx : Nat → Kt} {Q : Option Value → Mem → Prop} {M : Mem} {x1 : Nat} {x2 : Int32} : run Z nF C_W_typesNumber S_W_typesNumber Kx Q (f + 1) t_W_typesNumber_38 [some (.ref (x1)), some (.int (x2))] [] M = (run Z nF C_W_typesNumber S_W_typesNumber Kx Q f t_W_typesNumber_39 [some (.ref (x1)), some (.int (x2))] [.int ((nI 0))] (M)) := id rfl
theorem g_W_typesNumber_39 {Z : Zt} {nF f : Nat} {Kx : Nat → Kt} {Q : Option Value → Mem → Prop} {M : Mem} {x1 : Nat} {x2 : Int32} {x3 : Int32} : run Z nF C_W_typesNumber S_W_typesNumber Kx Q (f + 1) t_W_typesNumber_39 [some (.ref (x1)), some (.int (x2))] [.int (x3)] M = (((x3) = nI 0 ∨ (x3) = nI 1) ∧ Q (some (.int (x3))) (M)) := id rfl
set_option maxRecDepth 100000 in
set_option maxHeartbeats 4000000 in
theorem ok_W_typesNumber (Z : Zt) (d : Nat) : okE Z (d + 3) i_W_typesNumber e_W_typesNumber := mk_W_typesNumber fun o v M h1 hp => by
  obtain ⟨rfl, hW, hv, ht⟩ := hp
  have hB := hW.1
  have h10 := nI_n0 (m := 10) (by omega) (by omega)
  have hX := TX.rf hW
  refine Gm_run (C := C_W_typesNumber) (S := S_W_typesNumber) [some (.ref 16), some (.int (nI v))] 1000 kt_W_typesNumber (okE_cons (ok_B_type Z d) okE_nil) (ex_n rfl) ?_
  by_cases z : v < 10
  · have c1 : ∀ {K : Option Value → Mem → Prop}, pcall e_B_type [.ref 16, .int (nI (48 + v))] M K = K (some (.int (nI (tl (mI M) + 1)))) (mW M (apF (mI M) (nI (48 + v)))) := pc_ty (g := mI M) hX hW (by omega) (by omega)
    have n1 := nI_s (tl (mI M)) (by omega)
    have e : nI v - nI v / nI 10 * nI 10 = nI v := by rw [pk_rem (by omega) (by omega) (by omega), Nat.mod_eq_of_lt z]
    rw [nuB_1 z]
    simp (maxSteps := 3000000) (disch := first | exact True.intro | assumption | omega) only [↓eq_self, Option.toList_some, Option.toList_none, List.nil_append, List.cons_append, wsum_0, wsum_1, wsum_2, wsum_3, wsum_4, lkill, ↓reduceIte, if_true, if_false, Bool.false_eq_true, and_true, true_and, and_self, or_self, true_or, or_true, not_true, not_false_iff, mR_stI, mN_stI, isO_stI, isA_stI, mI_stI, mR_mW, mN_mW, isO_mW, isA_mW, mI_mW, mW_mW, stI_mW, vp_0, nI_add, nI_ltI, nI_leI, nI_eq, vpi, nI_clamp, nI_toN, nI_geT, pk_mul, pk_sub, bv_0n, bv_1n, ↓bv_01n, n01a, n01b, Nat.reduceSub, Nat.reduceAdd, Nat.reduceMul, u2_rw, rw_rw, rw_at, rw_ne, up_at, up_ne, Nat.zero_add, Nat.add_zero, lw_mW, m1_lt0, ite_nt, ↓g_W_typesNumber_0, ↓g_W_typesNumber_6, ↓g_W_typesNumber_17, ↓g_W_typesNumber_20, ↓g_W_typesNumber_31, ↓g_W_typesNumber_34, ↓g_W_typesNumber_38, ↓g_W_typesNumber_39, z, h10, e, c1, n1, bk_oB hB]
    exact ⟨rfl, rfl⟩
  · have c1 : ∀ {K : Option Value → Mem → Prop}, pcall e_B_type [.ref 16, .int (nI (48 + v / 10))] M K = K (some (.int (nI (tl (mI M) + 1)))) (mW M (apF (mI M) (nI (48 + v / 10)))) := pc_ty (g := mI M) hX hW (by omega) (by omega)
    have t1 := apF_tl (f := mI M) (v := nI (48 + v / 10)) (by omega)
    have c2 : ∀ {K : Option Value → Mem → Prop}, pcall e_B_type [.ref 16, .int (nI (48 + v % 10))] (mW M (apF (mI M) (nI (48 + v / 10)))) K = K (some (.int (nI (tl (mI M) + 1 + 1)))) (mW M (apF (apF (mI M) (nI (48 + v / 10))) (nI (48 + v % 10)))) := fun {K} => by
      rw [pc_ty (g := apF (mI M) (nI (48 + v / 10))) (hX.ap (by omega)) hW (by omega) (by omega), t1]
    have n1 := nI_s (tl (mI M)) (by omega)
    have n2 := nI_s (tl (mI M) + 1) (by omega)
    have e : nI v - nI v / nI 10 * nI 10 = nI (v % 10) := pk_rem (by omega) (by omega) (by omega)
    have e3 : nI v / nI 10 = nI (v / 10) := pk_div (by omega) (by omega) (by omega)
    have e2 : nI v - nI (v / 10) * nI 10 = nI (v % 10) := by rw [← e3]; exact e
    have e4 : nI v - nI (v / 10 * 10) = nI (v % 10) := by rw [pk_sub (by omega)]; congr 1; omega
    rw [nuB_2 z]
    simp (maxSteps := 3000000) (disch := first | exact True.intro | assumption | omega) only [↓eq_self, Option.toList_some, Option.toList_none, List.nil_append, List.cons_append, wsum_0, wsum_1, wsum_2, wsum_3, wsum_4, lkill, ↓reduceIte, if_true, if_false, Bool.false_eq_true, and_true, true_and, and_self, or_self, true_or, or_true, not_true, not_false_iff, mR_stI, mN_stI, isO_stI, isA_stI, mI_stI, mR_mW, mN_mW, isO_mW, isA_mW, mI_mW, mW_mW, stI_mW, vp_0, nI_add, nI_ltI, nI_leI, nI_eq, vpi, nI_clamp, nI_toN, nI_geT, pk_mul, pk_sub, bv_0n, bv_1n, ↓bv_01n, n01a, n01b, Nat.reduceSub, Nat.reduceAdd, Nat.reduceMul, u2_rw, rw_rw, rw_at, rw_ne, up_at, up_ne, Nat.zero_add, Nat.add_zero, lw_mW, m1_lt0, ite_nt, ↓g_W_typesNumber_0, ↓g_W_typesNumber_6, ↓g_W_typesNumber_17, ↓g_W_typesNumber_20, ↓g_W_typesNumber_31, ↓g_W_typesNumber_34, ↓g_W_typesNumber_38, ↓g_W_typesNumber_39, z, h10, e3, e4, c1, c2, n1, n2, bk_oB hB]
    exact ⟨rfl, rfl⟩
def nmW (r : Nat) : Int32 := nI ([6516853, 7169389, 7234932, 1684632427].getD r 0)
def e_W_typesName : Ent := (fun av M => ∃ (o : Nat) (r : Nat), av = [.ref o, .int (nI r)] ∧ r < 2 ^ 31 ∧ (o = 16 ∧ WB M ∧ r < 4 ∧ tl (mI M) + 4 ≤ 60), fun av M r_ M_ => ∀ (o : Nat) (r : Nat), r < 2 ^ 31 → av = [.ref o, .int (nI r)] → r_ = (some (.int (nI 1))) ∧ M_ = (mW M (apL (mI M) (nmB r))))
theorem pc_W_typesName {o : Nat} {r : Nat} {M : Mem} {K : Option Value → Mem → Prop} (hp : o = 16 ∧ WB M ∧ r < 4 ∧ tl (mI M) + 4 ≤ 60) (h_r : r < 2 ^ 31) : pcall e_W_typesName [.ref o, .int (nI r)] M K = K (some (.int (nI 1))) (mW M (apL (mI M) (nmB r))) := propext ⟨fun h => h.2 _ _ (fun o' r' h_r' e => by simp only [List.cons.injEq, Value.ref.injEq, Value.int.injEq, Value.long.injEq, and_true] at e; obtain ⟨q0, q1⟩ := e; obtain rfl := q0; obtain rfl := (nI_eq h_r h_r').mp q1; exact ⟨rfl, rfl⟩), fun h => ⟨⟨o, r, rfl, h_r, hp⟩, fun r_ M_ q => by obtain ⟨rfl, rfl⟩ := q _ _ h_r rfl; exact h⟩⟩
theorem mk_W_typesName {Z : Zt} {d : Nat} (h : ∀ (o : Nat) (r : Nat) (M : Mem), r < 2 ^ 31 → (o = 16 ∧ WB M ∧ r < 4 ∧ tl (mI M) + 4 ≤ 60) → Gm Z d s_W_typesName [.ref o, .int (nI r)] M (ex (some (.int (nI 1))) (mW M (apL (mI M) (nmB r))))) : okE Z d i_W_typesName e_W_typesName := by
  rintro av M ⟨o, r, rfl, h_r, hp⟩
  exact Gm.cons (h o r M h_r hp) (fun r_ M_ q o' r' h_r' e => by simp only [List.cons.injEq, Value.ref.injEq, Value.int.injEq, Value.long.injEq, and_true] at e; obtain ⟨q0, q1⟩ := e; obtain rfl := q0; obtain rfl := (nI_eq h_r h_r').mp q1; exact q)
def C_W_typesName : List (Nat × Ent) := [(i_B_type, e_B_type)]
abbrev S_W_typesName : List Nat := [38]
def t_W_typesName_82 : List PI := (82, 1, 0, 3, 0, 0, []) :: (83, 9, 1, 0, 0, 0, []) :: []
def t_W_typesName_75 : List PI := (75, 1, 3, 3, 0, 0, []) :: (76, 1, 6, 4, 0, -8, []) :: (79, 6, 0, 38, 0, 0, []) :: t_W_typesName_82
def t_W_typesName_74 : List PI := (74, 0, 0, 0, 0, 0, []) :: t_W_typesName_75
def t_W_typesName_70 : List PI := (70, 0, 0, 0, 0, 1, []) :: (71, 6, 0, 75, 0, 0, []) :: t_W_typesName_74
def t_W_typesName_67 : List PI := (67, 5, 5, 74, 0, 0, []) :: t_W_typesName_70
def t_W_typesName_61 : List PI := (61, 1, 1, 0, 0, 0, []) :: (62, 1, 0, 5, 0, 0, []) :: (64, 11, 0, 4, 53, 0, [19, 2]) :: t_W_typesName_67
def t_W_typesName_56 : List PI := (56, 1, 0, 5, 0, 0, []) :: (58, 5, 0, 70, 0, 0, []) :: t_W_typesName_61
def t_W_typesName_43 : List PI := (43, 1, 0, 2, 0, 0, []) :: (44, 1, 0, 4, 0, 0, []) :: (46, 2, 9, 0, 0, 0, []) :: (47, 0, 0, 0, 1, 127, []) :: (49, 2, 6, 0, 0, 0, []) :: (50, 1, 3, 5, 0, 0, []) :: (52, 1, 0, 3, 0, 0, []) :: (53, 5, 0, 74, 0, 0, []) :: t_W_typesName_56
def t_W_typesName_38 : List PI := (38, 1, 0, 4, 0, 0, []) :: (40, 5, 2, 82, 0, 0, []) :: t_W_typesName_43
def t_W_typesName_31 : List PI := (31, 1, 3, 2, 0, 0, []) :: (32, 0, 0, 0, 0, 1, []) :: (33, 1, 3, 3, 0, 0, []) :: (34, 0, 0, 0, 1, 24, []) :: (36, 1, 3, 4, 0, 0, []) :: t_W_typesName_38
def t_W_typesName_29 : List PI := (29, 0, 0, 28, 3, 1684632427, []) :: t_W_typesName_31
def t_W_typesName_24 : List PI := (24, 0, 0, 27, 3, 7234932, []) :: (26, 6, 0, 31, 0, 0, []) :: t_W_typesName_29
def t_W_typesName_19 : List PI := (19, 1, 0, 1, 0, 0, []) :: (20, 0, 0, 0, 0, 2, []) :: (21, 4, 1, 29, 0, 0, []) :: t_W_typesName_24
def t_W_typesName_14 : List PI := (14, 0, 0, 26, 3, 7169389, []) :: (16, 6, 0, 31, 0, 0, []) :: t_W_typesName_19
def t_W_typesName_9 : List PI := (9, 1, 0, 1, 0, 0, []) :: (10, 0, 0, 0, 0, 1, []) :: (11, 4, 1, 19, 0, 0, []) :: t_W_typesName_14
def t_W_typesName_4 : List PI := (4, 0, 0, 25, 3, 6516853, []) :: (6, 6, 0, 31, 0, 0, []) :: t_W_typesName_9
def t_W_typesName_0 : List PI := (0, 1, 0, 1, 0, 0, []) :: (1, 5, 1, 9, 0, 0, []) :: t_W_typesName_4
theorem kt_W_typesName : okP s_W_typesName t_W_typesName_0 := k_W_typesName
theorem g_W_typesName_0 {Z : Zt} {nF f : Nat} {Kx : Nat → Kt} {Q : Option Value → Mem → Prop} {M : Mem} {x1 : Nat} {x2 : Int32} : run Z nF C_W_typesName S_W_typesName Kx Q (f + 2) t_W_typesName_0 [some (.ref (x1)), some (.int (x2)), none, none, none, none] [] M = ((if (x2) = nI 0 then run Z nF C_W_typesName S_W_typesName Kx Q f t_W_typesName_4 [some (.ref (x1)), some (.int (x2)), none, none, none, none] [] (M) else run Z nF C_W_typesName S_W_typesName Kx Q f t_W_typesName_9 [some (.ref (x1)), some (.int (x2)), none, none, none, none] [] (M))) := id rfl
theorem g_W_typesName_4 {Z : Zt} {nF f : Nat} {Kx : Nat → Kt} {Q : Option Value → Mem → Prop} {M : Mem} {x1 : Nat} {x2 : Int32} : run Z nF C_W_typesName S_W_typesName Kx Q (f + 2) t_W_typesName_4 [some (.ref (x1)), some (.int (x2)), none, none, none, none] [] M = (run Z nF C_W_typesName S_W_typesName Kx Q f t_W_typesName_31 [some (.ref (x1)), some (.int (x2)), none, none, none, none] [.int ((nI 6516853))] (M)) := id rfl
theorem g_W_typesName_9 {Z : Zt} {nF f : Nat} {Kx : Nat → Kt} {Q : Option Value → Mem → Prop} {M : Mem} {x1 : Nat} {x2 : Int32} : run Z nF C_W_typesName S_W_typesName Kx Q (f + 3) t_W_typesName_9 [some (.ref (x1)), some (.int (x2)), none, none, none, none] [] M = ((if (x2) = ((nI 1)) then run Z nF C_W_typesName S_W_typesName Kx Q f t_W_typesName_14 [some (.ref (x1)), some (.int (x2)), none, none, none, none] [] (M) else run Z nF C_W_typesName S_W_typesName Kx Q f t_W_typesName_19 [some (.ref (x1)), some (.int (x2)), none, none, none, none] [] (M))) := id rfl
theorem g_W_typesName_14 {Z : Zt} {nF f : Nat} {Kx : Nat → Kt} {Q : Option Value → Mem → Prop} {M : Mem} {x1 : Nat} {x2 : Int32} : run Z nF C_W_typesName S_W_typesName Kx Q (f + 2) t_W_typesName_14 [some (.ref (x1)), some (.int (x2)), none, none, none, none] [] M = (run Z nF C_W_typesName S_W_typesName Kx Q f t_W_typesName_31 [some (.ref (x1)), some (.int (x2)), none, none, none, none] [.int ((nI 7169389))] (M)) := id rfl
theorem g_W_typesName_19 {Z : Zt} {nF f : Nat} {Kx : Nat → Kt} {Q : Option Value → Mem → Prop} {M : Mem} {x1 : Nat} {x2 : Int32} : run Z nF C_W_typesName S_W_typesName Kx Q (f + 3) t_W_typesName_19 [some (.ref (x1)), some (.int (x2)), none, none, none, none] [] M = ((if (x2) = ((nI 2)) then run Z nF C_W_typesName S_W_typesName Kx Q f t_W_typesName_24 [some (.ref (x1)), some (.int (x2)), none, none, none, none] [] (M) else run Z nF C_W_typesName S_W_typesName Kx Q f t_W_typesName_29 [some (.ref (x1)), some (.int (x2)), none, none, none, none] [] (M))) := id rfl
theorem g_W_typesName_24 {Z : Zt} {nF f : Nat} {Kx : Nat → Kt} {Q : Option Value → Mem → Prop} {M : Mem} {x1 : Nat} {x2 : Int32} : run Z nF C_W_typesName S_W_typesName Kx Q (f + 2) t_W_typesName_24 [some (.ref (x1)), some (.int (x2)), none, none, none, none] [] M = (run Z nF C_W_typesName S_W_typesName Kx Q f t_W_typesName_31 [some (.ref (x1)), some (.int (x2)), none, none, none, none] [.int ((nI 7234932))] (M)) := id rfl
theorem g_W_typesName_29 {Z : Zt} {nF f : Nat} {Kx : Nat → Kt} {Q : Option Value → Mem → Prop} {M : Mem} {x1 : Nat} {x2 : Int32} : run Z nF C_W_typesName S_W_typesName Kx Q (f + 1) t_W_typesName_29 [some (.ref (x1)), some (.int (x2)), none, none, none, none] [] M = (run Z nF C_W_typesName S_W_typesName Kx Q f t_W_typesName_31 [some (.ref (x1)), some (.int (x2)), none, none, none, none] [.int ((nI 1684632427))] (M)) := id rfl
theorem g_W_typesName_31 {Z : Zt} {nF f : Nat} {Kx : Nat → Kt} {Q : Option Value → Mem → Prop} {M : Mem} {x1 : Nat} {x2 : Int32} {x3 : Int32} : run Z nF C_W_typesName S_W_typesName Kx Q (f + 5) t_W_typesName_31 [some (.ref (x1)), some (.int (x2)), none, none, none, none] [.int (x3)] M = (Kx 38 [some (.ref (x1)), some (.int (x2)), some (.int (x3)), some (.int ((nI 1))), some (.int ((nI 24))), none] [] (M)) := id rfl
theorem g_W_typesName_38 {Z : Zt} {nF f : Nat} {Kx : Nat → Kt} {Q : Option Value → Mem → Prop} {M : Mem} {x1 : Nat} {x2 : Int32} {x3 : Int32} {x4 : Int32} {x5 : Int32} {x6 : Option Value} : run Z nF C_W_typesName S_W_typesName Kx Q (f + 2) t_W_typesName_38 [some (.ref (x1)), some (.int (x2)), some (.int (x3)), some (.int (x4)), some (.int (x5)), x6] [] M = ((if (x5) < nI 0 then run Z nF C_W_typesName S_W_typesName Kx Q f t_W_typesName_82 [some (.ref (x1)), some (.int (x2)), some (.int (x3)), some (.int (x4)), some (.int (x5)), x6] [] (M) else run Z nF C_W_typesName S_W_typesName Kx Q f t_W_typesName_43 [some (.ref (x1)), some (.int (x2)), some (.int (x3)), some (.int (x4)), some (.int (x5)), x6] [] (M))) := id rfl
theorem g_W_typesName_43 {Z : Zt} {nF f : Nat} {Kx : Nat → Kt} {Q : Option Value → Mem → Prop} {M : Mem} {x1 : Nat} {x2 : Int32} {x3 : Int32} {x4 : Int32} {x5 : Int32} {x6 : Option Value} : run Z nF C_W_typesName S_W_typesName Kx Q (f + 8) t_W_typesName_43 [some (.ref (x1)), some (.int (x2)), some (.int (x3)), some (.int (x4)), some (.int (x5)), x6] [] M = ((if (x4) = nI 0 then run Z nF C_W_typesName S_W_typesName Kx Q f t_W_typesName_74 [some (.ref (x1)), some (.int (x2)), some (.int (x3)), some (.int (x4)), some (.int (x5)), some (.int (((x3) >>> ((x5) &&& 31)) &&& ((nI 127))))] [] (M) else run Z nF C_W_typesName S_W_typesName Kx Q f t_W_typesName_56 [some (.ref (x1)), some (.int (x2)), some (.int (x3)), some (.int (x4)), some (.int (x5)), some (.int (((x3) >>> ((x5) &&& 31)) &&& ((nI 127))))] [] (M))) := id rfl
theorem g_W_typesName_56 {Z : Zt} {nF f : Nat} {Kx : Nat → Kt} {Q : Option Value → Mem → Prop} {M : Mem} {x1 : Nat} {x2 : Int32} {x3 : Int32} {x4 : Int32} {x5 : Int32} {x6 : Int32} : run Z nF C_W_typesName S_W_typesName Kx Q (f + 2) t_W_typesName_56 [some (.ref (x1)), some (.int (x2)), some (.int (x3)), some (.int (x4)), some (.int (x5)), some (.int (x6))] [] M = ((if (x6) = nI 0 then run Z nF C_W_typesName S_W_typesName Kx Q f t_W_typesName_70 [some (.ref (x1)), some (.int (x2)), some (.int (x3)), some (.int (x4)), some (.int (x5)), some (.int (x6))] [] (M) else run Z nF C_W_typesName S_W_typesName Kx Q f t_W_typesName_61 [some (.ref (x1)), some (.int (x2)), some (.int (x3)), some (.int (x4)), some (.int (x5)), some (.int (x6))] [] (M))) := id rfl
theorem g_W_typesName_61 {Z : Zt} {nF f : Nat} {Kx : Nat → Kt} {Q : Option Value → Mem → Prop} {M : Mem} {x1 : Nat} {x2 : Int32} {x3 : Int32} {x4 : Int32} {x5 : Int32} {x6 : Int32} : run Z nF C_W_typesName S_W_typesName Kx Q (f + 3) t_W_typesName_61 [some (.ref (x1)), some (.int (x2)), some (.int (x3)), some (.int (x4)), some (.int (x5)), some (.int (x6))] [] M = (((isO (M) (x1) 4) ∧ wsum [] ≤ 8) ∧ pcall e_B_type [.ref (x1), .int (x6)] (M) (fun v M_ => run Z nF C_W_typesName S_W_typesName Kx Q f t_W_typesName_67 [some (.ref (x1)), some (.int (x2)), some (.int (x3)), some (.int (x4)), some (.int (x5)), some (.int (x6))] (v.toList ++ []) M_)) := id rfl
theorem g_W_typesName_67 {Z : Zt} {nF f : Nat} {Kx : Nat → Kt} {Q : Option Value → Mem → Prop} {M : Mem} {x1 : Nat} {x2 : Int32} {x3 : Int32} {x4 : Int32} {x5 : Int32} {x6 : Int32} {x7 : Int32} : run Z nF C_W_typesName S_W_typesName Kx Q (f + 1) t_W_typesName_67 [some (.ref (x1)), some (.int (x2)), some (.int (x3)), some (.int (x4)), some (.int (x5)), some (.int (x6))] [.int (x7)] M = ((if (x7) ≤ nI 0 then run Z nF C_W_typesName S_W_typesName Kx Q f t_W_typesName_74 [some (.ref (x1)), some (.int (x2)), some (.int (x3)), some (.int (x4)), some (.int (x5)), some (.int (x6))] [] (M) else run Z nF C_W_typesName S_W_typesName Kx Q f t_W_typesName_70 [some (.ref (x1)), some (.int (x2)), some (.int (x3)), some (.int (x4)), some (.int (x5)), some (.int (x6))] [] (M))) := id rfl
theorem g_W_typesName_70 {Z : Zt} {nF f : Nat} {Kx : Nat → Kt} {Q : Option Value → Mem → Prop} {M : Mem} {x1 : Nat} {x2 : Int32} {x3 : Int32} {x4 : Int32} {x5 : Int32} {x6 : Int32} : run Z nF C_W_typesName S_W_typesName Kx Q (f + 2) t_W_typesName_70 [some (.ref (x1)), some (.int (x2)), some (.int (x3)), some (.int (x4)), some (.int (x5)), some (.int (x6))] [] M = (run Z nF C_W_typesName S_W_typesName Kx Q f t_W_typesName_75 [some (.ref (x1)), some (.int (x2)), some (.int (x3)), some (.int (x4)), some (.int (x5)), some (.int (x6))] [.int ((nI 1))] (M)) := id rfl
theorem g_W_typesName_74 {Z : Zt} {nF f : Nat} {Kx : Nat → Kt} {Q : Option Value → Mem → Prop} {M : Mem} {x1 : Nat} {x2 : Int32} {x3 : Int32} {x4 : Int32} {x5 : Int32} {x6 : Int32} : run Z nF C_W_typesName S_W_typesName Kx Q (f + 1) t_W_typesName_74 [some (.ref (x1)), some (.int (x2)), some (.int (x3)), some (.int (x4)), some (.int (x5)), some (.int (x6))] [] M = (run Z nF C_W_typesName S_W_typesName Kx Q f t_W_typesName_75 [some (.ref (x1)), some (.int (x2)), some (.int (x3)), some (.int (x4)), some (.int (x5)), some (.int (x6))] [.int ((nI 0))] (M)) := id rfl
theorem g_W_typesName_75 {Z : Zt} {nF f : Nat} {Kx : Nat → Kt} {Q : Option Value → Mem → Prop} {M : Mem} {x1 : Nat} {x2 : Int32} {x3 : Int32} {x4 : Int32} {x5 : Int32} {x6 : Int32} {x7 : Int32} : run Z nF C_W_typesName S_W_typesName Kx Q (f + 3) t_W_typesName_75 [some (.ref (x1)), some (.int (x2)), some (.int (x3)), some (.int (x4)), some (.int (x5)), some (.int (x6))] [.int (x7)] M = (Kx 38 [some (.ref (x1)), some (.int (x2)), some (.int (x3)), some (.int (x7)), some (.int (x5 + (-8 : Int32))), some (.int (x6))] [] (M)) := id rfl
theorem g_W_typesName_82 {Z : Zt} {nF f : Nat} {Kx : Nat → Kt} {Q : Option Value → Mem → Prop} {M : Mem} {x1 : Nat} {x2 : Int32} {x3 : Int32} {x4 : Int32} {x5 : Int32} {x6 : Option Value} : run Z nF C_W_typesName S_W_typesName Kx Q (f + 2) t_W_typesName_82 [some (.ref (x1)), some (.int (x2)), some (.int (x3)), some (.int (x4)), some (.int (x5)), x6] [] M = (((x4) = nI 0 ∨ (x4) = nI 1) ∧ Q (some (.int (x4))) (M)) := id rfl
section Tn
variable {Z : Zt} {d : Nat} {M : Mem} {Q : Option Value → Mem → Prop} {g : Nat → Nat → Int32}
set_option maxRecDepth 100000 in
set_option maxHeartbeats 4000000 in
theorem lp_e_typesName {nm r : Int32} {x : Option Value} (hW : WB M) (hq : Q (some (.int (nI 1))) (mW M g)) : X Z (d + 3) s_W_typesName (mN M) (mN M) Q 38 [some (.ref 16), some (.int r), some (.int nm), some (.int (nI 1)), some (.int (-8)), x] [] (mW M g) := by
  have m8 : ((-8 : Int32) < nI 0) = True := by decide
  refine X_runT (C := C_W_typesName) (S := S_W_typesName) (T := t_W_typesName_38) 1000 kt_W_typesName (okE_cons (ok_B_type Z d) okE_nil) ?_
  simp (maxSteps := 3000000) (disch := first | exact True.intro | assumption | omega) only [↓eq_self, Option.toList_some, Option.toList_none, List.nil_append, List.cons_append, wsum_0, wsum_1, wsum_2, wsum_3, wsum_4, lkill, ↓reduceIte, if_true, if_false, Bool.false_eq_true, and_true, true_and, and_self, or_self, true_or, or_true, not_true, not_false_iff, mR_stI, mN_stI, isO_stI, isA_stI, mI_stI, mR_mW, mN_mW, isO_mW, isA_mW, mI_mW, mW_mW, stI_mW, vp_0, nI_add, nI_ltI, nI_leI, nI_eq, vpi, nI_clamp, nI_toN, nI_geT, pk_mul, pk_sub, bv_0n, bv_1n, ↓bv_01n, n01a, n01b, Nat.reduceSub, Nat.reduceAdd, Nat.reduceMul, u2_rw, rw_rw, rw_at, rw_ne, up_at, up_ne, Nat.zero_add, Nat.add_zero, lw_mW, m1_lt0, ite_nt, ↓g_W_typesName_38, ↓g_W_typesName_82, m8]
  exact hq
set_option maxRecDepth 100000 in
set_option maxHeartbeats 4000000 in
theorem lp_0_typesName {nm r s s2 : Int32} {x : Option Value} (h0 : ¬ s < nI 0) (hs : s + (-8) = s2) (hc : (nm >>> (s &&& 31)) &&& nI 127 = nI 0) (hx : ∀ x, X Z (d + 3) s_W_typesName (mN M) (mN M) Q 38 [some (.ref 16), some (.int r), some (.int nm), some (.int (nI 1)), some (.int s2), x] [] (mW M g)) : X Z (d + 3) s_W_typesName (mN M) (mN M) Q 38 [some (.ref 16), some (.int r), some (.int nm), some (.int (nI 1)), some (.int s), x] [] (mW M g) := by
  have h10 := nI_n0 (m := 1) (by omega) (by omega)
  have := hx (some (.int (nI 0)))
  refine X_runT (C := C_W_typesName) (S := S_W_typesName) (T := t_W_typesName_38) 1000 kt_W_typesName (okE_cons (ok_B_type Z d) okE_nil) ?_
  simp (maxSteps := 3000000) (disch := first | exact True.intro | assumption | omega) only [↓eq_self, Option.toList_some, Option.toList_none, List.nil_append, List.cons_append, wsum_0, wsum_1, wsum_2, wsum_3, wsum_4, lkill, ↓reduceIte, if_true, if_false, Bool.false_eq_true, and_true, true_and, and_self, or_self, true_or, or_true, not_true, not_false_iff, mR_stI, mN_stI, isO_stI, isA_stI, mI_stI, mR_mW, mN_mW, isO_mW, isA_mW, mI_mW, mW_mW, stI_mW, vp_0, nI_add, nI_ltI, nI_leI, nI_eq, vpi, nI_clamp, nI_toN, nI_geT, pk_mul, pk_sub, bv_0n, bv_1n, ↓bv_01n, n01a, n01b, Nat.reduceSub, Nat.reduceAdd, Nat.reduceMul, u2_rw, rw_rw, rw_at, rw_ne, up_at, up_ne, Nat.zero_add, Nat.add_zero, lw_mW, m1_lt0, ite_nt, ↓g_W_typesName_38, ↓g_W_typesName_43, ↓g_W_typesName_56, ↓g_W_typesName_61, ↓g_W_typesName_67, ↓g_W_typesName_70, ↓g_W_typesName_74, ↓g_W_typesName_75, h0, hs, hc, h10]
  exact this
set_option maxRecDepth 100000 in
set_option maxHeartbeats 4000000 in
theorem lp_1_typesName {nm r s s2 : Int32} {c : Nat} {x : Option Value} (hW : WB M) (hX : TX M g) (ht : tl g < 60) (h0 : ¬ s < nI 0) (hs : s + (-8) = s2) (hc0 : 0 < c) (hc7 : c ≤ 127) (hc : (nm >>> (s &&& 31)) &&& nI 127 = nI c) (hx : ∀ x, X Z (d + 3) s_W_typesName (mN M) (mN M) Q 38 [some (.ref 16), some (.int r), some (.int nm), some (.int (nI 1)), some (.int s2), x] [] (mW M (apF g (nI c)))) : X Z (d + 3) s_W_typesName (mN M) (mN M) Q 38 [some (.ref 16), some (.int r), some (.int nm), some (.int (nI 1)), some (.int s), x] [] (mW M g) := by
  have hB := hW.1
  have h10 := nI_n0 (m := 1) (by omega) (by omega)
  have hcn := nI_n0 (m := c) hc0 (by omega)
  have c1 : ∀ {K : Option Value → Mem → Prop}, pcall e_B_type [.ref 16, .int (nI c)] (mW M g) K = K (some (.int (nI (tl g + 1)))) (mW M (apF g (nI c))) := pc_ty hX hW hc7 ht
  have n1 := nI_s (tl g) (by omega)
  have := hx (some (.int (nI c)))
  refine X_runT (C := C_W_typesName) (S := S_W_typesName) (T := t_W_typesName_38) 1000 kt_W_typesName (okE_cons (ok_B_type Z d) okE_nil) ?_
  simp (maxSteps := 3000000) (disch := first | exact True.intro | assumption | omega) only [↓eq_self, Option.toList_some, Option.toList_none, List.nil_append, List.cons_append, wsum_0, wsum_1, wsum_2, wsum_3, wsum_4, lkill, ↓reduceIte, if_true, if_false, Bool.false_eq_true, and_true, true_and, and_self, or_self, true_or, or_true, not_true, not_false_iff, mR_stI, mN_stI, isO_stI, isA_stI, mI_stI, mR_mW, mN_mW, isO_mW, isA_mW, mI_mW, mW_mW, stI_mW, vp_0, nI_add, nI_ltI, nI_leI, nI_eq, vpi, nI_clamp, nI_toN, nI_geT, pk_mul, pk_sub, bv_0n, bv_1n, ↓bv_01n, n01a, n01b, Nat.reduceSub, Nat.reduceAdd, Nat.reduceMul, u2_rw, rw_rw, rw_at, rw_ne, up_at, up_ne, Nat.zero_add, Nat.add_zero, lw_mW, m1_lt0, ite_nt, ↓g_W_typesName_38, ↓g_W_typesName_43, ↓g_W_typesName_56, ↓g_W_typesName_61, ↓g_W_typesName_67, ↓g_W_typesName_70, ↓g_W_typesName_74, ↓g_W_typesName_75, h0, hs, hc, h10, hcn, c1, n1, bk_oB hB]
  exact this
end Tn
theorem s_24 : ¬ (24 : Int32) < nI 0 ∧ ¬ (16 : Int32) < nI 0 ∧ ¬ (8 : Int32) < nI 0 ∧ ¬ (0 : Int32) < nI 0 := by decide
set_option maxRecDepth 100000 in
set_option maxHeartbeats 4000000 in
theorem lp_n_typesName (Z : Zt) (d : Nat) {M : Mem} {r : Nat} {x : Option Value} (hW : WB M) (ht : tl (mI M) + 4 ≤ 60) (hr : r < 4) : X Z (d + 3) s_W_typesName (mN M) (mN M) (ex (some (.int (nI 1))) (mW M (apL (mI M) (nmB r)))) 38 [some (.ref 16), some (.int (nI r)), some (.int (nmW r)), some (.int (nI 1)), some (.int (nI 24)), x] [] M := by
  obtain ⟨s1, s2, s3, s4⟩ := s_24
  have hX := TX.rf hW
  have key : ∀ a b c e : Nat, (nmB r = [nI a, nI b, nI c, nI e] ∨ (a = 0 ∧ nmB r = [nI b, nI c, nI e])) → a ≤ 127 → (0 < b ∧ b ≤ 127) → (0 < c ∧ c ≤ 127) → (0 < e ∧ e ≤ 127) → (nmW r >>> ((24 : Int32) &&& 31)) &&& nI 127 = nI a → (nmW r >>> ((16 : Int32) &&& 31)) &&& nI 127 = nI b → (nmW r >>> ((8 : Int32) &&& 31)) &&& nI 127 = nI c → (nmW r >>> ((0 : Int32) &&& 31)) &&& nI 127 = nI e → X Z (d + 3) s_W_typesName (mN M) (mN M) (ex (some (.int (nI 1))) (mW M (apL (mI M) (nmB r)))) 38 [some (.ref 16), some (.int (nI r)), some (.int (nmW r)), some (.int (nI 1)), some (.int (nI 24)), x] [] (mW M (mI M)) := by
    intro a b c e hl ha hb hc he ea eb ec ee
    have rest : ∀ (g : Nat → Nat → Int32) x, TX M g → tl g + 3 ≤ 60 → apL (mI M) (nmB r) = apF (apF (apF g (nI b)) (nI c)) (nI e) → X Z (d + 3) s_W_typesName (mN M) (mN M) (ex (some (.int (nI 1))) (mW M (apL (mI M) (nmB r)))) 38 [some (.ref 16), some (.int (nI r)), some (.int (nmW r)), some (.int (nI 1)), some (.int 16), x] [] (mW M g) := fun g x hg h3 eL => by
      have t1 := apF_tl (f := g) (v := nI b) (by omega)
      have t2 := apF_tl (f := apF g (nI b)) (v := nI c) (by omega)
      refine lp_1_typesName (s2 := 8) (c := b) hW hg (by omega) s2 (by decide) hb.1 hb.2 eb fun x => ?_
      refine lp_1_typesName (s2 := 0) (c := c) hW (hg.ap (by omega)) (by omega) s3 (by decide) hc.1 hc.2 ec fun x => ?_
      refine lp_1_typesName (s2 := -8) (c := e) hW ((hg.ap (by omega)).ap (by omega)) (by omega) s4 (by decide) he.1 he.2 ee fun x => ?_
      exact lp_e_typesName hW ⟨rfl, by rw [eL]⟩
    by_cases z : a = 0
    · subst z
      have hl2 : nmB r = [nI b, nI c, nI e] := by
        rcases hl with q | ⟨-, q⟩
        · exfalso
          have := nmB_let r hr 0 (by rw [q]; exact Nat.zero_lt_succ _)
          rw [q] at this
          exact absurd this.1 (show ¬ (97 : Int32) ≤ nI 0 by decide)
        · exact q
      exact lp_0_typesName (s2 := 16) s1 (by decide) ea fun x => rest _ x hX (by omega) (by rw [hl2]; rfl)
    · have hl2 : nmB r = [nI a, nI b, nI c, nI e] := by
        rcases hl with q | ⟨q, -⟩
        · exact q
        · exact absurd q z
      have t1 := apF_tl (f := mI M) (v := nI a) (by omega)
      exact lp_1_typesName (s2 := 16) (c := a) hW hX (by omega) s1 (by decide) (by omega) ha ea fun x => rest _ x (hX.ap (by omega)) (by omega) (by rw [hl2]; rfl)
  have h4 : r = 0 ∨ r = 1 ∨ r = 2 ∨ r = 3 := by omega
  rcases h4 with z | z | z | z <;> subst z
  · exact key 0 99 112 117 (Or.inr ⟨rfl, rfl⟩) (by omega) (by omega) (by omega) (by omega) (by decide) (by decide) (by decide) (by decide)
  · exact key 0 109 101 109 (Or.inr ⟨rfl, rfl⟩) (by omega) (by omega) (by omega) (by omega) (by decide) (by decide) (by decide) (by decide)
  · exact key 0 110 101 116 (Or.inr ⟨rfl, rfl⟩) (by omega) (by omega) (by omega) (by omega) (by decide) (by decide) (by decide) (by decide)
  · exact key 100 105 115 107 (Or.inl rfl) (by omega) (by omega) (by omega) (by omega) (by decide) (by decide) (by decide) (by decide)
set_option maxRecDepth 100000 in
set_option maxHeartbeats 4000000 in
theorem ok_W_typesName (Z : Zt) (d : Nat) : okE Z (d + 3) i_W_typesName e_W_typesName := mk_W_typesName fun o r M h1 hp => by
  obtain ⟨rfl, hW, hr, ht⟩ := hp
  refine Gm_run (C := C_W_typesName) (S := S_W_typesName) [some (.ref 16), some (.int (nI r)), none, none, none, none] 1000 kt_W_typesName (okE_cons (ok_B_type Z d) okE_nil) (ex_n rfl) ?_
  have := lp_n_typesName Z d (x := none) hW ht hr
  have h4 : r = 0 ∨ r = 1 ∨ r = 2 ∨ r = 3 := by omega
  rcases h4 with z | z | z | z <;> subst z
  · simp (maxSteps := 3000000) (disch := first | exact True.intro | assumption | omega) only [↓eq_self, Option.toList_some, Option.toList_none, List.nil_append, List.cons_append, wsum_0, wsum_1, wsum_2, wsum_3, wsum_4, lkill, ↓reduceIte, if_true, if_false, Bool.false_eq_true, and_true, true_and, and_self, or_self, true_or, or_true, not_true, not_false_iff, mR_stI, mN_stI, isO_stI, isA_stI, mI_stI, mR_mW, mN_mW, isO_mW, isA_mW, mI_mW, mW_mW, stI_mW, vp_0, nI_add, nI_ltI, nI_leI, nI_eq, vpi, nI_clamp, nI_toN, nI_geT, pk_mul, pk_sub, bv_0n, bv_1n, ↓bv_01n, n01a, n01b, Nat.reduceSub, Nat.reduceAdd, Nat.reduceMul, u2_rw, rw_rw, rw_at, rw_ne, up_at, up_ne, Nat.zero_add, Nat.add_zero, lw_mW, m1_lt0, ite_nt, ↓g_W_typesName_0, ↓g_W_typesName_4, ↓g_W_typesName_9, ↓g_W_typesName_14, ↓g_W_typesName_19, ↓g_W_typesName_24, ↓g_W_typesName_29, ↓g_W_typesName_31]
    exact this
  · have a1 : (nI 1 = nI 0) = False := nI_n0 (by omega) (by omega)
    simp (maxSteps := 3000000) (disch := first | exact True.intro | assumption | omega) only [↓eq_self, Option.toList_some, Option.toList_none, List.nil_append, List.cons_append, wsum_0, wsum_1, wsum_2, wsum_3, wsum_4, lkill, ↓reduceIte, if_true, if_false, Bool.false_eq_true, and_true, true_and, and_self, or_self, true_or, or_true, not_true, not_false_iff, mR_stI, mN_stI, isO_stI, isA_stI, mI_stI, mR_mW, mN_mW, isO_mW, isA_mW, mI_mW, mW_mW, stI_mW, vp_0, nI_add, nI_ltI, nI_leI, nI_eq, vpi, nI_clamp, nI_toN, nI_geT, pk_mul, pk_sub, bv_0n, bv_1n, ↓bv_01n, n01a, n01b, Nat.reduceSub, Nat.reduceAdd, Nat.reduceMul, u2_rw, rw_rw, rw_at, rw_ne, up_at, up_ne, Nat.zero_add, Nat.add_zero, lw_mW, m1_lt0, ite_nt, ↓g_W_typesName_0, ↓g_W_typesName_4, ↓g_W_typesName_9, ↓g_W_typesName_14, ↓g_W_typesName_19, ↓g_W_typesName_24, ↓g_W_typesName_29, ↓g_W_typesName_31, a1]
    exact this
  · have a1 : (nI 2 = nI 0) = False := nI_n0 (by omega) (by omega)
    have a2 : (nI 2 = nI 1) = False := by decide
    simp (maxSteps := 3000000) (disch := first | exact True.intro | assumption | omega) only [↓eq_self, Option.toList_some, Option.toList_none, List.nil_append, List.cons_append, wsum_0, wsum_1, wsum_2, wsum_3, wsum_4, lkill, ↓reduceIte, if_true, if_false, Bool.false_eq_true, and_true, true_and, and_self, or_self, true_or, or_true, not_true, not_false_iff, mR_stI, mN_stI, isO_stI, isA_stI, mI_stI, mR_mW, mN_mW, isO_mW, isA_mW, mI_mW, mW_mW, stI_mW, vp_0, nI_add, nI_ltI, nI_leI, nI_eq, vpi, nI_clamp, nI_toN, nI_geT, pk_mul, pk_sub, bv_0n, bv_1n, ↓bv_01n, n01a, n01b, Nat.reduceSub, Nat.reduceAdd, Nat.reduceMul, u2_rw, rw_rw, rw_at, rw_ne, up_at, up_ne, Nat.zero_add, Nat.add_zero, lw_mW, m1_lt0, ite_nt, ↓g_W_typesName_0, ↓g_W_typesName_4, ↓g_W_typesName_9, ↓g_W_typesName_14, ↓g_W_typesName_19, ↓g_W_typesName_24, ↓g_W_typesName_29, ↓g_W_typesName_31, a1, a2]
    exact this
  · have a1 : (nI 3 = nI 0) = False := nI_n0 (by omega) (by omega)
    have a2 : (nI 3 = nI 1) = False := by decide
    have a3 : (nI 3 = nI 2) = False := by decide
    simp (maxSteps := 3000000) (disch := first | exact True.intro | assumption | omega) only [↓eq_self, Option.toList_some, Option.toList_none, List.nil_append, List.cons_append, wsum_0, wsum_1, wsum_2, wsum_3, wsum_4, lkill, ↓reduceIte, if_true, if_false, Bool.false_eq_true, and_true, true_and, and_self, or_self, true_or, or_true, not_true, not_false_iff, mR_stI, mN_stI, isO_stI, isA_stI, mI_stI, mR_mW, mN_mW, isO_mW, isA_mW, mI_mW, mW_mW, stI_mW, vp_0, nI_add, nI_ltI, nI_leI, nI_eq, vpi, nI_clamp, nI_toN, nI_geT, pk_mul, pk_sub, bv_0n, bv_1n, ↓bv_01n, n01a, n01b, Nat.reduceSub, Nat.reduceAdd, Nat.reduceMul, u2_rw, rw_rw, rw_at, rw_ne, up_at, up_ne, Nat.zero_add, Nat.add_zero, lw_mW, m1_lt0, ite_nt, ↓g_W_typesName_0, ↓g_W_typesName_4, ↓g_W_typesName_9, ↓g_W_typesName_14, ↓g_W_typesName_19, ↓g_W_typesName_24, ↓g_W_typesName_29, ↓g_W_typesName_31, a1, a2, a3]
    exact this
