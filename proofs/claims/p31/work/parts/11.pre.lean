/-! ===== how a method is shown ===== -/
def ex (r0 : Option Value) (M0 : Mem) : Option Value → Mem → Prop := fun r M' => r = r0 ∧ M' = M0
noncomputable def bv (p : Prop) : Int32 := @ite _ p (Classical.propDecidable p) 1 0
theorem bv_T {p : Prop} (h : p) : bv p = 1 := by unfold bv; rw [if_pos h]
theorem bv_F {p : Prop} (h : ¬ p) : bv p = 0 := by unfold bv; rw [if_neg h]
theorem bv_01 (p : Prop) : (bv p = 0 ∨ bv p = 1) = True := by
  by_cases h : p
  · rw [bv_T h]; simp
  · rw [bv_F h]; simp
theorem bv_0 (p : Prop) : (bv p = 0) = ¬ p := by
  by_cases h : p
  · rw [bv_T h]; simp [h]
  · rw [bv_F h]; simp [h]
theorem bv_i (p : Prop) [Decidable p] : (if p then (1 : Int32) else 0) = bv p := by
  by_cases h : p
  · rw [bv_T h, if_pos h]
  · rw [bv_F h, if_neg h]
theorem bv_c {p q : Prop} (h : p ↔ q) : bv p = bv q := by rw [propext h]
theorem Gm_run {Z : Zt} {d : Nat} {sg : Sig} {av : List Value} {M : Mem} {Q : Option Value → Mem → Prop} {C : List (Nat × Ent)} {S : List Nat} {P r : List PI} {x : Ins} (lv : List (Option Value)) (f : Nat) (hP : okP sg P) (hC : ∀ q ∈ C, okE Z d q.1 q.2) (hQ : ∀ r M', Q r M' → mN M' = mN M)
    (h : run Z (mN M) C S (fun pc lv st M' => X Z (d + 1) sg (mN M) (mN M) Q pc lv st M') Q f P lv [] M) (hx : P = (0, x) :: r := by rfl) (hy : plainName sg.1.cls = true := by decide) (hl : lv = argL av ++ List.replicate (sg.2.2.1 - (argL av).length) none := by rfl) (hn : Nat.ble (argL av).length sg.2.2.1 = true := by rfl) : Gm Z (d + 1) sg av M Q := by
  refine Gm_of hy hl (Nat.le_of_ble_eq_true hn) (Nat.le_refl _) hQ ?_
  exact run_X hC f P lv [] M hP h (0, x) r hx
theorem X_run {Z : Zt} {d : Nat} {sg : Sig} {n0 nF : Nat} {M : Mem} {Q : Option Value → Mem → Prop} {C : List (Nat × Ent)} {S : List Nat} {P r : List PI} {x : Ins} {lv : List (Option Value)} {st : List Value} {pc : Nat} (f : Nat) (hP : okP sg P) (hC : ∀ q ∈ C, okE Z d q.1 q.2)
    (h : run Z nF C S (fun pc lv st M' => X Z (d + 1) sg n0 nF Q pc lv st M') Q f (seek pc P) lv st M) (hx : seek pc P = (pc, x) :: r := by rfl) : X Z (d + 1) sg n0 nF Q pc lv st M := by
  exact run_X hC f _ lv st M (okP_seek pc P hP) h (pc, x) r hx
theorem ex_n {r0 : Option Value} {M0 M : Mem} (h : mN M0 = mN M) : ∀ r M', ex r0 M0 r M' → mN M' = mN M := fun _ _ q => by rw [q.2]; exact h
theorem ex_i (r0 : Option Value) (M0 : Mem) : ex r0 M0 r0 M0 := ⟨rfl, rfl⟩
theorem ex_iff (r0 : Option Value) (M0 : Mem) (r : Option Value) (M : Mem) : ex r0 M0 r M = (r = r0 ∧ M = M0) := rfl
theorem pcall_ex {e : Ent} {av : List Value} {M M0 : Mem} {K : Option Value → Mem → Prop} {r0 : Option Value} (h1 : e.1 av M) (h2 : e.2 av M = ex r0 M0) : pcall e av M K = K r0 M0 := by
  unfold pcall
  rw [h2]
  exact propext ⟨fun h => h.2 r0 M0 ⟨rfl, rfl⟩, fun h => ⟨h1, fun r M' q => by rw [q.1, q.2]; exact h⟩⟩
theorem okE_nil {Z : Zt} {d : Nat} : ∀ q ∈ ([] : List (Nat × Ent)), okE Z d q.1 q.2 := fun _ h => absurd h List.not_mem_nil
theorem okE_cons {Z : Zt} {d : Nat} {k : Nat} {e : Ent} {C : List (Nat × Ent)} (h : okE Z d k e) (hC : ∀ q ∈ C, okE Z d q.1 q.2) : ∀ q ∈ (k, e) :: C, okE Z d q.1 q.2 := List.forall_mem_cons.mpr ⟨h, hC⟩
/-! the memory's numbers changed as a whole -/
def mW (M : Mem) (f : Nat → Nat → Int32) : Mem := (M.1, f, M.2.2.1, M.2.2.2)
theorem mR_stI (M : Mem) (a k : Nat) (v : Int32) : mR (stI M a k v) = mR M := rfl
theorem mN_stI (M : Mem) (a k : Nat) (v : Int32) : mN (stI M a k v) = mN M := rfl
theorem isO_stI (M : Mem) (a k : Nat) (v : Int32) : isO (stI M a k v) = isO M := rfl
theorem isA_stI (M : Mem) (a k : Nat) (v : Int32) : isA (stI M a k v) = isA M := rfl
theorem mI_stI (M : Mem) (a k : Nat) (v : Int32) : mI (stI M a k v) = u2 (mI M) a k v := rfl
theorem mR_mW (M : Mem) (f : Nat → Nat → Int32) : mR (mW M f) = mR M := rfl
theorem mL_mW (M : Mem) (f : Nat → Nat → Int32) : mL (mW M f) = mL M := rfl
theorem mN_mW (M : Mem) (f : Nat → Nat → Int32) : mN (mW M f) = mN M := rfl
theorem isO_mW (M : Mem) (f : Nat → Nat → Int32) : isO (mW M f) = isO M := rfl
theorem isA_mW (M : Mem) (f : Nat → Nat → Int32) : isA (mW M f) = isA M := rfl
theorem mI_mW (M : Mem) (f : Nat → Nat → Int32) : mI (mW M f) = f := rfl
theorem mW_mW (M : Mem) (f g : Nat → Nat → Int32) : mW (mW M f) g = mW M g := rfl
theorem stI_mW (M : Mem) (a k : Nat) (v : Int32) : stI M a k v = mW M (u2 (mI M) a k v) := rfl
theorem mW_self (M : Mem) : mW M (mI M) = M := rfl
theorem cpI_mW (M : Mem) (a sp b dp n : Nat) : cpI M a sp b dp n = mW M (fun x y => if x = b ∧ dp ≤ y ∧ y < dp + n then mI M a (sp + (y - dp)) else mI M x y) := rfl
theorem u2_at {α : Type} (f : Nat → Nat → α) (a k : Nat) (v : α) (x y : Nat) : u2 f a k v x y = if x = a ∧ y = k then v else f x y := rfl
theorem u2_ne {α : Type} {f : Nat → Nat → α} {a k : Nat} {v : α} {x y : Nat} (h : x ≠ a) : u2 f a k v x y = f x y := by unfold u2; rw [if_neg (fun q => h q.1)]
theorem u2_ne2 {α : Type} {f : Nat → Nat → α} {a k : Nat} {v : α} {x y : Nat} (h : y ≠ k) : u2 f a k v x y = f x y := by unfold u2; rw [if_neg (fun q => h q.2)]
theorem u2_eq {α : Type} {f : Nat → Nat → α} {a k : Nat} {v : α} : u2 f a k v a k = v := by unfold u2; rw [if_pos ⟨rfl, rfl⟩]
/-! small numbers -/
theorem nI_L (n : Nat) : (OfNat.ofNat n : Int32) = nI n := rfl
theorem nI_addL (a n : Nat) : nI a + (no_index (OfNat.ofNat n : Int32)) = nI (a + (OfNat.ofNat n : Nat)) := nI_add a n
theorem nI_Ladd (a n : Nat) : (no_index (OfNat.ofNat n : Int32)) + nI a = nI ((OfNat.ofNat n : Nat) + a) := nI_add n a
theorem nI_mulL (a n : Nat) : nI a * (no_index (OfNat.ofNat n : Int32)) = nI (a * (OfNat.ofNat n : Nat)) := pk_mul a n
theorem nI_Lmul (a n : Nat) : (no_index (OfNat.ofNat n : Int32)) * nI a = nI ((OfNat.ofNat n : Nat) * a) := pk_mul n a
theorem nI_subL {a n : Nat} (h : (OfNat.ofNat n : Nat) ≤ a) : nI a - (no_index (OfNat.ofNat n : Int32)) = nI (a - (OfNat.ofNat n : Nat)) := pk_sub h
theorem nI_ltL {a n : Nat} (ha : a < 2 ^ 31) (hn : (OfNat.ofNat n : Nat) < 2 ^ 31) : (nI a < (no_index (OfNat.ofNat n : Int32))) = (a < (OfNat.ofNat n : Nat)) := propext (nI_ltI ha hn)
theorem nI_leL {a n : Nat} (ha : a < 2 ^ 31) (hn : (OfNat.ofNat n : Nat) < 2 ^ 31) : (nI a ≤ (no_index (OfNat.ofNat n : Int32))) = (a ≤ (OfNat.ofNat n : Nat)) := propext (nI_leI ha hn)
theorem nI_Llt {a n : Nat} (ha : a < 2 ^ 31) (hn : (OfNat.ofNat n : Nat) < 2 ^ 31) : ((no_index (OfNat.ofNat n : Int32)) < nI a) = ((OfNat.ofNat n : Nat) < a) := propext (nI_ltI hn ha)
theorem nI_Lle {a n : Nat} (ha : a < 2 ^ 31) (hn : (OfNat.ofNat n : Nat) < 2 ^ 31) : ((no_index (OfNat.ofNat n : Int32)) ≤ nI a) = ((OfNat.ofNat n : Nat) ≤ a) := propext (nI_leI hn ha)
theorem nI_eqL {a n : Nat} (ha : a < 2 ^ 31) (hn : (OfNat.ofNat n : Nat) < 2 ^ 31) : (nI a = (no_index (OfNat.ofNat n : Int32))) = (a = (OfNat.ofNat n : Nat)) := propext (nI_eq ha hn)
theorem nI_Leq {a n : Nat} (ha : a < 2 ^ 31) (hn : (OfNat.ofNat n : Nat) < 2 ^ 31) : ((no_index (OfNat.ofNat n : Int32)) = nI a) = ((OfNat.ofNat n : Nat) = a) := propext (nI_eq hn ha)
theorem vpi {k N : Nat} (h : k < N) (hN : N < 2 ^ 31) : vp_in (nI k) N = True := eq_true (vp_in_nI h hN)
theorem nI_toN {k : Nat} (h : k < 2 ^ 31) : (nI k).toNatClampNeg = k := nI_clamp h
theorem litN (n : Nat) (h : (OfNat.ofNat n : Nat) < 2 ^ 31) : ((no_index (OfNat.ofNat n : Int32))).toNatClampNeg = (OfNat.ofNat n : Nat) := nI_clamp h
theorem fa_lt' (a b : Int32) : (a < b) = (a.toInt < b.toInt) := propext Int32.lt_iff_toInt_lt
theorem fa_le' (a b : Int32) : (a ≤ b) = (a.toInt ≤ b.toInt) := propext Int32.le_iff_toInt_le
theorem fa_eq' (a b : Int32) : (a = b) = (a.toInt = b.toInt) := propext Int32.toInt_inj.symm
theorem nI_neg1 {k : Nat} (h : k < 2 ^ 31) : (nI k < -1) = False := by
  apply eq_false
  rw [fa_lt', nI_toInt h]
  have : (-1 : Int32).toInt = -1 := by decide
  omega
