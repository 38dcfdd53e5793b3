/-! copying a ledger: place after place -/
def lenJ (i : Nat) : Nat := (ledK.getD i (0, 0)).2
def lm (i y : Nat) : Prop := (i = 0 ∧ 12 ≤ y ∧ y < 18) ∨ ((i = 10 ∨ i = 12) ∧ y = 2) ∨ (i ≠ 0 ∧ i ≠ 10 ∧ i ≠ 12 ∧ y < lenJ i)
def pos (i y : Nat) : Nat := if i = 0 then y + 3 else i
noncomputable def cfT (f : Nat → Nat → Int32) (b o s : Nat) : Nat → Nat → Int32 := fun x y => @ite _ (b ≤ x ∧ x < b + 15 ∧ lm (x - b) y ∧ pos (x - b) y ≤ s) (Classical.propDecidable _) (f (o + (x - b)) y) (f x y)
noncomputable def cfF (f : Nat → Nat → Int32) (b o : Nat) : Nat → Nat → Int32 := cfT f b o 20
theorem cfT_in {f : Nat → Nat → Int32} {b o s i y : Nat} (hi : i < 15) (h : lm i y) (hp : pos i y ≤ s) : cfT f b o s (b + i) y = f (o + i) y := by
  unfold cfT
  rw [Nat.add_sub_cancel_left, if_pos ⟨by omega, by omega, h, hp⟩]
theorem cfT_no {f : Nat → Nat → Int32} {b o s i y : Nat} (h : ¬ (lm i y ∧ pos i y ≤ s)) : cfT f b o s (b + i) y = f (b + i) y := by
  unfold cfT
  rw [Nat.add_sub_cancel_left, if_neg (fun q => h q.2.2)]
theorem cfT_out {f : Nat → Nat → Int32} {b o s x y : Nat} (h : x < b ∨ b + 15 ≤ x) : cfT f b o s x y = f x y := by
  unfold cfT
  rw [if_neg (fun q => by omega)]
theorem cfT_o {f : Nat → Nat → Int32} {b o s i y : Nat} (hd : o + 15 ≤ b ∨ b + 15 ≤ o) (hi : i < 15) : cfT f b o s (o + i) y = f (o + i) y := cfT_out (by omega)
theorem cfT_0 (f : Nat → Nat → Int32) (b o : Nat) : cfT f b o 0 = f := by
  funext x y
  unfold cfT
  rw [if_neg (fun q => by have := q.2.2; unfold pos lm at this; split at this <;> omega)]
theorem cf_ext {g h : Nat → Nat → Int32} {b : Nat} (h1 : ∀ i y, i < 15 → g (b + i) y = h (b + i) y) (h2 : ∀ x y, x < b ∨ b + 15 ≤ x → g x y = h x y) : g = h := by
  funext x y
  by_cases q : x < b ∨ b + 15 ≤ x
  · exact h2 x y q
  · have := h1 (x - b) y (by omega)
    rw [show b + (x - b) = x by omega] at this
    exact this
theorem cpA_hit {f : Nat → Nat → Int32} {a b n y : Nat} (h : y < n) : cpA f a b n b y = f a y := by
  unfold cpA
  rw [if_pos ⟨rfl, h⟩]
theorem cpA_ne {f : Nat → Nat → Int32} {a b n x y : Nat} (h : ¬ (x = b ∧ y < n)) : cpA f a b n x y = f x y := by
  unfold cpA
  rw [if_neg h]
theorem cpA_T {f : Nat → Nat → Int32} {b o j s : Nat} (hd : o + 15 ≤ b ∨ b + 15 ≤ o) (hj : 0 < j) (hj2 : j < 15) (h10 : j ≠ 10) (h12 : j ≠ 12) (hs : s + 1 = j) : cpA (cfT f b o s) (o + j) (b + j) (lenJ j) = cfT f b o j := by
  apply cf_ext (b := b)
  · intro i y hi
    by_cases hq : i = j ∧ y < lenJ j
    · obtain ⟨rfl, hy⟩ := hq
      rw [cpA_hit hy, cfT_o hd hj2, cfT_in hi (Or.inr (Or.inr ⟨by omega, h10, h12, hy⟩)) (by unfold pos; rw [if_neg (by omega)]; exact Nat.le_refl _)]
    · rw [cpA_ne (fun q => hq ⟨by omega, q.2⟩)]
      by_cases hm : lm i y ∧ pos i y ≤ s
      · rw [cfT_in hi hm.1 hm.2, cfT_in hi hm.1 (by omega)]
      · rw [cfT_no hm, cfT_no]
        rintro ⟨h1, h2⟩
        have h3 : pos i y = j := by
          have : ¬ pos i y ≤ s := fun q => hm ⟨h1, q⟩
          omega
        unfold pos at h3
        split at h3
        · next hz =>
          unfold lm at h1
          omega
        · subst h3
          rcases h1 with h1 | h1 | h1
          · omega
          · omega
          · exact hq ⟨rfl, h1.2.2.2⟩
  · intro x y hx
    rw [cpA_ne (fun q => by omega), cfT_out hx, cfT_out hx]
theorem crF_T {f : Nat → Nat → Int32} {b o j s n : Nat} (hd : o + 15 ≤ b ∨ b + 15 ≤ o) (hj : j = 10 ∨ j = 12) (hs : s + 1 = j) (hn : n = lenJ (j + 1)) : crF (cfT f b o s) (b + j) (o + j) n = cfT f b o (j + 1) := by
  subst hn
  unfold crF
  rw [Nat.add_assoc o j 1, Nat.add_assoc b j 1]
  apply cf_ext (b := b)
  · intro i y hi
    by_cases hq : i = j ∧ y = 2
    · obtain ⟨rfl, rfl⟩ := hq
      rw [u2_eq, cfT_o hd hi, cfT_in hi (Or.inr (Or.inl ⟨hj, rfl⟩)) (by unfold pos; split <;> omega)]
    · rw [u2_o (fun q => hq ⟨by omega, q.2⟩)]
      by_cases hq2 : i = j + 1 ∧ y < lenJ (j + 1)
      · obtain ⟨rfl, hy⟩ := hq2
        rw [cpA_hit hy, cfT_o hd hi, cfT_in hi (Or.inr (Or.inr ⟨by omega, by omega, by omega, hy⟩)) (by unfold pos; rw [if_neg (by omega)]; exact Nat.le_refl _)]
      · rw [cpA_ne (fun q => hq2 ⟨by omega, q.2⟩)]
        by_cases hm : lm i y ∧ pos i y ≤ s
        · rw [cfT_in hi hm.1 hm.2, cfT_in hi hm.1 (by omega)]
        · rw [cfT_no hm, cfT_no]
          rintro ⟨h1, h2⟩
          have h3 : pos i y = j ∨ pos i y = j + 1 := by
            have : ¬ pos i y ≤ s := fun q => hm ⟨h1, q⟩
            omega
          unfold pos at h3
          split at h3
          · next hz =>
            unfold lm at h1
            omega
          · rcases h3 with h3 | h3
            · subst h3
              rcases h1 with h1 | h1 | h1
              · omega
              · exact hq ⟨rfl, h1.2⟩
              · omega
            · subst h3
              rcases h1 with h1 | h1 | h1
              · omega
              · omega
              · exact hq2 ⟨rfl, h1.2.2.2⟩
  · intro x y hx
    rw [u2_o (fun q => by omega), cpA_ne (fun q => by omega), cfT_out hx, cfT_out hx]
theorem u2_T {f : Nat → Nat → Int32} {b o k s : Nat} (hd : o + 15 ≤ b ∨ b + 15 ≤ o) (hk : 12 ≤ k) (hk2 : k < 18) (hs : s + 1 = k + 3) : u2 (cfT f b o s) b k (f o k) = cfT f b o (k + 3) := by
  apply cf_ext (b := b)
  · intro i y hi
    by_cases hq : i = 0 ∧ y = k
    · obtain ⟨rfl, rfl⟩ := hq
      rw [Nat.add_zero, u2_eq]
      have := cfT_in (f := f) (b := b) (o := o) (s := y + 3) (i := 0) (y := y) (by omega) (Or.inl ⟨rfl, hk, hk2⟩) (by unfold pos; rw [if_pos rfl]; exact Nat.le_refl _)
      rw [Nat.add_zero, Nat.add_zero] at this
      exact this.symm
    · rw [u2_o (fun q => hq ⟨by omega, q.2⟩)]
      by_cases hm : lm i y ∧ pos i y ≤ s
      · rw [cfT_in hi hm.1 hm.2, cfT_in hi hm.1 (by omega)]
      · rw [cfT_no hm, cfT_no]
        rintro ⟨h1, h2⟩
        have h3 : pos i y = k + 3 := by
          have : ¬ pos i y ≤ s := fun q => hm ⟨h1, q⟩
          omega
        unfold pos at h3
        split at h3
        · next hz => exact hq ⟨hz, by omega⟩
        · omega
  · intro x y hx
    rw [u2_o (fun q => by omega), cfT_out hx, cfT_out hx]
theorem cfT_b {f : Nat → Nat → Int32} {b o s k : Nat} (h : s < k + 3) : cfT f b o s b k = f b k := by
  have := cfT_no (f := f) (b := b) (o := o) (s := s) (i := 0) (y := k) (fun q => by have := q.2; unfold pos at this; rw [if_pos rfl] at this; omega)
  rw [Nat.add_zero] at this
  exact this
theorem cfT_ob {f : Nat → Nat → Int32} {b o s k : Nat} (hd : o + 15 ≤ b ∨ b + 15 ≤ o) : cfT f b o s o k = f o k := cfT_out (by omega)
/-- before the claims come, the sizes are still the old ones -/
theorem cfT_D {f : Nat → Nat → Int32} {b o s : Nat} (h : LedD f b) (h2 : LedD f o) (hs : s = 9 ∨ s = 11) : LedD (cfT f b o s) b := by
  have a1 : cfT f b o s (b + 12) 2 = f (b + 12) 2 := cfT_no (fun q => by have := q.2; unfold pos at this; rw [if_neg (by omega)] at this; omega)
  rcases hs with rfl | rfl
  · exact LedD_congr h (cfT_b (by omega)) (cfT_b (by omega)) (cfT_no (fun q => by have := q.2; unfold pos at this; rw [if_neg (by omega)] at this; omega)) a1
  · have a2 : cfT f b o 11 (b + 10) 2 = f (o + 10) 2 := cfT_in (by omega) (Or.inr (Or.inl ⟨Or.inl rfl, rfl⟩)) (by unfold pos; rw [if_neg (by omega)]; omega)
    exact LedD_gr h (cfT_b (by omega)) (cfT_b (by omega)) (s := csz f (o + 10)) (by rw [a2]; exact h2.1) h2.2.1 a1
theorem cfT_Do {f : Nat → Nat → Int32} {b o s : Nat} (hd : o + 15 ≤ b ∨ b + 15 ≤ o) (h2 : LedD f o) : LedD (cfT f b o s) o := LedD_congr h2 (cfT_ob hd) (cfT_ob hd) (cfT_o hd (by omega)) (cfT_o hd (by omega))
theorem cfF_D {f : Nat → Nat → Int32} {b o : Nat} (h2 : LedD f o) : LedD (cfF f b o) b := by
  have a1 : cfF f b o (b + 12) 2 = f (o + 12) 2 := cfT_in (by omega) (Or.inr (Or.inl ⟨Or.inr rfl, rfl⟩)) (by unfold pos; rw [if_neg (by omega)]; omega)
  have a2 : cfF f b o (b + 10) 2 = f (o + 10) 2 := cfT_in (by omega) (Or.inr (Or.inl ⟨Or.inl rfl, rfl⟩)) (by unfold pos; rw [if_neg (by omega)]; omega)
  have a3 : ∀ k, 12 ≤ k → k < 18 → cfF f b o b k = f o k := by
    intro k h1 h2
    have := cfT_in (f := f) (b := b) (o := o) (s := 20) (i := 0) (y := k) (by omega) (Or.inl ⟨rfl, h1, h2⟩) (by unfold pos; rw [if_pos rfl]; omega)
    rw [Nat.add_zero, Nat.add_zero] at this
    exact this
  have a4 := a3 12 (by omega) (by omega)
  have a5 := a3 13 (by omega) (by omega)
  unfold LedD lnT lnB csz at *
  rw [a1, a2, a4, a5]
  exact h2
theorem pcc1 {M : Mem} {b o : Nat} {K : Option Value → Mem → Prop} (h : LedS M b) (h2 : LedS M o) : pcall e_B_copy [.ref (o + 1), .ref (b + 1)] M K = K none (mW M (cpA (mI M) (o + 1) (b + 1) 4)) := by
  have := pc_B_copy (K := K) (a := o + 1) (b := b + 1) (M := M) ⟨of_eq_true (ld_l1 h2), of_eq_true (ld_l1 h), by rw [ld_k1 h2], by rw [ld_k1 h, ld_k1 h2], by rw [ld_k1 h2]; decide⟩
  rw [ld_k1 h2] at this
  exact this
theorem pcc2 {M : Mem} {b o : Nat} {K : Option Value → Mem → Prop} (h : LedS M b) (h2 : LedS M o) : pcall e_B_copy [.ref (o + 2), .ref (b + 2)] M K = K none (mW M (cpA (mI M) (o + 2) (b + 2) 4)) := by
  have := pc_B_copy (K := K) (a := o + 2) (b := b + 2) (M := M) ⟨of_eq_true (ld_l2 h2), of_eq_true (ld_l2 h), by rw [ld_k2 h2], by rw [ld_k2 h, ld_k2 h2], by rw [ld_k2 h2]; decide⟩
  rw [ld_k2 h2] at this
  exact this
theorem pcc3 {M : Mem} {b o : Nat} {K : Option Value → Mem → Prop} (h : LedS M b) (h2 : LedS M o) : pcall e_B_copy [.ref (o + 3), .ref (b + 3)] M K = K none (mW M (cpA (mI M) (o + 3) (b + 3) 4)) := by
  have := pc_B_copy (K := K) (a := o + 3) (b := b + 3) (M := M) ⟨of_eq_true (ld_l3 h2), of_eq_true (ld_l3 h), by rw [ld_k3 h2], by rw [ld_k3 h, ld_k3 h2], by rw [ld_k3 h2]; decide⟩
  rw [ld_k3 h2] at this
  exact this
theorem pcc4 {M : Mem} {b o : Nat} {K : Option Value → Mem → Prop} (h : LedS M b) (h2 : LedS M o) : pcall e_B_copy [.ref (o + 4), .ref (b + 4)] M K = K none (mW M (cpA (mI M) (o + 4) (b + 4) 6)) := by
  have := pc_B_copy (K := K) (a := o + 4) (b := b + 4) (M := M) ⟨of_eq_true (ld_l4 h2), of_eq_true (ld_l4 h), by rw [ld_k4 h2], by rw [ld_k4 h, ld_k4 h2], by rw [ld_k4 h2]; decide⟩
  rw [ld_k4 h2] at this
  exact this
theorem pcc5 {M : Mem} {b o : Nat} {K : Option Value → Mem → Prop} (h : LedS M b) (h2 : LedS M o) : pcall e_B_copy [.ref (o + 5), .ref (b + 5)] M K = K none (mW M (cpA (mI M) (o + 5) (b + 5) 6)) := by
  have := pc_B_copy (K := K) (a := o + 5) (b := b + 5) (M := M) ⟨of_eq_true (ld_l5 h2), of_eq_true (ld_l5 h), by rw [ld_k5 h2], by rw [ld_k5 h, ld_k5 h2], by rw [ld_k5 h2]; decide⟩
  rw [ld_k5 h2] at this
  exact this
theorem pcc6 {M : Mem} {b o : Nat} {K : Option Value → Mem → Prop} (h : LedS M b) (h2 : LedS M o) : pcall e_B_copy [.ref (o + 6), .ref (b + 6)] M K = K none (mW M (cpA (mI M) (o + 6) (b + 6) 6)) := by
  have := pc_B_copy (K := K) (a := o + 6) (b := b + 6) (M := M) ⟨of_eq_true (ld_l6 h2), of_eq_true (ld_l6 h), by rw [ld_k6 h2], by rw [ld_k6 h, ld_k6 h2], by rw [ld_k6 h2]; decide⟩
  rw [ld_k6 h2] at this
  exact this
theorem pcc7 {M : Mem} {b o : Nat} {K : Option Value → Mem → Prop} (h : LedS M b) (h2 : LedS M o) : pcall e_B_copy [.ref (o + 7), .ref (b + 7)] M K = K none (mW M (cpA (mI M) (o + 7) (b + 7) 24)) := by
  have := pc_B_copy (K := K) (a := o + 7) (b := b + 7) (M := M) ⟨of_eq_true (ld_l7 h2), of_eq_true (ld_l7 h), by rw [ld_k7 h2], by rw [ld_k7 h, ld_k7 h2], by rw [ld_k7 h2]; decide⟩
  rw [ld_k7 h2] at this
  exact this
theorem pcc8 {M : Mem} {b o : Nat} {K : Option Value → Mem → Prop} (h : LedS M b) (h2 : LedS M o) : pcall e_B_copy [.ref (o + 8), .ref (b + 8)] M K = K none (mW M (cpA (mI M) (o + 8) (b + 8) 24)) := by
  have := pc_B_copy (K := K) (a := o + 8) (b := b + 8) (M := M) ⟨of_eq_true (ld_l8 h2), of_eq_true (ld_l8 h), by rw [ld_k8 h2], by rw [ld_k8 h, ld_k8 h2], by rw [ld_k8 h2]; decide⟩
  rw [ld_k8 h2] at this
  exact this
theorem pcc9 {M : Mem} {b o : Nat} {K : Option Value → Mem → Prop} (h : LedS M b) (h2 : LedS M o) : pcall e_B_copy [.ref (o + 9), .ref (b + 9)] M K = K none (mW M (cpA (mI M) (o + 9) (b + 9) 24)) := by
  have := pc_B_copy (K := K) (a := o + 9) (b := b + 9) (M := M) ⟨of_eq_true (ld_l9 h2), of_eq_true (ld_l9 h), by rw [ld_k9 h2], by rw [ld_k9 h, ld_k9 h2], by rw [ld_k9 h2]; decide⟩
  rw [ld_k9 h2] at this
  exact this
theorem pcc14 {M : Mem} {b o : Nat} {K : Option Value → Mem → Prop} (h : LedS M b) (h2 : LedS M o) : pcall e_B_copy [.ref (o + 14), .ref (b + 14)] M K = K none (mW M (cpA (mI M) (o + 14) (b + 14) 6)) := by
  have := pc_B_copy (K := K) (a := o + 14) (b := b + 14) (M := M) ⟨of_eq_true (ld_l14 h2), of_eq_true (ld_l14 h), by rw [ld_k14 h2], by rw [ld_k14 h, ld_k14 h2], by rw [ld_k14 h2]; decide⟩
  rw [ld_k14 h2] at this
  exact this
def e_L_copyFrom : Ent := (fun av M => ∃ (b : Nat) (o : Nat), av = [.ref b, .ref o] ∧ (LedOk M b ∧ LedOk M o ∧ (o + 15 ≤ b ∨ b + 15 ≤ o)), fun av M r_ M_ => ∀ (b : Nat) (o : Nat), av = [.ref b, .ref o] → r_ = (none) ∧ M_ = (mW M (cfF (mI M) b o)))
theorem pc_L_copyFrom {b : Nat} {o : Nat} {M : Mem} {K : Option Value → Mem → Prop} (hp : LedOk M b ∧ LedOk M o ∧ (o + 15 ≤ b ∨ b + 15 ≤ o)) : pcall e_L_copyFrom [.ref b, .ref o] M K = K (none) (mW M (cfF (mI M) b o)) := propext ⟨fun h => h.2 _ _ (fun b' o' e => by simp only [List.cons.injEq, Value.ref.injEq, Value.int.injEq, Value.long.injEq, and_true] at e; obtain ⟨q0, q1⟩ := e; obtain rfl := q0; obtain rfl := q1; exact ⟨rfl, rfl⟩), fun h => ⟨⟨b, o, rfl, hp⟩, fun r_ M_ q => by obtain ⟨rfl, rfl⟩ := q _ _ rfl; exact h⟩⟩
theorem mk_L_copyFrom {Z : Zt} {d : Nat} (h : ∀ (b : Nat) (o : Nat) (M : Mem), (LedOk M b ∧ LedOk M o ∧ (o + 15 ≤ b ∨ b + 15 ≤ o)) → Gm Z d s_L_copyFrom [.ref b, .ref o] M (ex (none) (mW M (cfF (mI M) b o)))) : okE Z d i_L_copyFrom e_L_copyFrom := by
  rintro av M ⟨b, o, rfl, hp⟩
  exact Gm.cons (h b o M  hp) (fun r_ M_ q b' o' e => by simp only [List.cons.injEq, Value.ref.injEq, Value.int.injEq, Value.long.injEq, and_true] at e; obtain ⟨q0, q1⟩ := e; obtain rfl := q0; obtain rfl := q1; exact q)
set_option maxRecDepth 100000 in
set_option maxHeartbeats 4000000 in
theorem ok_L_copyFrom (Z : Zt) (d : Nat) : okE Z (d + 3) i_L_copyFrom e_L_copyFrom := mk_L_copyFrom fun b o M hp => by
  obtain ⟨hpb, hpo, hd⟩ := hp
  have hL := hpb.1
  have hO := hpo.1
  have c1 : cpA (mI M) (o + 1) (b + 1) 4 = cfT (mI M) b o 1 := by
    have := cpA_T (f := mI M) (j := 1) (s := 0) hd (by omega) (by omega) (by omega) (by omega) rfl
    rw [cfT_0] at this
    exact this
  have c2 : cpA (cfT (mI M) b o 1) (o + 2) (b + 2) 4 = cfT (mI M) b o 2 := cpA_T (j := 2) (s := 1) hd (by omega) (by omega) (by omega) (by omega) rfl
  have c3 : cpA (cfT (mI M) b o 2) (o + 3) (b + 3) 4 = cfT (mI M) b o 3 := cpA_T (j := 3) (s := 2) hd (by omega) (by omega) (by omega) (by omega) rfl
  have c4 : cpA (cfT (mI M) b o 3) (o + 4) (b + 4) 6 = cfT (mI M) b o 4 := cpA_T (j := 4) (s := 3) hd (by omega) (by omega) (by omega) (by omega) rfl
  have c5 : cpA (cfT (mI M) b o 4) (o + 5) (b + 5) 6 = cfT (mI M) b o 5 := cpA_T (j := 5) (s := 4) hd (by omega) (by omega) (by omega) (by omega) rfl
  have c6 : cpA (cfT (mI M) b o 5) (o + 6) (b + 6) 6 = cfT (mI M) b o 6 := cpA_T (j := 6) (s := 5) hd (by omega) (by omega) (by omega) (by omega) rfl
  have c7 : cpA (cfT (mI M) b o 6) (o + 7) (b + 7) 24 = cfT (mI M) b o 7 := cpA_T (j := 7) (s := 6) hd (by omega) (by omega) (by omega) (by omega) rfl
  have c8 : cpA (cfT (mI M) b o 7) (o + 8) (b + 8) 24 = cfT (mI M) b o 8 := cpA_T (j := 8) (s := 7) hd (by omega) (by omega) (by omega) (by omega) rfl
  have c9 : cpA (cfT (mI M) b o 8) (o + 9) (b + 9) 24 = cfT (mI M) b o 9 := cpA_T (j := 9) (s := 8) hd (by omega) (by omega) (by omega) (by omega) rfl
  have c14 : cpA (cfT (mI M) b o 13) (o + 14) (b + 14) 6 = cfT (mI M) b o 14 := cpA_T (j := 14) (s := 13) hd (by omega) (by omega) (by omega) (by omega) rfl
  have c10 : crF (cfT (mI M) b o 9) (b + 10) (o + 10) (ccap (b + 10) * 6) = cfT (mI M) b o 11 := crF_T (j := 10) (s := 9) hd (Or.inl rfl) rfl (by rw [ccap_g hL]; rfl)
  have c12 : crF (cfT (mI M) b o 11) (b + 12) (o + 12) (ccap (b + 12) * 6) = cfT (mI M) b o 13 := crF_T (j := 12) (s := 11) hd (Or.inr rfl) rfl (by rw [ccap_d hL]; rfl)
  have g10 : ClOk (mW M (cfT (mI M) b o 9)) (b + 10) ∧ ClOk (mW M (cfT (mI M) b o 9)) (o + 10) ∧ ccap (b + 10) = ccap (o + 10) := ⟨ld_cg (M := mW M (cfT (mI M) b o 9)) hL (cfT_D hpb.2 hpo.2 (Or.inl rfl)), ld_cg (M := mW M (cfT (mI M) b o 9)) hO (cfT_Do hd hpo.2), by rw [ccap_g hL, ccap_g hO]⟩
  have g12 : ClOk (mW M (cfT (mI M) b o 11)) (b + 12) ∧ ClOk (mW M (cfT (mI M) b o 11)) (o + 12) ∧ ccap (b + 12) = ccap (o + 12) := ⟨ld_cd (M := mW M (cfT (mI M) b o 11)) hL (cfT_D hpb.2 hpo.2 (Or.inr rfl)), ld_cd (M := mW M (cfT (mI M) b o 11)) hO (cfT_Do hd hpo.2), by rw [ccap_d hL, ccap_d hO]⟩
  have r : ∀ s k, cfT (mI M) b o s o k = mI M o k := fun s k => cfT_ob hd
  have u12 : u2 (cfT (mI M) b o 14) b 12 (mI M o 12) = cfT (mI M) b o 15 := u2_T (k := 12) hd (by omega) (by omega) rfl
  have u13 : u2 (cfT (mI M) b o 15) b 13 (mI M o 13) = cfT (mI M) b o 16 := u2_T (k := 13) hd (by omega) (by omega) rfl
  have u14 : u2 (cfT (mI M) b o 16) b 14 (mI M o 14) = cfT (mI M) b o 17 := u2_T (k := 14) hd (by omega) (by omega) rfl
  have u15 : u2 (cfT (mI M) b o 17) b 15 (mI M o 15) = cfT (mI M) b o 18 := u2_T (k := 15) hd (by omega) (by omega) rfl
  have u16 : u2 (cfT (mI M) b o 18) b 16 (mI M o 16) = cfT (mI M) b o 19 := u2_T (k := 16) hd (by omega) (by omega) rfl
  have u17 : u2 (cfT (mI M) b o 19) b 17 (mI M o 17) = cfT (mI M) b o 20 := u2_T (k := 17) hd (by omega) (by omega) rfl
  have hL2 : ∀ f, LedS (mW M f) b := fun f => hL
  have hO2 : ∀ f, LedS (mW M f) o := fun f => hO
  refine Gm_run (C := [(i_B_copy, e_B_copy), (i_C_copyRows, e_C_copyRows)]) (S := []) [some (.ref b), some (.ref o)] 200 k_L_copyFrom (okE_cons (ok_B_copy Z (d + 1)) (okE_cons (ok_C_copyRows Z d) okE_nil)) (ex_n rfl) ?_
  simp (disch := first | exact hL | exact hO | exact hL2 _ | exact hO2 _ | trivial | omega) only [run, go, jmp, seek, inS, e0, e1, e2, e3, e4, e5, tsw, e7, e8, e9, e10, e11, e12, splitA, rcv, clook, lget, lset, lset2, lkill, Option.toList, List.nil_append, List.cons_append, wsum, List.map_cons, List.map_nil, List.sum_cons, List.sum_nil, Value.category, Nat.reduceAdd, List.getD_cons_zero, List.getD_cons_succ, ↓reduceIte, if_true, if_false, Bool.false_eq_true, Nat.reduceLeDiff, Nat.reduceEqDiff, true_or, or_true, true_and, and_true, and_self, or_self, not_true, not_false_iff, mR_stI, mN_stI, isO_stI, isA_stI, mI_stI, mR_mW, mN_mW, isO_mW, isA_mW, mI_mW, mW_mW, stI_mW, p_L_copyFrom, ld_o hL, ld_og hL, ld_od hL, ld_r0 hL, ld_r1 hL, ld_r2 hL, ld_r3 hL, ld_r4 hL, ld_r5 hL, ld_r6 hL, ld_r7 hL, ld_r8 hL, ld_r9 hL, ld_r10 hL, ld_r11 hL, ld_a1 hL, ld_a2 hL, ld_a3 hL, ld_a4 hL, ld_a5 hL, ld_a6 hL, ld_a7 hL, ld_a8 hL, ld_a9 hL, ld_a11 hL, ld_a13 hL, ld_a14 hL, ld_o hO, ld_og hO, ld_od hO, ld_r0 hO, ld_r1 hO, ld_r2 hO, ld_r3 hO, ld_r4 hO, ld_r5 hO, ld_r6 hO, ld_r7 hO, ld_r8 hO, ld_r9 hO, ld_r10 hO, ld_r11 hO, ld_a1 hO, ld_a2 hO, ld_a3 hO, ld_a4 hO, ld_a5 hO, ld_a6 hO, ld_a7 hO, ld_a8 hO, ld_a9 hO, ld_a11 hO, ld_a13 hO, ld_a14 hO, i_B_copy, i_C_copyRows, pcc1, pcc2, pcc3, pcc4, pcc5, pcc6, pcc7, pcc8, pcc9, pcc14, c1, c2, c3, c4, c5, c6, c7, c8, c9, c14, pc_C_copyRows g10, c10, pc_C_copyRows g12, c12, r, u12, u13, u14, u15, u16, u17]
  exact ⟨rfl, rfl⟩
