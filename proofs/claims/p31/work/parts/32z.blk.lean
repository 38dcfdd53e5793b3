/-! blocks: runs by rewriting rules (printed by blk.py), one a block -/
theorem X_runT {Z : Zt} {d : Nat} {sg : Sig} {n0 nF : Nat} {M : Mem} {Q : Option Value → Mem → Prop} {C : List (Nat × Ent)} {S : List Nat} {P r T : List PI} {x : Ins} {lv : List (Option Value)} {st : List Value} {pc : Nat} (f : Nat) (hP : okP sg P) (hC : ∀ q ∈ C, okE Z d q.1 q.2)
    (h : run Z nF C S (fun pc lv st M' => X Z (d + 1) sg n0 nF Q pc lv st M') Q f T lv st M) (hT : seek pc P = T := by rfl) (hx : T = (pc, x) :: r := by rfl) : X Z (d + 1) sg n0 nF Q pc lv st M := by
  subst hT
  exact X_run f hP hC h hx
theorem ite_nt {α : Sort _} {p : Prop} [Decidable p] [Decidable (¬ p)] (a b : α) : (if ¬ p then a else b) = if p then b else a := by
  by_cases h : p
  · rw [if_neg (fun q => q h), if_pos h]
  · rw [if_pos h, if_neg h]
theorem cat_2 (v : Value) : v.category ≤ 2 := by cases v <;> simp [Value.category]
theorem wsum_0 : (wsum [] ≤ 8) = True := eq_true (by simp [wsum])
theorem wsum_1 (a : Value) : (wsum [a] ≤ 8) = True := eq_true (by have := cat_2 a; simp [wsum]; omega)
theorem wsum_2 (a b : Value) : (wsum [a, b] ≤ 8) = True := eq_true (by have := cat_2 a; have := cat_2 b; simp [wsum]; omega)
theorem wsum_3 (a b c : Value) : (wsum [a, b, c] ≤ 8) = True := eq_true (by have := cat_2 a; have := cat_2 b; have := cat_2 c; simp [wsum]; omega)
theorem wsum_4 (a b c e : Value) : (wsum [a, b, c, e] ≤ 8) = True := eq_true (by have := cat_2 a; have := cat_2 b; have := cat_2 c; have := cat_2 e; simp [wsum]; omega)
