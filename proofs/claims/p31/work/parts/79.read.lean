section Rd
variable {f g : Nat → Nat → Int32}
theorem mk_B : ∀ w, w < 16 → ∀ r, r < 4 → snB (nI w) r = if w.testBit r then 1 else 0 := by decide +kernel
theorem mk_O : ∀ w, w < 16 → ∀ r, r < 4 → snO (nI w) r = nI (w ||| 1 <<< r) ∧ (w ||| 1 <<< r) < 16 ∧ (∀ q, q < 4 → (w ||| 1 <<< r).testBit q = (w.testBit q || decide (q = r))) := by decide +kernel
def UE (u rd : Nat → Int32) (w : Nat) : Prop := (∀ r, r < 4 → u r = rd r) ∧ (∀ r, r < 4 → w.testBit r = false → rd r = 0) ∧ ∀ r, r < 4 → 0 ≤ (rd r).toInt ∧ (rd r).toInt ≤ 99
end Rd
