def exA (f : Nat → Nat → Int32) (a b : Nat) (n : Int32) : Int32 := convF n (prF f 20 a) (prF f 20 b)
def exV (f : Nat → Nat → Int32) (t a : Nat) : Int32 := minJ (f 27 (t * 4 + a) - f 29 (t * 4 + a)) (f 27 (t * 4 + a) - f 28 (t * 4 + a))
def exG (g : Nat → Nat → Int32) (t a b : Nat) (n m : Int32) : Nat → Nat → Int32 := afF (u2 (u2 (u2 g 27 (t * 4 + a) (g 27 (t * 4 + a) - n)) 27 (t * 4 + b) (g 27 (t * 4 + b) + m)) 22 b (g 22 b - m)) 20 a n
abbrev exC (f : Nat → Nat → Int32) (t a b n : Int32) : Prop := vT f t ∧ vR a ∧ vR b ∧ ¬ a = b ∧ 1 ≤ n ∧ n ≤ 999
abbrev exS (f : Nat → Nat → Int32) (t a b : Nat) (n : Int32) : Prop := isB f 20 (nI t) ∨ exV f t a < n ∨ exA f a b n = 0 ∨ ¬ exA f a b n ≤ f 22 b
def exQ (f : Nat → Nat → Int32) (t a b : Nat) (n : Int32) : Int32 := if exS f t a b n then -1000001 else if f 27 (t * 4 + b) + exA f a b n ≤ 9999 then exA f a b n else -1000002
noncomputable def exN (M : Mem) (t a b : Nat) (n : Int32) : Mem := if exS (mI M) t a b n ∨ ¬ mI M 27 (t * 4 + b) + exA (mI M) a b n ≤ 9999 then M else mW (kpM M) (exG (mI (kpM M)) t a b n (exA (mI M) a b n))
def exR (f : Nat → Nat → Int32) (t a b n : Int32) : Int32 := if exC f t a b n then exQ f t.toNatClampNeg a.toNatClampNeg b.toNatClampNeg n else -1000000
noncomputable def exM (M : Mem) (t a b n : Int32) : Mem := if exC (mI M) t a b n then exN M t.toNatClampNeg a.toNatClampNeg b.toNatClampNeg n else M
/-! borrowing -/
abbrev boC (f : Nat → Nat → Int32) (t r n : Int32) : Prop := vT f t ∧ vR r ∧ 1 ≤ n ∧ n ≤ 999
abbrev boS (f : Nat → Nat → Int32) (t r : Nat) (n : Int32) : Prop := isB f 20 (nI t) ∨ f 22 r < n ∨ ¬ lnP f 20 t 4 + n ≤ 10 * f 24 t
def boQ (f : Nat → Nat → Int32) (t r : Nat) (n : Int32) : Int32 := if boS f t r n then -1000001 else if f 27 (t * 4 + r) + n ≤ 9999 then f 28 (t * 4 + r) + n else -1000002
noncomputable def boN (M : Mem) (t r : Nat) (n : Int32) : Mem := if boS (mI M) t r n ∨ ¬ mI M 27 (t * 4 + r) + n ≤ 9999 then M else mW (kpM M) (u2 (u2 (u2 (mI (kpM M)) 22 r (mI (kpM M) 22 r - n)) 27 (t * 4 + r) (mI (kpM M) 27 (t * 4 + r) + n)) 28 (t * 4 + r) (mI (kpM M) 28 (t * 4 + r) + n))
def boR (f : Nat → Nat → Int32) (t r n : Int32) : Int32 := if boC f t r n then boQ f t.toNatClampNeg r.toNatClampNeg n else -1000000
noncomputable def boM (M : Mem) (t r n : Int32) : Mem := if boC (mI M) t r n then boN M t.toNatClampNeg r.toNatClampNeg n else M
abbrev rpS (f : Nat → Nat → Int32) (t r : Nat) (n : Int32) : Prop := f 28 (t * 4 + r) < n ∨ ¬ n ≤ f 27 (t * 4 + r) - f 29 (t * 4 + r)
def rpQ (f : Nat → Nat → Int32) (t r : Nat) (n : Int32) : Int32 := if rpS f t r n then -1000001 else f 28 (t * 4 + r) - n
noncomputable def rpN (M : Mem) (t r : Nat) (n : Int32) : Mem := if rpS (mI M) t r n then M else mW (kpM M) (gbF (mI (kpM M)) 20 t r n)
def rpR (f : Nat → Nat → Int32) (t r n : Int32) : Int32 := if boC f t r n then rpQ f t.toNatClampNeg r.toNatClampNeg n else -1000000
noncomputable def rpM (M : Mem) (t r n : Int32) : Mem := if boC (mI M) t r n then rpN M t.toNatClampNeg r.toNatClampNeg n else M