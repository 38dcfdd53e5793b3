/-! the model's words, as a row u of numbers -/
theorem fcnt_s (p : Nat → Prop) [DecidablePred p] (n : Nat) : fcnt p (n + 1) = if p n then fcnt p n + 1 else fcnt p n := rfl
theorem rw_rw (f : Nat → Nat → Int32) (a : Nat) (u w : Nat → Int32) : rwF (rwF f a u) a w = rwF f a w := by
  funext x y
  unfold rwF
  by_cases h : x = a
  · rw [if_pos h, if_pos h]
  · rw [if_neg h, if_neg h, if_neg h]
theorem rw_at (f : Nat → Nat → Int32) (a : Nat) (u : Nat → Int32) : rwF f a u a = u := by
  funext y
  unfold rwF
  rw [if_pos rfl]
theorem rw_ne {f : Nat → Nat → Int32} {a x : Nat} {u : Nat → Int32} (h : x ≠ a) : rwF f a u x = f x := by
  funext y
  unfold rwF
  rw [if_neg h]
theorem rw_sw {f : Nat → Nat → Int32} {a b : Nat} {u w : Nat → Int32} (h : b < a) : rwF (rwF f a u) b w = rwF (rwF f b w) a u := by
  funext x y
  unfold rwF
  by_cases h1 : x = a
  · rw [if_neg (show ¬ x = b by omega), if_pos h1, if_pos h1]
  · rw [if_neg h1, if_neg h1]
theorem rw_179_174 (f : Nat → Nat → Int32) (u w : Nat → Int32) : rwF (rwF f 179 u) 174 w = rwF (rwF f 174 w) 179 u := rw_sw (by omega)
theorem up_at (u : Nat → Int32) (k : Nat) (v : Int32) : upF u k v k = v := if_pos rfl
theorem up_ne {u : Nat → Int32} {k j : Nat} {v : Int32} (h : j ≠ k) : upF u k v j = u j := if_neg h
def uT (u : Nat → Int32) : Nat := (u 447).toNatClampNeg
def uG (u : Nat → Int32) : Nat := (u 448).toNatClampNeg
def uD (u : Nat → Int32) : Nat := (u 449).toNatClampNeg
def uB (u : Nat → Int32) : Nat := (u 450).toNatClampNeg
def MdD (u : Nat → Int32) : Prop := (u 447 = nI (uT u) ∧ uT u ≤ 6) ∧ (u 448 = nI (uG u) ∧ uG u ≤ 40) ∧ (u 449 = nI (uD u) ∧ uD u ≤ 24) ∧ (u 450 = nI (uB u) ∧ uB u ≤ 6)
def usT (u : Nat → Int32) (r : Nat) (t : Int32) (k : Nat) : Int32 := if t = -1000003 then u (80 + 6 * k + (1 + r)) else if u (80 + 6 * k + 5) = t then u (80 + 6 * k + (1 + r)) else nI 0
def usP (u : Nat → Int32) (r : Nat) (t : Int32) : Nat → Int32
  | 0 => nI 0
  | k + 1 => usP u r t k + usT u r t k
def usU (u : Nat → Int32) (r : Nat) (t : Int32) : Int32 := usP u r t (uG u)
def prU (u : Nat → Int32) (r : Nat) : Int32 := if u r = nI 0 then nI 10 else nI 1 + nI 9 * usU u r (-1000003) / u r
def dsS (u : Nat → Int32) (t r : Nat) : Int32 := if u r = nI 0 then nI 0 else nI 10000 * usU u r (nI t) / (u r * u (8 + 12 * t))
def dsU (u : Nat → Int32) (t : Nat) : Nat → Int32
  | 0 => nI 0
  | r + 1 => if dsS u t r ≤ dsU u t r then dsU u t r else dsS u t r
def DsOk (u : Nat → Int32) (t : Nat) : Prop := ∀ r, r < 4 → ¬ u r = nI 0 → ¬ u r * u (8 + 12 * t) = nI 0
def frU (u : Nat → Int32) (t r : Nat) : Int32 := u (8 + 12 * t + (4 + r)) - usU u r (nI t)
/-- the first place with a property; NONE -/
def fiU (p : Nat → Prop) [DecidablePred p] : Nat → Nat → Int32
  | 0, _ => -1000003
  | n + 1, i => if p i then nI i else fiU p n (i + 1)
def foU (u : Nat → Int32) (t : Int32) : Int32 := fiU (fun k => u (320 + 5 * k + 4) = t) (uD u) 0
def poU (u : Nat → Int32) (g : Int32) : Int32 := fiU (fun k => u (80 + 6 * k) = g) (uG u) 0
def qpU (u : Nat → Int32) (t : Int32) : Int32 := fiU (fun k => u (440 + k) = t) (uB u) 0
def smU (u : Nat → Int32) (r w : Nat) : Nat → Int32
  | 0 => nI 0
  | t + 1 => smU u r w t + u (8 + 12 * t + (w + r))
def loU (u : Nat → Int32) (t : Nat) : Nat → Int32
  | 0 => nI 0
  | r + 1 => loU u t r + u (8 + 12 * t + (8 + r))
def gcU (u : Nat → Int32) (t : Int32) (n : Nat) : Nat := fcnt (fun k => u (80 + 6 * k + 5) = t) n
def dcU (u : Nat → Int32) (t : Int32) (n : Nat) : Nat := fcnt (fun k => u (320 + 5 * k + 4) = t) n
def lsU (a b : Int32) : Int32 := if b ≤ a then b else a
def cfU (u : Nat → Int32) (r : Nat) (n : Int32) : Nat → Int32 := upF u (4 + r) (lsU (nI 999) (u (4 + r) + n))
theorem tN_of {v : Int32} {s : Nat} (h : v = nI s) (hs : s < 2 ^ 31) : v.toNatClampNeg = s := by rw [h, nI_clamp hs]
theorem MdD_cg {u w : Nat → Int32} (h : MdD u) (h1 : w 447 = u 447) (h2 : w 448 = u 448) (h3 : w 449 = u 449) (h4 : w 450 = u 450) : MdD w := by
  unfold MdD uT uG uD uB at *
  rw [h1, h2, h3, h4]
  exact h
theorem MdD_t {u w : Nat → Int32} {s : Nat} (h : MdD u) (h1 : w 447 = nI s) (hs : s ≤ 6) (h2 : w 448 = u 448) (h3 : w 449 = u 449) (h4 : w 450 = u 450) : MdD w := by
  have e : uT w = s := tN_of h1 (by omega)
  refine ⟨⟨by rw [e, h1], by rw [e]; exact hs⟩, ?_⟩
  have := h.2
  unfold uG uD uB at *
  rw [h2, h3, h4]
  exact this
theorem MdD_g {u w : Nat → Int32} {s : Nat} (h : MdD u) (h1 : w 447 = u 447) (h2 : w 448 = nI s) (hs : s ≤ 40) (h3 : w 449 = u 449) (h4 : w 450 = u 450) : MdD w := by
  have e : uG w = s := tN_of h2 (by omega)
  have a := h.1
  have b := h.2.2
  refine ⟨?_, ⟨by rw [e, h2], by rw [e]; exact hs⟩, ?_⟩
  · unfold uT at *
    rw [h1]
    exact a
  · unfold uD uB at *
    rw [h3, h4]
    exact b
theorem MdD_d {u w : Nat → Int32} {s : Nat} (h : MdD u) (h1 : w 447 = u 447) (h2 : w 448 = u 448) (h3 : w 449 = nI s) (hs : s ≤ 24) (h4 : w 450 = u 450) : MdD w := by
  have e : uD w = s := tN_of h3 (by omega)
  obtain ⟨a, b, -, c⟩ := h
  refine ⟨?_, ?_, ⟨by rw [e, h3], by rw [e]; exact hs⟩, ?_⟩
  · unfold uT at *
    rw [h1]
    exact a
  · unfold uG at *
    rw [h2]
    exact b
  · unfold uB at *
    rw [h4]
    exact c
def ldP (u : Nat → Int32) (k i : Nat) : Nat → Int32 := fun y => if y = 449 then nI (uD u - 1) else if 320 + 5 * k ≤ y ∧ y < i then u (y + 5) else u y
def ldU (u : Nat → Int32) (k : Nat) : Nat → Int32 := ldP u k (320 + 5 * (uD u - 1))
theorem ldP_c (u : Nat → Int32) (k i : Nat) : ldP u k i 449 = nI (uD u - 1) := if_pos rfl
def lgP (u : Nat → Int32) (k i : Nat) : Nat → Int32 := fun y => if y = 448 then nI (uG u - 1) else if 80 + 6 * k ≤ y ∧ y < i then u (y + 6) else u y
def lgU (u : Nat → Int32) (k : Nat) : Nat → Int32 := lgP u k (80 + 6 * (uG u - 1))
theorem lgP_c (u : Nat → Int32) (k i : Nat) : lgP u k i 448 = nI (uG u - 1) := if_pos rfl
theorem ldU_o {u : Nat → Int32} {k y : Nat} (h : y < 320 ∨ 440 ≤ y) (h2 : y ≠ 449) (hk : uD u ≤ 24) : ldU u k y = u y := by
  unfold ldU ldP
  rw [if_neg h2, if_neg (by omega)]
theorem ldU_D {u : Nat → Int32} {k : Nat} (h : MdD u) : MdD (ldU u k) := by
  have h24 := h.2.2.1.2
  exact MdD_d h (ldU_o (by omega) (by omega) h24) (ldU_o (by omega) (by omega) h24) (ldP_c u k _) (by omega) (ldU_o (by omega) (by omega) h24)
theorem lgU_o {u : Nat → Int32} {k y : Nat} (h : y < 80 ∨ 320 ≤ y) (h2 : y ≠ 448) (hk : uG u ≤ 40) : lgU u k y = u y := by
  unfold lgU lgP
  rw [if_neg h2, if_neg (by omega)]
theorem lgU_D {u : Nat → Int32} {k : Nat} (h : MdD u) : MdD (lgU u k) := by
  have h24 := h.2.1.2
  exact MdD_g h (lgU_o (by omega) (by omega) h24) (lgP_c u k _) (by omega) (lgU_o (by omega) (by omega) h24) (lgU_o (by omega) (by omega) h24)
def owU (u : Nat → Int32) (k : Nat) : Nat := (u (320 + 5 * k + 4)).toNatClampNeg
abbrev fcU (u : Nat → Int32) (k r : Nat) : Prop := u (320 + 5 * k + r) ≤ frU u (owU u k) r ∧ u (320 + 5 * k + r) + usU u r (-1000003) ≤ u r
def ftU (u : Nat → Int32) (k n : Nat) : Prop := ∀ r, r < n → fcU u k r
noncomputable def ndU (u : Nat → Int32) : Nat → Int32 × Int32
  | 0 => (-1000003, nI 0)
  | t + 1 => @ite _ (¬ foU u (nI t) = -1000003 ∧ ftU u (foU u (nI t)).toNatClampNeg 4 ∧ ((ndU u t).1 = -1000003 ∨ dsU u t 4 < (ndU u t).2)) (Classical.propDecidable _) (foU u (nI t), dsU u t 4) (ndU u t)
noncomputable def nxU (u : Nat → Int32) : Int32 := (ndU u (uT u)).1
theorem fiU_cases (p : Nat → Prop) [DecidablePred p] : ∀ n i, fiU p n i = -1000003 ∨ ∃ k, i ≤ k ∧ k < i + n ∧ p k ∧ (∀ j, i ≤ j → j < k → ¬ p j) ∧ fiU p n i = nI k
  | 0, i => Or.inl rfl
  | n + 1, i => by
    unfold fiU
    by_cases h : p i
    · rw [if_pos h]
      exact Or.inr ⟨i, Nat.le_refl _, by omega, h, fun j h1 h2 => by omega, rfl⟩
    · rw [if_neg h]
      rcases fiU_cases p n (i + 1) with e | ⟨k, h1, h2, h3, h4, e⟩
      · exact Or.inl e
      · refine Or.inr ⟨k, by omega, by omega, h3, fun j q1 q2 => ?_, e⟩
        by_cases z : j = i
        · rw [z]; exact h
        · exact h4 j (by omega) q2
theorem nI_neN {k : Nat} (h : k < 2 ^ 31) : ¬ nI k = -1000003 := by
  intro q
  have := congrArg Int32.toInt q
  rw [nI_toInt h] at this
  have e : (-1000003 : Int32).toInt = -1000003 := by decide
  omega
def DsAll (u : Nat → Int32) : Prop := ∀ t, t < uT u → DsOk u t
def gr1 (u : Nat → Int32) (k n : Nat) : Nat → Int32 := fun y => if y = 80 + 6 * uG u then u 451 else if 80 + 6 * uG u + 1 ≤ y ∧ y < 80 + 6 * uG u + 1 + n then u (320 + 5 * k + (y - (80 + 6 * uG u + 1))) else u y
def gr2 (u : Nat → Int32) (k : Nat) : Nat → Int32 := upF (upF (upF (gr1 u k 4) (80 + 6 * uG u + 5) (u (320 + 5 * k + 4))) 448 (nI (uG u + 1))) 451 (u 451 + nI 1)
def grU (u : Nat → Int32) (k : Nat) : Nat → Int32 := ldU (gr2 u k) k
theorem gr1_o {u : Nat → Int32} {k n y : Nat} (h : y < 80 + 6 * uG u ∨ 80 + 6 * uG u + 1 + n ≤ y) : gr1 u k n y = u y := by
  unfold gr1
  rw [if_neg (by omega), if_neg (by omega)]
theorem gr2_D {u : Nat → Int32} {k : Nat} (h : MdD u) (hg : uG u < 40) : MdD (gr2 u k) := by
  unfold gr2
  refine MdD_g (s := uG u + 1) h ?_ ?_ (by omega) ?_ ?_
  · rw [up_ne (by omega), up_ne (by omega), up_ne (by omega), gr1_o (by omega)]
  · rw [up_ne (by omega), up_at]
  · rw [up_ne (by omega), up_ne (by omega), up_ne (by omega), gr1_o (by omega)]
  · rw [up_ne (by omega), up_ne (by omega), up_ne (by omega), gr1_o (by omega)]
theorem gr2_d {u : Nat → Int32} {k : Nat} (hg : uG u < 40) : gr2 u k 449 = u 449 := by
  unfold gr2
  rw [up_ne (by omega), up_ne (by omega), up_ne (by omega), gr1_o (by omega)]
def duU (u : Nat → Int32) (t : Nat) : Nat → Int32
  | 0 => nI 0
  | r + 1 => duU u t r + u (8 + 12 * t + (8 + r)) * prU u r
/-- the number of solvent tenants among the first n -/
def slU (u : Nat → Int32) (n : Nat) : Nat := fcnt (fun t => u (8 + 12 * t + 3) = nI 1) n
def SqOk (u : Nat → Int32) : Prop := uB u + slU u (uT u) ≤ uT u ∧ ∀ k, k < uB u → ∃ q, q < 6 ∧ u (440 + k) = nI q
theorem fcnt_cg {p q : Nat → Prop} [DecidablePred p] [DecidablePred q] : ∀ n, (∀ k, k < n → (p k ↔ q k)) → fcnt p n = fcnt q n
  | 0, _ => rfl
  | n + 1, h => by
    have e := fcnt_cg n (fun k hk => h k (by omega))
    rw [fcnt_s, fcnt_s, e]
    by_cases z : p n
    · rw [if_pos z, if_pos ((h n (by omega)).mp z)]
    · rw [if_neg z, if_neg (fun w => z ((h n (by omega)).mpr w))]
theorem SqOk_cg {u w : Nat → Int32} (h : SqOk u) (h1 : w 447 = u 447) (h2 : w 450 = u 450) (h3 : ∀ t, t < uT u → w (8 + 12 * t + 3) = u (8 + 12 * t + 3)) (h4 : ∀ k, k < 6 → w (440 + k) = u (440 + k)) (hb : uB u ≤ 6) : SqOk w := by
  have e1 : uT w = uT u := by unfold uT; rw [h1]
  have e2 : uB w = uB u := by unfold uB; rw [h2]
  refine ⟨?_, fun k hk => ?_⟩
  · rw [e1, e2]
    unfold slU
    rw [fcnt_cg (q := fun t => u (8 + 12 * t + 3) = nI 1) (uT u) (fun k hk => by rw [h3 k hk])]
    exact h.1
  · rw [e2] at hk
    rw [h4 k (by omega)]
    exact h.2 k hk
theorem n0n1 : ¬ nI 0 = nI 1 := by decide
abbrev uV (u : Nat → Int32) (t : Int32) : Prop := 0 ≤ t ∧ t < nI (uT u)
def atP (u : Nat → Int32) (t : Nat) (w : Int32) (i : Nat) : Nat → Int32 := fun y => if 8 + 12 * t ≤ y ∧ y < 8 + 12 * t + i then (if y = 8 + 12 * t then w else if y = 8 + 12 * t + 2 then -1000003 else if y = 8 + 12 * t + 3 then nI 1 else nI 0) else u y
def uatG (u : Nat → Int32) (n : Int32) : Nat → Int32 := upF (atP u (uT u) n 12) 447 (nI (uT u + 1))
theorem foU_cases (u : Nat → Int32) (t : Int32) : foU u t = -1000003 ∨ ∃ k, k < uD u ∧ u (320 + 5 * k + 4) = t ∧ foU u t = nI k := by
  rcases fiU_cases (fun k => u (320 + 5 * k + 4) = t) (uD u) 0 with e | ⟨k, -, h2, h3, -, e⟩
  · exact Or.inl e
  · exact Or.inr ⟨k, by omega, h3, e⟩
theorem ndU_cases (u : Nat → Int32) : ∀ t, (ndU u t).1 = -1000003 ∨ ∃ k q, k < uD u ∧ q < t ∧ u (320 + 5 * k + 4) = nI q ∧ (ndU u t).1 = nI k
  | 0 => Or.inl rfl
  | t + 1 => by
    unfold ndU
    split
    · next h =>
      obtain ⟨k, hk, h3, e⟩ := (foU_cases u (nI t)).resolve_left h.1
      exact Or.inr ⟨k, t, hk, by omega, h3, e⟩
    · rcases ndU_cases u t with e | ⟨k, q, h1, h2, h3, e⟩
      · exact Or.inl e
      · exact Or.inr ⟨k, q, h1, by omega, h3, e⟩
theorem nxU_cases (u : Nat → Int32) : nxU u = -1000003 ∨ ∃ k q, k < uD u ∧ q < uT u ∧ u (320 + 5 * k + 4) = nI q ∧ nxU u = nI k := ndU_cases u _
theorem gr2_o {u : Nat → Int32} {k y : Nat} (hg : uG u < 40) (h : y < 80 ∨ 320 ≤ y) (h1 : y ≠ 448) (h2 : y ≠ 451) : gr2 u k y = u y := by
  unfold gr2
  rw [up_ne h2, up_ne h1, up_ne (by omega), gr1_o (by omega)]
theorem grU_o {u : Nat → Int32} {k y : Nat} (hu : MdD u) (hg : uG u < 40) (h : y < 80 ∨ 440 ≤ y) (h1 : y ≠ 448) (h2 : y ≠ 449) (h3 : y ≠ 451) : grU u k y = u y := by
  unfold grU
  rw [ldU_o (by omega) h2 (gr2_D hu hg).2.2.1.2, gr2_o hg (by omega) h1 h3]
theorem grU_uD {u : Nat → Int32} {k : Nat} (hu : MdD u) (hg : uG u < 40) : uD (grU u k) = uD u - 1 := by
  have h24 := hu.2.2.1.2
  have e : uD (gr2 u k) = uD u := by unfold uD; rw [gr2_d hg]
  have h : grU u k 449 = nI (uD (gr2 u k) - 1) := by
    unfold grU ldU
    exact ldP_c _ _ _
  have h2 : uD (grU u k) = uD (gr2 u k) - 1 := tN_of h (by omega)
  rw [h2, e]
noncomputable def gaU : Nat → (Nat → Int32) → Nat → (Nat → Int32) × Nat
  | 0, u, n => (u, n)
  | m + 1, u, n => if ¬ nxU u = -1000003 ∧ uG u < 40 then gaU m (grU u (nxU u).toNatClampNeg) (n + 1) else (u, n)
theorem nxU_0 {u : Nat → Int32} (h : uD u = 0) : nxU u = -1000003 := by
  rcases nxU_cases u with e | ⟨k, q, hk, -⟩
  · exact e
  · omega
def uxA (u : Nat → Int32) (a b : Nat) (n : Int32) : Int32 := n * prU u a / prU u b
/-- no price is 0 -/
def PrOk (u : Nat → Int32) : Prop := ∀ r, r < 4 → ¬ prU u r = nI 0
noncomputable def paU : Nat → (Nat → Int32) → (Nat → Int32) → Nat → (Nat → Int32) × (Nat → Int32) × Nat
  | 0, u, s, n => (u, s, n)
  | m + 1, u, s, n => if ¬ nxU u = -1000003 ∧ uG u < 40 then paU m (grU u (nxU u).toNatClampNeg) (upF s n (u (320 + 5 * (nxU u).toNatClampNeg + 4))) (n + 1) else (u, s, n)
noncomputable def paK (u s : Nat → Int32) : Nat := (paU (uD u) u s 0).2.2
noncomputable def paS (u s : Nat → Int32) : Nat → Int32 := (paU (uD u) u s 0).2.1
def urcQ (u : Nat → Int32) (r : Nat) (w : Int32) : Int32 := if w = nI 0 then u r else if w = nI 1 then u (4 + r) else if w = nI 2 then usU u r (-1000003) else if w = nI 3 then prU u r else if w = nI 4 then smU u r 4 (uT u) else if w = nI 5 then smU u r 8 (uT u) else -1000000
def urcR (u : Nat → Int32) (r w : Int32) : Int32 := if vR r then urcQ u r.toNatClampNeg w else -1000000
def utnQ (u : Nat → Int32) (t : Nat) (w : Int32) : Int32 := if w = nI 0 then u (8 + 12 * t) else if w = nI 1 then u (8 + 12 * t + 1) else if w = nI 2 then dsU u t 4 else if w = nI 3 then u (8 + 12 * t + 3) else if w = nI 4 then nI (gcU u (nI t) (uG u)) else if w = nI 5 then nI (dcU u (nI t) (uD u)) else if w = nI 6 then qpU u (nI t) else if w = nI 7 then u (8 + 12 * t + 2) else -1000000
def utnR (u : Nat → Int32) (t w : Int32) : Int32 := if uV u t then utnQ u t.toNatClampNeg w else -1000000
def uacQ (u : Nat → Int32) (t r : Nat) (w : Int32) : Int32 := if w = nI 0 then u (8 + 12 * t + (4 + r)) else if w = nI 1 then u (8 + 12 * t + (8 + r)) else if w = nI 2 then usU u r (nI t) else if w = nI 3 then frU u t r else -1000000
def uacR (u : Nat → Int32) (t r w : Int32) : Int32 := if uV u t ∧ vR r then uacQ u t.toNatClampNeg r.toNatClampNeg w else -1000000
def ugdR (u : Nat → Int32) (g w : Int32) : Int32 := if ¬ g < nI 0 ∧ nI 0 ≤ w ∧ w ≤ nI 4 then (if poU u g = -1000003 then -1000003 else u (80 + 6 * (poU u g).toNatClampNeg + (1 + w.toNatClampNeg))) else -1000000
def uddR (u : Nat → Int32) (i w : Int32) : Int32 := if ¬ i < nI 0 ∧ nI 0 ≤ w ∧ w ≤ nI 4 then (if i < nI (uD u) then u (320 + 5 * i.toNatClampNeg + w.toNatClampNeg) else -1000003) else -1000000
def uwF (u : Nat → Int32) (t o : Nat) : Int32 := lsU (frU u t o) (u (8 + 12 * t + (4 + o)) - u (8 + 12 * t + (8 + o)))
def uwP (u : Nat → Int32) (t r : Nat) : Nat → Int32
  | 0 => nI 0
  | n + 1 => uwP u t r n + (if n = r then nI 0 else uwF u t n * prU u n / prU u r)
def uwtR (u : Nat → Int32) (t r : Int32) : Int32 := if uV u t ∧ vR r then uwP u t.toNatClampNeg r.toNatClampNeg 4 else -1000000
def tL (f : Nat → Nat → Int32) : Nat := (f 174 5).toNatClampNeg
def nxB (f : Nat → Nat → Int32) (i : Nat) : Int32 := if i < tL f then f 178 i else -1
/-- the place that is read at, and the fault -/
def atF (f : Nat → Nat → Int32) (A : Nat) : Nat → Nat → Int32 := rwF f 174 (upF (f 174) 7 (nI A))
def dgB (f : Nat → Nat → Int32) (i : Nat) : Prop := nI 48 ≤ nxB f i ∧ nxB f i ≤ nI 57
def wdC (B : Int32) (n k : Nat) : Int32 := (B >>> (nI (8 * (n - 1 - k)) &&& 31)) &&& nI 127
def wdP (f : Nat → Nat → Int32) (a e : Nat) (B : Int32) (n i : Nat) : Prop := e - a = n ∧ ∀ k, k < i → f 178 (a + k) = wdC B n k
abbrev wdQ (f : Nat → Nat → Int32) (a e : Nat) (B : Int32) (n : Nat) : Prop := wdP f a e B n n
noncomputable def nmR (f : Nat → Nat → Int32) (a e : Nat) : Int32 := @ite _ (wdQ f a e (nI 6516853) 3) (Classical.propDecidable _) (nI 0) (@ite _ (wdQ f a e (nI 7169389) 3) (Classical.propDecidable _) (nI 1) (@ite _ (wdQ f a e (nI 7234932) 3) (Classical.propDecidable _) (nI 2) (@ite _ (wdQ f a e (nI 1684632427) 4) (Classical.propDecidable _) (nI 3) (-1000003))))
abbrev alU (f : Nat → Nat → Int32) (A : Nat) : Nat := skF isL_ (f 178) (tL f) A
abbrev abU (f : Nat → Nat → Int32) (A : Nat) : Nat := skF isB_ (f 178) (tL f) A
/-- what is read off: fault F, units rd, at 0 -/
def gbF_ (f : Nat → Nat → Int32) (F : Int32) (rd : Nat → Int32) : Nat → Nat → Int32 := rwF (rwF f 174 (upF (upF (f 174) 7 (nI 0)) 8 F)) 179 rd
/-- the memory while it is read: at A -/
def rqF (f : Nat → Nat → Int32) (A : Nat) (F : Int32) (rd : Nat → Int32) : Nat → Nat → Int32 := atF (gbF_ f F rd) A
theorem rm_form (f : Nat → Nat → Int32) (A : Nat) (F : Int32) (rd : Nat → Int32) : rqF f A F rd = rwF (rwF f 174 (upF (upF (f 174) 7 (nI A)) 8 F)) 179 rd := by
  unfold rqF atF gbF_
  rw [rw_ne (show (174 : Nat) ≠ 179 by omega), rw_at, rw_179_174, rw_rw]
  congr 2
  funext y
  unfold upF
  by_cases h : y = 8
  · rw [if_neg (by omega), if_pos h, if_pos h]
  · rw [if_neg h, if_neg h]
    by_cases h2 : y = 7
    · rw [if_pos h2, if_pos h2]
    · rw [if_neg h2, if_neg h2, if_neg h2]
noncomputable def dgN (f : Nat → Nat → Int32) (r : Nat) : Nat → Nat → (Nat → Int32) → Nat × (Nat → Int32)
  | 0, c, rd => (c, rd)
  | j + 1, c, rd => @ite _ (dgB f c) (Classical.propDecidable _) (dgN f r j (c + 1) (upF rd r (nI 10 * rd r + nxB f c - nI 48))) (c, rd)
noncomputable def rwU (f : Nat → Nat → Int32) : Nat → Nat → Int32 → (Nat → Int32) → Int32 × (Nat → Int32) × Nat
  | 0, A, _, rd => (-1000003, rd, A)
  | m + 1, A, v, rd => if A < tL f then
      @ite _ (nmR f A (alU f A) = -1000003 ∨ (v >>> (nmR f A (alU f A) &&& 31)) &&& nI 1 = nI 1) (Classical.propDecidable _) (nI A, rd, alU f A)
        (@ite _ ((dgN f (nmR f A (alU f A)).toNatClampNeg 2 (abU f (alU f A)) rd).1 = abU f (alU f A) ∨ dgB f (dgN f (nmR f A (alU f A)).toNatClampNeg 2 (abU f (alU f A)) rd).1) (Classical.propDecidable _)
          (nI (dgN f (nmR f A (alU f A)).toNatClampNeg 2 (abU f (alU f A)) rd).1, (dgN f (nmR f A (alU f A)).toNatClampNeg 2 (abU f (alU f A)) rd).2, abU f (dgN f (nmR f A (alU f A)).toNatClampNeg 2 (abU f (alU f A)) rd).1)
          (rwU f m (abU f (dgN f (nmR f A (alU f A)).toNatClampNeg 2 (abU f (alU f A)) rd).1) (v ||| (nI 1 <<< (nmR f A (alU f A) &&& 31))) (dgN f (nmR f A (alU f A)).toNatClampNeg 2 (abU f (alU f A)) rd).2))
    else (-1000003, rd, A)
noncomputable def rdX (f : Nat → Nat → Int32) : Int32 × (Nat → Int32) × Nat := rwU f 61 (abU f 0) (nI 0) (fun y => if y < 4 then nI 0 else f 179 y)
noncomputable def rdW (f : Nat → Nat → Int32) : Nat → Nat → Int32 := rqF f (rdX f).2.2 (rdX f).1 (rdX f).2.1
theorem rdW_o {f : Nat → Nat → Int32} {x : Nat} (h : x ≠ 174) (h2 : x ≠ 179) : rdW f x = f x := by
  unfold rdW
  rw [rm_form, rw_ne h2, rw_ne h]
theorem rdW_3 (f : Nat → Nat → Int32) : rdW f 174 3 = f 174 3 := by
  unfold rdW
  rw [rm_form, rw_ne (by omega), rw_at, up_ne (by omega), up_ne (by omega)]
theorem rdW_5 (f : Nat → Nat → Int32) : rdW f 174 5 = f 174 5 := by
  unfold rdW
  rw [rm_form, rw_ne (by omega), rw_at, up_ne (by omega), up_ne (by omega)]
/-- a demand put down: n of its units -/
def dpP (u s : Nat → Int32) (n : Nat) : Nat → Int32 := fun y => if 320 + 5 * uD u ≤ y ∧ y < 320 + 5 * uD u + n then s (y - (320 + 5 * uD u)) else u y
def dpU (u s : Nat → Int32) (t : Nat) : Nat → Int32 := upF (upF (dpP u s 4) (320 + 5 * uD u + 4) (nI t)) 449 (nI (uD u + 1))
abbrev s4U (s : Nat → Int32) : Int32 := s 0 + s 1 + s 2 + s 3
