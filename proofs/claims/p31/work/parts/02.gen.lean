/-! ===== the abstract memory: cells are numbered in the order in which they are made; 16 is the first ===== -/
abbrev Mem : Type := Nat × (Nat → Nat → Int32) × (Nat → Nat → Nat) × (Nat → Int64)
def mN (M : Mem) : Nat := M.1
def mI (M : Mem) : Nat → Nat → Int32 := M.2.1
def mR (M : Mem) : Nat → Nat → Nat := M.2.2.1
def mL (M : Mem) : Nat → Int64 := M.2.2.2
def u2 {α : Type} (f : Nat → Nat → α) (a k : Nat) (v : α) : Nat → Nat → α := fun x y => if x = a ∧ y = k then v else f x y
def u1 {α : Type} (f : Nat → α) (a : Nat) (v : α) : Nat → α := fun x => if x = a then v else f x
def stI (M : Mem) (a k : Nat) (v : Int32) : Mem := (M.1, u2 M.2.1 a k v, M.2.2.1, M.2.2.2)
def stR (M : Mem) (a k : Nat) (v : Nat) : Mem := (M.1, M.2.1, u2 M.2.2.1 a k v, M.2.2.2)
def stL (M : Mem) (a : Nat) (v : Int64) : Mem := (M.1, M.2.1, M.2.2.1, u1 M.2.2.2 a v)
/-- a new cell, all zeros -/
def al (M : Mem) : Mem := (M.1 + 1, fun x y => if x = M.1 then 0 else M.2.1 x y, fun x y => if x = M.1 then 0 else M.2.2.1 x y, fun x => if x = M.1 then 0 else M.2.2.2 x)
/-- kinds: (1, n) ints, (2, n) ledgers, (3 + c, n) an object of class c -/
def ledK : List (Nat × Nat) := [(5, 18), (1, 4), (1, 4), (1, 4), (1, 6), (1, 6), (1, 6), (1, 24), (1, 24), (1, 24), (3, 3), (1, 240), (3, 3), (1, 144), (1, 6)]
def kdl : List (Nat × Nat) := [(7, 6), (6, 3), (1, 60), (1, 4)] ++ (ledK ++ (ledK ++ ([(4, 2), (2, 8)] ++ (ledK ++ (ledK ++ (ledK ++ (ledK ++ (ledK ++ (ledK ++ (ledK ++ (ledK ++ ([(1, 24), (1, 6)] ++ List.replicate 51 (1, 64)))))))))))))
def kd (i : Nat) : Nat × Nat := if i < 16 then (0, 0) else kdl.getD (i - 16) (0, 0)
theorem kd_lo {i : Nat} (h : ¬ (kd i).1 = 0) : 16 ≤ i := by
  unfold kd at h
  by_cases q : i < 16
  · rw [if_pos q] at h
    exact absurd rfl h
  · omega
def sl (n : Nat) : Nat := ((List.range (n - 16)).map fun j => (kd (j + 16)).2).sum
theorem sl_succ {n : Nat} (h : 16 ≤ n) : sl (n + 1) = sl n + (kd n).2 := by
  unfold sl
  rw [show n + 1 - 16 = (n - 16) + 1 by omega, List.range_succ, List.map_append, List.sum_append]
  simp [show n - 16 + 16 = n by omega]
theorem sl_mono {a b : Nat} (h : a ≤ b) : sl a ≤ sl b := by
  induction b with
  | zero => rw [Nat.le_zero.mp h]; exact Nat.le_refl _
  | succ b ih =>
    rcases Nat.lt_or_ge a (b + 1) with q | q
    · refine Nat.le_trans (ih (by omega)) ?_
      rcases Nat.lt_or_ge b 16 with z | z
      · have e1 : b - 16 = 0 := by omega
        have e2 : b + 1 - 16 = 0 := by omega
        simp [sl, e1, e2]
      · rw [sl_succ z]; omega
    · rw [show a = b + 1 by omega]; exact Nat.le_refl _
/-! ===== what is given around it: launch, script (address, length, ints), first address, classes, the two array classes, the four texts and their bytes, a static that is only carried ===== -/
abbrev Zt : Type := Launch × (Nat × Nat × (Nat → Int32)) × Nat × va_G × (ClassId × ClassId) × (Nat → Nat) × (Nat → Nat) × Option Nat
def zl (Z : Zt) : Launch := Z.1
def zb (Z : Zt) : Nat := Z.2.1.1
def zn (Z : Zt) : Nat := Z.2.1.2.1
def zx (Z : Zt) : Nat → Int32 := Z.2.1.2.2
def zo (Z : Zt) : Nat := Z.2.2.1
def zD (Z : Zt) : va_G := Z.2.2.2.1
def zcI (Z : Zt) : ClassId := Z.2.2.2.2.1.1
def zcL (Z : Zt) : ClassId := Z.2.2.2.2.1.2
def zK (Z : Zt) : Nat → Nat := Z.2.2.2.2.2.1
def zV (Z : Zt) : Nat → Nat := Z.2.2.2.2.2.2.1
def zF (Z : Zt) : Option Nat := Z.2.2.2.2.2.2.2
/-- the address of a number: 0 null, 1 the script, 2 .. 5 the texts, 6 .. 9 their bytes, 10 what is only carried, from 16 on the cells -/
def rfo (Z : Zt) (i : Nat) : Option Nat := if 16 ≤ i then some (zo Z + (i - 16)) else if i = 1 then some (zb Z) else if 2 ≤ i ∧ i < 6 then some (zK Z (i - 2)) else if 6 ≤ i ∧ i < 10 then some (zV Z (i - 6)) else if i = 10 then zF Z else none
def ad (Z : Zt) (i : Nat) : Value := va_rf (rfo Z i)
def cv (Z : Zt) (v : Value) : Value := match v with
  | .ref i => ad Z i
  | w => w
theorem ad_cell {Z : Zt} {i : Nat} (h : 16 ≤ i) : ad Z i = .ref (zo Z + (i - 16)) := by simp [ad, rfo, h, va_rf]
theorem rfo_cell {Z : Zt} {i : Nat} (h : 16 ≤ i) : rfo Z i = some (zo Z + (i - 16)) := by simp [rfo, h]
theorem ad_or (Z : Zt) (i : Nat) : ad Z i = .null ∨ ∃ a, ad Z i = .ref a := by
  unfold ad
  cases rfo Z i with
  | none => exact Or.inl rfl
  | some a => exact Or.inr ⟨a, rfl⟩
theorem ad_cat (Z : Zt) (i : Nat) : (ad Z i).category = 1 := by
  rcases ad_or Z i with h | ⟨a, h⟩ <;> rw [h] <;> rfl
theorem cv_cat (Z : Zt) (v : Value) : (cv Z v).category = v.category := by
  cases v with
  | ref i => exact ad_cat Z i
  | _ => rfl
def RX0 : String := "LimitBank$Claims"
def TX0 : u_T := fun k => match k with
  | 0 => ("LimitBank$Claims", "cells", "[I", true)
  | 1 => ("LimitBank$Claims", "most", "I", true)
  | _ => ("LimitBank$Claims", "size", "I", false)
def tyX0 : Nat → FieldType := fun k => match k with
  | 0 => .array .int
  | 1 => .int
  | _ => .int
def RX1 : String := "LimitBank$History"
def TX1 : u_T := fun k => match k with
  | 0 => ("LimitBank$History", "states", "[LLimitBank$Ledger;", true)
  | _ => ("LimitBank$History", "size", "I", false)
def tyX1 : Nat → FieldType := fun k => match k with
  | 0 => .array (.object "LimitBank$Ledger")
  | _ => .int
def RX2 : String := "LimitBank$Ledger"
def TX2 : u_T := fun k => match k with
  | 0 => ("LimitBank$Ledger", "capacity", "[I", true)
  | 1 => ("LimitBank$Ledger", "fund", "[I", true)
  | 2 => ("LimitBank$Ledger", "used", "[I", true)
  | 3 => ("LimitBank$Ledger", "weight", "[I", true)
  | 4 => ("LimitBank$Ledger", "points", "[I", true)
  | 5 => ("LimitBank$Ledger", "ruinedAt", "[I", true)
  | 6 => ("LimitBank$Ledger", "limit", "[I", true)
  | 7 => ("LimitBank$Ledger", "loan", "[I", true)
  | 8 => ("LimitBank$Ledger", "usedBy", "[I", true)
  | 9 => ("LimitBank$Ledger", "grants", "LLimitBank$Claims;", true)
  | 10 => ("LimitBank$Ledger", "demands", "LLimitBank$Claims;", true)
  | 11 => ("LimitBank$Ledger", "queue", "[I", true)
  | 12 => ("LimitBank$Ledger", "bankrupts", "I", false)
  | 13 => ("LimitBank$Ledger", "tenants", "I", false)
  | 14 => ("LimitBank$Ledger", "time", "I", false)
  | 15 => ("LimitBank$Ledger", "rest", "I", false)
  | 16 => ("LimitBank$Ledger", "nextNumber", "I", false)
  | _ => ("LimitBank$Ledger", "ruins", "I", false)
def tyX2 : Nat → FieldType := fun k => match k with
  | 0 => .array .int
  | 1 => .array .int
  | 2 => .array .int
  | 3 => .array .int
  | 4 => .array .int
  | 5 => .array .int
  | 6 => .array .int
  | 7 => .array .int
  | 8 => .array .int
  | 9 => .object "LimitBank$Claims"
  | 10 => .object "LimitBank$Claims"
  | 11 => .array .int
  | 12 => .int
  | 13 => .int
  | 14 => .int
  | 15 => .int
  | 16 => .int
  | _ => .int
def RX3 : String := "LimitBank$VectorText"
def TX3 : u_T := fun k => match k with
  | 0 => ("LimitBank$VectorText", "bytes", "[I", true)
  | 1 => ("LimitBank$VectorText", "units", "[I", true)
  | _ => ("LimitBank$VectorText", "length", "I", false)
def tyX3 : Nat → FieldType := fun k => match k with
  | 0 => .array .int
  | 1 => .array .int
  | _ => .int
def RX4 : String := "LimitBank"
def TX4 : u_T := fun k => match k with
  | 0 => ("LimitBank", "text", "LLimitBank$VectorText;", true)
  | 1 => ("LimitBank", "now", "LLimitBank$Ledger;", true)
  | 2 => ("LimitBank", "trial", "LLimitBank$Ledger;", true)
  | 3 => ("LimitBank", "history", "LLimitBank$History;", true)
  | 4 => ("LimitBank", "served", "[I", true)
  | _ => ("LimitBank", "ticksToRuin", "[I", true)
def tyX4 : Nat → FieldType := fun k => match k with
  | 0 => .object "LimitBank$VectorText"
  | 1 => .object "LimitBank$Ledger"
  | 2 => .object "LimitBank$Ledger"
  | 3 => .object "LimitBank$History"
  | 4 => .array .int
  | _ => .array .int
/-- the classes of the cells: claims, history, ledger, text, bank, model -/
def cls : List vw_C := [(RX0, TX0, 3), (RX1, TX1, 2), (RX2, TX2, 18), (RX3, TX3, 3), (RX4, TX4, 6)]
def cnm (ci : Nat) : String := (cls.getD ci ("", TX0, 0)).1
def cT (ci : Nat) : u_T := (cls.getD ci ("", TX0, 0)).2.1
def cW (ci : Nat) : Nat := (cls.getD ci ("", TX0, 0)).2.2
def cty (ci : Nat) : Nat → FieldType := [tyX0, tyX1, tyX2, tyX3, tyX4].getD ci tyX0
/-- how a field is kept: 0 an int, 1 a reference, 2 an int that never changes (in mR), 3 a long -/
def fkl : List (List Nat) := [[1, 2, 0], [1, 0], [1, 1, 1, 1, 1, 1, 1, 1, 1, 1, 1, 1, 0, 0, 0, 0, 0, 0], [1, 1, 0], [1, 1, 1, 1, 1, 1]]
def fk (ci k : Nat) : Nat := (fkl.getD ci []).getD k 0
def fv (Z : Zt) (M : Mem) (i ci k : Nat) : Value := if fk ci k = 0 then .int (mI M i k) else if fk ci k = 1 then ad Z (mR M i k) else if fk ci k = 2 then .int (nI (mR M i k)) else .long (mL M i)
def ce (Z : Zt) (M : Mem) (i : Nat) : va_E := if (kd i).1 = 1 then .inl (zcI Z, (kd i).2, .inl (mI M i)) else if (kd i).1 = 2 then .inl (zcL Z, (kd i).2, .inr (.inr (.inr (.inr (fun j => rfo Z (mR M i j)))))) else .inr ((kd i).1 - 3, (List.range (kd i).2).map (fv Z M i ((kd i).1 - 3)))
def wsZ (Z : Zt) (M : Mem) : va_W := (List.range (mN M - 16)).map fun j => (zo Z + j, ce Z M (j + 16))
def Ar (Z : Zt) : Nat → Prop := fun q => zo Z ≤ q
def Rep (Z : Zt) (M : Mem) (H : Heap) : Prop := va_P (zD Z) cls (wsZ Z M) H ∧ H.size = zo Z + (mN M - 16) ∧ 16 ≤ mN M
theorem wsZ_len (Z : Zt) (M : Mem) : (wsZ Z M).length = mN M - 16 := by simp [wsZ]
theorem wsZ_at {Z : Zt} {M : Mem} {i : Nat} (h : 16 ≤ i) (h2 : i < mN M) : (wsZ Z M)[i - 16]? = some (zo Z + (i - 16), ce Z M i) := by
  unfold wsZ
  rw [List.getElem?_map, List.getElem?_range (by omega)]
  simp [show i - 16 + 16 = i by omega]
theorem wsZ_get {Z : Zt} {M : Mem} {k : Nat} {q : Nat × va_E} (h : (wsZ Z M)[k]? = some q) : k < mN M - 16 ∧ q = (zo Z + k, ce Z M (k + 16)) := by
  have hl : k < (wsZ Z M).length := (List.getElem?_eq_some_iff.mp h).1
  rw [wsZ_len] at hl
  have h2 := wsZ_at (Z := Z) (M := M) (i := k + 16) (by omega) (by omega)
  rw [show k + 16 - 16 = k by omega] at h2
  exact ⟨hl, Option.some.inj (h.symm.trans h2)⟩
theorem wsD (Z : Zt) (M : Mem) : va_D (Ar Z) (wsZ Z M) := by
  refine ⟨fun i j p q hi hj e => ?_, fun k q h => ?_⟩
  · obtain ⟨-, rfl⟩ := wsZ_get hi
    obtain ⟨-, rfl⟩ := wsZ_get hj
    simp at e
    exact e
  · obtain ⟨-, rfl⟩ := wsZ_get h
    show zo Z ≤ zo Z + k
    omega
theorem wsZ_set {Z : Zt} {M M' : Mem} {i : Nat} (h : 16 ≤ i) (h2 : i < mN M) (hn : mN M' = mN M) (ho : ∀ j, j ≠ i → ce Z M' j = ce Z M j) : (wsZ Z M).set (i - 16) (zo Z + (i - 16), ce Z M' i) = wsZ Z M' := by
  apply List.ext_getElem?
  intro k
  by_cases hk : k = i - 16
  · subst hk
    rw [List.getElem?_set_self (by rw [wsZ_len]; omega), wsZ_at h (by rw [hn]; exact h2)]
  · rw [List.getElem?_set_ne (fun z => hk z.symm)]
    by_cases hl : k < mN M - 16
    · have a := wsZ_at (Z := Z) (M := M) (i := k + 16) (by omega) (by omega)
      have b := wsZ_at (Z := Z) (M := M') (i := k + 16) (by omega) (by omega)
      rw [show k + 16 - 16 = k by omega] at a b
      rw [a, b, ho _ (by omega)]
    · rw [List.getElem?_eq_none (by rw [wsZ_len]; omega), List.getElem?_eq_none (by rw [wsZ_len]; omega)]
theorem wsZ_push {Z : Zt} {M M' : Mem} (h : 16 ≤ mN M) (hn : mN M' = mN M + 1) (ho : ∀ j, j < mN M → ce Z M' j = ce Z M j) : wsZ Z M ++ [(zo Z + (mN M - 16), ce Z M' (mN M))] = wsZ Z M' := by
  unfold wsZ
  rw [hn, show mN M + 1 - 16 = (mN M - 16) + 1 by omega, List.range_succ, List.map_append]
  congr 1
  · apply List.map_congr_left
    intro j hj
    have := List.mem_range.mp hj
    rw [ho _ (by omega)]
  · simp [show mN M - 16 + 16 = mN M by omega]
theorem ce_stI {Z : Zt} {M : Mem} {i k j : Nat} {v : Int32} (h : j ≠ i) : ce Z (stI M i k v) j = ce Z M j := by
  have e : ∀ y, mI (stI M i k v) j y = mI M j y := fun y => by simp [mI, stI, u2, h]
  have e2 : mI (stI M i k v) j = mI M j := funext e
  have e3 : fv Z (stI M i k v) j = fv Z M j := by
    funext ci y
    unfold fv
    rw [e]
    rfl
  unfold ce
  rw [e2, e3]
  rfl
theorem ce_stR {Z : Zt} {M : Mem} {i k j : Nat} {v : Nat} (h : j ≠ i) : ce Z (stR M i k v) j = ce Z M j := by
  have e : ∀ y, mR (stR M i k v) j y = mR M j y := fun y => by simp [mR, stR, u2, h]
  have e3 : fv Z (stR M i k v) j = fv Z M j := by
    funext ci y
    unfold fv
    rw [e]
    rfl
  unfold ce
  rw [e3]
  simp only [e]
  rfl
theorem ce_stL {Z : Zt} {M : Mem} {i j : Nat} {v : Int64} (h : j ≠ i) : ce Z (stL M i v) j = ce Z M j := by
  have e : mL (stL M i v) j = mL M j := by simp [mL, stL, u1, h]
  have e3 : fv Z (stL M i v) j = fv Z M j := by
    funext ci y
    unfold fv
    rw [e]
    rfl
  unfold ce
  rw [e3]
  rfl
theorem ce_al {Z : Zt} {M : Mem} {j : Nat} (h : j < mN M) : ce Z (al M) j = ce Z M j := by
  have hne : ¬ j = M.1 := Nat.ne_of_lt h
  have e1 : mI (al M) j = mI M j := by funext y; simp [mI, al, hne]
  have e2 : ∀ y, mR (al M) j y = mR M j y := fun y => by simp [mR, al, hne]
  have e4 : mL (al M) j = mL M j := by simp [mL, al, hne]
  have e3 : fv Z (al M) j = fv Z M j := by
    funext ci y
    unfold fv
    rw [e1, e2, e4]
  unfold ce
  rw [e1, e3]
  simp only [e2]
theorem map_set_range {α : Type} (f g : Nat → α) (n k : Nat) (v : α) (hk : g k = v) (ho : ∀ j, j ≠ k → g j = f j) : ((List.range n).map f).set k v = (List.range n).map g := by
  apply List.ext_getElem?
  intro j
  by_cases hj : j = k
  · subst hj
    by_cases hl : j < n
    · rw [List.getElem?_set_self (by simpa using hl), List.getElem?_map, List.getElem?_range hl]
      simp [hk]
    · rw [List.getElem?_eq_none (by simp; omega), List.getElem?_eq_none (by simp; omega)]
  · rw [List.getElem?_set_ne (fun z => hj z.symm), List.getElem?_map, List.getElem?_map]
    by_cases hl : j < n
    · rw [List.getElem?_range hl]
      simp [ho j hj]
    · rw [List.getElem?_eq_none (by simp; omega)]
      rfl
theorem fv_get {Z : Zt} {M : Mem} {i ci n k : Nat} (hk : k < n) : ((List.range n).map (fv Z M i ci))[k]? = some (fv Z M i ci k) := by
  rw [List.getElem?_map, List.getElem?_range hk]
  rfl
theorem fits_ad (Z : Zt) (i : Nat) (ty : FieldType) (h : ty.isReference = true) : fits ty (ad Z i) = true ∧ narrow ty (ad Z i) = ad Z i := by
  rcases ad_or Z i with e | ⟨a, e⟩ <;> rw [e] <;> cases ty <;> first | exact ⟨rfl, rfl⟩ | simp [FieldType.isReference] at h
